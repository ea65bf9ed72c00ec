theorem dX10_feed_0 : decode cX10_feed 0 = .ok (.aload_n 0, 1) := by decide +kernel
theorem dX10_feed_1 : decode cX10_feed 1 = .ok (.getfield 10, 3) := by decide +kernel
theorem dX10_feed_4 : decode cX10_feed 4 = .ok (.getfield 89, 3) := by decide +kernel
theorem dX10_feed_7 : decode cX10_feed 7 = .ok (.bipush 20, 2) := by decide +kernel
theorem dX10_feed_9 : decode cX10_feed 9 = .ok (.iadd, 1) := by decide +kernel
theorem dX10_feed_10 : decode cX10_feed 10 = .ok (.sipush 800, 3) := by decide +kernel
theorem dX10_feed_13 : decode cX10_feed 13 = .ok (.if_icmp .le 5, 3) := by decide +kernel
theorem dX10_feed_16 : decode cX10_feed 16 = .ok (.iconst (-1), 1) := by decide +kernel
theorem dX10_feed_17 : decode cX10_feed 17 = .ok (.ireturn, 1) := by decide +kernel
theorem dX10_feed_18 : decode cX10_feed 18 = .ok (.aload_n 0, 1) := by decide +kernel
theorem dX10_feed_19 : decode cX10_feed 19 = .ok (.getfield 10, 3) := by decide +kernel
theorem dX10_feed_22 : decode cX10_feed 22 = .ok (.iload_n 1, 1) := by decide +kernel
theorem dX10_feed_23 : decode cX10_feed 23 = .ok (.invokevirtual 93, 3) := by decide +kernel
theorem dX10_feed_26 : decode cX10_feed 26 = .ok (.aload_n 0, 1) := by decide +kernel
theorem dX10_feed_27 : decode cX10_feed 27 = .ok (.getfield 10, 3) := by decide +kernel
theorem dX10_feed_30 : decode cX10_feed 30 = .ok (.iload_n 2, 1) := by decide +kernel
theorem dX10_feed_31 : decode cX10_feed 31 = .ok (.invokevirtual 93, 3) := by decide +kernel
theorem dX10_feed_34 : decode cX10_feed 34 = .ok (.aload_n 0, 1) := by decide +kernel
theorem dX10_feed_35 : decode cX10_feed 35 = .ok (.getfield 10, 3) := by decide +kernel
theorem dX10_feed_38 : decode cX10_feed 38 = .ok (.iload_n 3, 1) := by decide +kernel
theorem dX10_feed_39 : decode cX10_feed 39 = .ok (.invokevirtual 93, 3) := by decide +kernel
theorem dX10_feed_42 : decode cX10_feed 42 = .ok (.aload_n 0, 1) := by decide +kernel
theorem dX10_feed_43 : decode cX10_feed 43 = .ok (.getfield 10, 3) := by decide +kernel
theorem dX10_feed_46 : decode cX10_feed 46 = .ok (.iload 4, 2) := by decide +kernel
theorem dX10_feed_48 : decode cX10_feed 48 = .ok (.invokevirtual 93, 3) := by decide +kernel
theorem dX10_feed_51 : decode cX10_feed 51 = .ok (.aload_n 0, 1) := by decide +kernel
theorem dX10_feed_52 : decode cX10_feed 52 = .ok (.getfield 10, 3) := by decide +kernel
theorem dX10_feed_55 : decode cX10_feed 55 = .ok (.iload 5, 2) := by decide +kernel
theorem dX10_feed_57 : decode cX10_feed 57 = .ok (.invokevirtual 93, 3) := by decide +kernel
theorem dX10_feed_60 : decode cX10_feed 60 = .ok (.aload_n 0, 1) := by decide +kernel
theorem dX10_feed_61 : decode cX10_feed 61 = .ok (.getfield 10, 3) := by decide +kernel
theorem dX10_feed_64 : decode cX10_feed 64 = .ok (.getfield 89, 3) := by decide +kernel
theorem dX10_feed_67 : decode cX10_feed 67 = .ok (.ireturn, 1) := by decide +kernel
theorem dX10_end_0 : decode cX10_end 0 = .ok (.iload_n 1, 1) := by decide +kernel
theorem dX10_end_1 : decode cX10_end 1 = .ok (.ifCond .lt 14, 3) := by decide +kernel
theorem dX10_end_4 : decode cX10_end 4 = .ok (.iload_n 1, 1) := by decide +kernel
theorem dX10_end_5 : decode cX10_end 5 = .ok (.aload_n 0, 1) := by decide +kernel
theorem dX10_end_6 : decode cX10_end 6 = .ok (.getfield 10, 3) := by decide +kernel
theorem dX10_end_9 : decode cX10_end 9 = .ok (.getfield 89, 3) := by decide +kernel
theorem dX10_end_12 : decode cX10_end 12 = .ok (.if_icmp .le 5, 3) := by decide +kernel
theorem dX10_end_15 : decode cX10_end 15 = .ok (.iconst (-1), 1) := by decide +kernel
theorem dX10_end_16 : decode cX10_end 16 = .ok (.ireturn, 1) := by decide +kernel
theorem dX10_end_17 : decode cX10_end 17 = .ok (.aload_n 0, 1) := by decide +kernel
theorem dX10_end_18 : decode cX10_end 18 = .ok (.getfield 10, 3) := by decide +kernel
theorem dX10_end_21 : decode cX10_end 21 = .ok (.iload_n 1, 1) := by decide +kernel
theorem dX10_end_22 : decode cX10_end 22 = .ok (.putfield 89, 3) := by decide +kernel
theorem dX10_end_25 : decode cX10_end 25 = .ok (.iload_n 1, 1) := by decide +kernel
theorem dX10_end_26 : decode cX10_end 26 = .ok (.ireturn, 1) := by decide +kernel
theorem dX10_fault_0 : decode cX10_fault 0 = .ok (.iload_n 1, 1) := by decide +kernel
theorem dX10_fault_1 : decode cX10_fault 1 = .ok (.lookupswitch 43 #[(0, 27), (1, 35)], 27) := by decide +kernel
theorem dX10_fault_28 : decode cX10_fault 28 = .ok (.aload_n 0, 1) := by decide +kernel
theorem dX10_fault_29 : decode cX10_fault 29 = .ok (.getfield 10, 3) := by decide +kernel
theorem dX10_fault_32 : decode cX10_fault 32 = .ok (.getfield 112, 3) := by decide +kernel
theorem dX10_fault_35 : decode cX10_fault 35 = .ok (.ireturn, 1) := by decide +kernel
theorem dX10_fault_36 : decode cX10_fault 36 = .ok (.aload_n 0, 1) := by decide +kernel
theorem dX10_fault_37 : decode cX10_fault 37 = .ok (.getfield 10, 3) := by decide +kernel
theorem dX10_fault_40 : decode cX10_fault 40 = .ok (.getfield 115, 3) := by decide +kernel
theorem dX10_fault_43 : decode cX10_fault 43 = .ok (.ireturn, 1) := by decide +kernel
theorem dX10_fault_44 : decode cX10_fault 44 = .ok (.iconst (-1), 1) := by decide +kernel
theorem dX10_fault_45 : decode cX10_fault 45 = .ok (.ireturn, 1) := by decide +kernel
theorem dX10_forgetKinds_0 : decode cX10_forgetKinds 0 = .ok (.aload_n 0, 1) := by decide +kernel
theorem dX10_forgetKinds_1 : decode cX10_forgetKinds 1 = .ok (.iconst 0, 1) := by decide +kernel
theorem dX10_forgetKinds_2 : decode cX10_forgetKinds 2 = .ok (.putfield 389, 3) := by decide +kernel
theorem dX10_forgetKinds_5 : decode cX10_forgetKinds 5 = .ok (.aload_n 0, 1) := by decide +kernel
theorem dX10_forgetKinds_6 : decode cX10_forgetKinds 6 = .ok (.iconst 0, 1) := by decide +kernel
theorem dX10_forgetKinds_7 : decode cX10_forgetKinds 7 = .ok (.putfield 392, 3) := by decide +kernel
theorem dX10_forgetKinds_10 : decode cX10_forgetKinds 10 = .ok (.return_, 1) := by decide +kernel
theorem dX10_forgetAll_0 : decode cX10_forgetAll 0 = .ok (.aload_n 0, 1) := by decide +kernel
theorem dX10_forgetAll_1 : decode cX10_forgetAll 1 = .ok (.iconst 0, 1) := by decide +kernel
theorem dX10_forgetAll_2 : decode cX10_forgetAll 2 = .ok (.putfield 380, 3) := by decide +kernel
theorem dX10_forgetAll_5 : decode cX10_forgetAll 5 = .ok (.aload_n 0, 1) := by decide +kernel
theorem dX10_forgetAll_6 : decode cX10_forgetAll 6 = .ok (.iconst 0, 1) := by decide +kernel
theorem dX10_forgetAll_7 : decode cX10_forgetAll 7 = .ok (.putfield 383, 3) := by decide +kernel
theorem dX10_forgetAll_10 : decode cX10_forgetAll 10 = .ok (.aload_n 0, 1) := by decide +kernel
theorem dX10_forgetAll_11 : decode cX10_forgetAll 11 = .ok (.iconst 0, 1) := by decide +kernel
theorem dX10_forgetAll_12 : decode cX10_forgetAll 12 = .ok (.putfield 386, 3) := by decide +kernel
theorem dX10_forgetAll_15 : decode cX10_forgetAll 15 = .ok (.aload_n 0, 1) := by decide +kernel
theorem dX10_forgetAll_16 : decode cX10_forgetAll 16 = .ok (.invokevirtual 377, 3) := by decide +kernel
theorem dX10_forgetAll_19 : decode cX10_forgetAll 19 = .ok (.return_, 1) := by decide +kernel
theorem dX10_wantedDone_0 : decode cX10_wantedDone 0 = .ok (.aload_n 0, 1) := by decide +kernel
theorem dX10_wantedDone_1 : decode cX10_wantedDone 1 = .ok (.getfield 26, 3) := by decide +kernel
theorem dX10_wantedDone_4 : decode cX10_wantedDone 4 = .ok (.aload_n 0, 1) := by decide +kernel
theorem dX10_wantedDone_5 : decode cX10_wantedDone 5 = .ok (.getfield 19, 3) := by decide +kernel
theorem dX10_wantedDone_8 : decode cX10_wantedDone 8 = .ok (.invokevirtual 374, 3) := by decide +kernel
theorem dX10_wantedDone_11 : decode cX10_wantedDone 11 = .ok (.aload_n 0, 1) := by decide +kernel
theorem dX10_wantedDone_12 : decode cX10_wantedDone 12 = .ok (.invokevirtual 213, 3) := by decide +kernel
theorem dX10_wantedDone_15 : decode cX10_wantedDone 15 = .ok (.return_, 1) := by decide +kernel
theorem dX10_span_0 : decode cX10_span 0 = .ok (.iload_n 1, 1) := by decide +kernel
theorem dX10_span_1 : decode cX10_span 1 = .ok (.ifCond .lt 23, 3) := by decide +kernel
theorem dX10_span_4 : decode cX10_span 4 = .ok (.iload_n 1, 1) := by decide +kernel
theorem dX10_span_5 : decode cX10_span 5 = .ok (.iload_n 2, 1) := by decide +kernel
theorem dX10_span_6 : decode cX10_span 6 = .ok (.if_icmp .gt 18, 3) := by decide +kernel
theorem dX10_span_9 : decode cX10_span 9 = .ok (.iload_n 2, 1) := by decide +kernel
theorem dX10_span_10 : decode cX10_span 10 = .ok (.aload_n 0, 1) := by decide +kernel
theorem dX10_span_11 : decode cX10_span 11 = .ok (.getfield 19, 3) := by decide +kernel
theorem dX10_span_14 : decode cX10_span 14 = .ok (.getfield 118, 3) := by decide +kernel
theorem dX10_span_17 : decode cX10_span 17 = .ok (.if_icmp .ge 7, 3) := by decide +kernel
theorem dX10_span_20 : decode cX10_span 20 = .ok (.iconst 1, 1) := by decide +kernel
theorem dX10_span_21 : decode cX10_span 21 = .ok (.goto 4, 3) := by decide +kernel
theorem dX10_span_24 : decode cX10_span 24 = .ok (.iconst 0, 1) := by decide +kernel
theorem dX10_span_25 : decode cX10_span 25 = .ok (.istore 4, 2) := by decide +kernel
theorem dX10_span_27 : decode cX10_span 27 = .ok (.iload 4, 2) := by decide +kernel
theorem dX10_span_29 : decode cX10_span 29 = .ok (.ifCond .eq 22, 3) := by decide +kernel
theorem dX10_span_32 : decode cX10_span 32 = .ok (.iload_n 3, 1) := by decide +kernel
theorem dX10_span_33 : decode cX10_span 33 = .ok (.invokestatic 121, 3) := by decide +kernel
theorem dX10_span_36 : decode cX10_span 36 = .ok (.ifCond .eq 15, 3) := by decide +kernel
theorem dX10_span_39 : decode cX10_span 39 = .ok (.aload_n 0, 1) := by decide +kernel
theorem dX10_span_40 : decode cX10_span 40 = .ok (.getfield 19, 3) := by decide +kernel
theorem dX10_span_43 : decode cX10_span 43 = .ok (.getfield 109, 3) := by decide +kernel
theorem dX10_span_46 : decode cX10_span 46 = .ok (.bipush 12, 2) := by decide +kernel
theorem dX10_span_48 : decode cX10_span 48 = .ok (.if_icmp .lt 5, 3) := by decide +kernel
theorem dX10_span_51 : decode cX10_span 51 = .ok (.iconst (-1), 1) := by decide +kernel
theorem dX10_span_52 : decode cX10_span 52 = .ok (.ireturn, 1) := by decide +kernel
theorem dX10_span_53 : decode cX10_span 53 = .ok (.aload_n 0, 1) := by decide +kernel
theorem dX10_span_54 : decode cX10_span 54 = .ok (.getfield 19, 3) := by decide +kernel
theorem dX10_span_57 : decode cX10_span 57 = .ok (.iload_n 1, 1) := by decide +kernel
theorem dX10_span_58 : decode cX10_span 58 = .ok (.iload_n 2, 1) := by decide +kernel
theorem dX10_span_59 : decode cX10_span 59 = .ok (.iload_n 3, 1) := by decide +kernel
theorem dX10_span_60 : decode cX10_span 60 = .ok (.invokevirtual 125, 3) := by decide +kernel
theorem dX10_span_63 : decode cX10_span 63 = .ok (.aload_n 0, 1) := by decide +kernel
theorem dX10_span_64 : decode cX10_span 64 = .ok (.invokevirtual 129, 3) := by decide +kernel
theorem dX10_span_67 : decode cX10_span 67 = .ok (.aload_n 0, 1) := by decide +kernel
theorem dX10_span_68 : decode cX10_span 68 = .ok (.getfield 19, 3) := by decide +kernel
theorem dX10_span_71 : decode cX10_span 71 = .ok (.getfield 109, 3) := by decide +kernel
theorem dX10_span_74 : decode cX10_span 74 = .ok (.iconst 1, 1) := by decide +kernel
theorem dX10_span_75 : decode cX10_span 75 = .ok (.isub, 1) := by decide +kernel
theorem dX10_span_76 : decode cX10_span 76 = .ok (.ireturn, 1) := by decide +kernel
theorem dX10_drop_0 : decode cX10_drop 0 = .ok (.iload_n 1, 1) := by decide +kernel
theorem dX10_drop_1 : decode cX10_drop 1 = .ok (.ifCond .lt 14, 3) := by decide +kernel
theorem dX10_drop_4 : decode cX10_drop 4 = .ok (.iload_n 1, 1) := by decide +kernel
theorem dX10_drop_5 : decode cX10_drop 5 = .ok (.aload_n 0, 1) := by decide +kernel
theorem dX10_drop_6 : decode cX10_drop 6 = .ok (.getfield 19, 3) := by decide +kernel
theorem dX10_drop_9 : decode cX10_drop 9 = .ok (.getfield 109, 3) := by decide +kernel
theorem dX10_drop_12 : decode cX10_drop 12 = .ok (.if_icmp .lt 5, 3) := by decide +kernel
theorem dX10_drop_15 : decode cX10_drop 15 = .ok (.iconst (-1), 1) := by decide +kernel
theorem dX10_drop_16 : decode cX10_drop 16 = .ok (.ireturn, 1) := by decide +kernel
theorem dX10_drop_17 : decode cX10_drop 17 = .ok (.aload_n 0, 1) := by decide +kernel
theorem dX10_drop_18 : decode cX10_drop 18 = .ok (.getfield 19, 3) := by decide +kernel
theorem dX10_drop_21 : decode cX10_drop 21 = .ok (.iload_n 1, 1) := by decide +kernel
theorem dX10_drop_22 : decode cX10_drop 22 = .ok (.invokevirtual 132, 3) := by decide +kernel
theorem dX10_drop_25 : decode cX10_drop 25 = .ok (.aload_n 0, 1) := by decide +kernel
theorem dX10_drop_26 : decode cX10_drop 26 = .ok (.invokevirtual 129, 3) := by decide +kernel
theorem dX10_drop_29 : decode cX10_drop 29 = .ok (.aload_n 0, 1) := by decide +kernel
theorem dX10_drop_30 : decode cX10_drop 30 = .ok (.getfield 19, 3) := by decide +kernel
theorem dX10_drop_33 : decode cX10_drop 33 = .ok (.getfield 109, 3) := by decide +kernel
theorem dX10_drop_36 : decode cX10_drop 36 = .ok (.ireturn, 1) := by decide +kernel
theorem dX10_prefer_0 : decode cX10_prefer 0 = .ok (.iload_n 1, 1) := by decide +kernel
theorem dX10_prefer_1 : decode cX10_prefer 1 = .ok (.invokestatic 121, 3) := by decide +kernel
theorem dX10_prefer_4 : decode cX10_prefer 4 = .ok (.ifCond .ne 5, 3) := by decide +kernel
theorem dX10_prefer_7 : decode cX10_prefer 7 = .ok (.iconst (-1), 1) := by decide +kernel
theorem dX10_prefer_8 : decode cX10_prefer 8 = .ok (.ireturn, 1) := by decide +kernel
theorem dX10_prefer_9 : decode cX10_prefer 9 = .ok (.aload_n 0, 1) := by decide +kernel
theorem dX10_prefer_10 : decode cX10_prefer 10 = .ok (.getfield 19, 3) := by decide +kernel
theorem dX10_prefer_13 : decode cX10_prefer 13 = .ok (.getfield 135, 3) := by decide +kernel
theorem dX10_prefer_16 : decode cX10_prefer 16 = .ok (.istore_n 2, 1) := by decide +kernel
theorem dX10_prefer_17 : decode cX10_prefer 17 = .ok (.aload_n 0, 1) := by decide +kernel
theorem dX10_prefer_18 : decode cX10_prefer 18 = .ok (.getfield 19, 3) := by decide +kernel
theorem dX10_prefer_21 : decode cX10_prefer 21 = .ok (.iload_n 1, 1) := by decide +kernel
theorem dX10_prefer_22 : decode cX10_prefer 22 = .ok (.putfield 135, 3) := by decide +kernel
theorem dX10_prefer_25 : decode cX10_prefer 25 = .ok (.aload_n 0, 1) := by decide +kernel
theorem dX10_prefer_26 : decode cX10_prefer 26 = .ok (.invokevirtual 129, 3) := by decide +kernel
theorem dX10_prefer_29 : decode cX10_prefer 29 = .ok (.iload_n 2, 1) := by decide +kernel
theorem dX10_prefer_30 : decode cX10_prefer 30 = .ok (.ireturn, 1) := by decide +kernel
theorem dX10_kindsDone_0 : decode cX10_kindsDone 0 = .ok (.aload_n 0, 1) := by decide +kernel
theorem dX10_kindsDone_1 : decode cX10_kindsDone 1 = .ok (.getfield 26, 3) := by decide +kernel
theorem dX10_kindsDone_4 : decode cX10_kindsDone 4 = .ok (.aload_n 0, 1) := by decide +kernel
theorem dX10_kindsDone_5 : decode cX10_kindsDone 5 = .ok (.getfield 19, 3) := by decide +kernel
theorem dX10_kindsDone_8 : decode cX10_kindsDone 8 = .ok (.invokevirtual 374, 3) := by decide +kernel
theorem dX10_kindsDone_11 : decode cX10_kindsDone 11 = .ok (.aload_n 0, 1) := by decide +kernel
theorem dX10_kindsDone_12 : decode cX10_kindsDone 12 = .ok (.invokevirtual 377, 3) := by decide +kernel
theorem dX10_kindsDone_15 : decode cX10_kindsDone 15 = .ok (.return_, 1) := by decide +kernel
theorem dX10_fix_0 : decode cX10_fix 0 = .ok (.aload_n 0, 1) := by decide +kernel
theorem dX10_fix_1 : decode cX10_fix 1 = .ok (.getfield 19, 3) := by decide +kernel
theorem dX10_fix_4 : decode cX10_fix 4 = .ok (.iload_n 1, 1) := by decide +kernel
theorem dX10_fix_5 : decode cX10_fix 5 = .ok (.invokevirtual 138, 3) := by decide +kernel
theorem dX10_fix_8 : decode cX10_fix 8 = .ok (.ifCond .eq 10, 3) := by decide +kernel
theorem dX10_fix_11 : decode cX10_fix 11 = .ok (.iload_n 2, 1) := by decide +kernel
theorem dX10_fix_12 : decode cX10_fix 12 = .ok (.invokestatic 121, 3) := by decide +kernel
theorem dX10_fix_15 : decode cX10_fix 15 = .ok (.ifCond .ne 5, 3) := by decide +kernel
theorem dX10_fix_18 : decode cX10_fix 18 = .ok (.iconst (-1), 1) := by decide +kernel
theorem dX10_fix_19 : decode cX10_fix 19 = .ok (.ireturn, 1) := by decide +kernel
theorem dX10_fix_20 : decode cX10_fix 20 = .ok (.aload_n 0, 1) := by decide +kernel
theorem dX10_fix_21 : decode cX10_fix 21 = .ok (.getfield 19, 3) := by decide +kernel
theorem dX10_fix_24 : decode cX10_fix 24 = .ok (.getfield 141, 3) := by decide +kernel
theorem dX10_fix_27 : decode cX10_fix 27 = .ok (.iload_n 1, 1) := by decide +kernel
theorem dX10_fix_28 : decode cX10_fix 28 = .ok (.iaload, 1) := by decide +kernel
theorem dX10_fix_29 : decode cX10_fix 29 = .ok (.istore_n 3, 1) := by decide +kernel
theorem dX10_fix_30 : decode cX10_fix 30 = .ok (.aload_n 0, 1) := by decide +kernel
theorem dX10_fix_31 : decode cX10_fix 31 = .ok (.getfield 19, 3) := by decide +kernel
theorem dX10_fix_34 : decode cX10_fix 34 = .ok (.getfield 141, 3) := by decide +kernel
theorem dX10_fix_37 : decode cX10_fix 37 = .ok (.iload_n 1, 1) := by decide +kernel
theorem dX10_fix_38 : decode cX10_fix 38 = .ok (.iload_n 2, 1) := by decide +kernel
theorem dX10_fix_39 : decode cX10_fix 39 = .ok (.iastore, 1) := by decide +kernel
theorem dX10_fix_40 : decode cX10_fix 40 = .ok (.aload_n 0, 1) := by decide +kernel
theorem dX10_fix_41 : decode cX10_fix 41 = .ok (.invokevirtual 144, 3) := by decide +kernel
theorem dX10_fix_44 : decode cX10_fix 44 = .ok (.iload_n 3, 1) := by decide +kernel
theorem dX10_fix_45 : decode cX10_fix 45 = .ok (.ireturn, 1) := by decide +kernel
theorem dX10_set_0 : decode cX10_set 0 = .ok (.aload_n 0, 1) := by decide +kernel
theorem dX10_set_1 : decode cX10_set 1 = .ok (.getfield 19, 3) := by decide +kernel
theorem dX10_set_4 : decode cX10_set 4 = .ok (.iload_n 1, 1) := by decide +kernel
theorem dX10_set_5 : decode cX10_set 5 = .ok (.invokevirtual 147, 3) := by decide +kernel
theorem dX10_set_8 : decode cX10_set 8 = .ok (.ifCond .eq 23, 3) := by decide +kernel
theorem dX10_set_11 : decode cX10_set 11 = .ok (.aload_n 0, 1) := by decide +kernel
theorem dX10_set_12 : decode cX10_set 12 = .ok (.getfield 19, 3) := by decide +kernel
theorem dX10_set_15 : decode cX10_set 15 = .ok (.iload_n 2, 1) := by decide +kernel
theorem dX10_set_16 : decode cX10_set 16 = .ok (.iload_n 3, 1) := by decide +kernel
theorem dX10_set_17 : decode cX10_set 17 = .ok (.invokevirtual 150, 3) := by decide +kernel
theorem dX10_set_20 : decode cX10_set 20 = .ok (.ifCond .eq 11, 3) := by decide +kernel
theorem dX10_set_23 : decode cX10_set 23 = .ok (.iload 4, 2) := by decide +kernel
theorem dX10_set_25 : decode cX10_set 25 = .ok (.invokestatic 121, 3) := by decide +kernel
theorem dX10_set_28 : decode cX10_set 28 = .ok (.ifCond .ne 5, 3) := by decide +kernel
theorem dX10_set_31 : decode cX10_set 31 = .ok (.iconst 0, 1) := by decide +kernel
theorem dX10_set_32 : decode cX10_set 32 = .ok (.ireturn, 1) := by decide +kernel
theorem dX10_set_33 : decode cX10_set 33 = .ok (.aload_n 0, 1) := by decide +kernel
theorem dX10_set_34 : decode cX10_set 34 = .ok (.getfield 19, 3) := by decide +kernel
theorem dX10_set_37 : decode cX10_set 37 = .ok (.iload_n 2, 1) := by decide +kernel
theorem dX10_set_38 : decode cX10_set 38 = .ok (.iload_n 3, 1) := by decide +kernel
theorem dX10_set_39 : decode cX10_set 39 = .ok (.invokevirtual 154, 3) := by decide +kernel
theorem dX10_set_42 : decode cX10_set 42 = .ok (.istore 5, 2) := by decide +kernel
theorem dX10_set_44 : decode cX10_set 44 = .ok (.iload 5, 2) := by decide +kernel
theorem dX10_set_46 : decode cX10_set 46 = .ok (.iconst (-1), 1) := by decide +kernel
theorem dX10_set_47 : decode cX10_set 47 = .ok (.if_icmp .eq 11, 3) := by decide +kernel
theorem dX10_set_50 : decode cX10_set 50 = .ok (.iload 5, 2) := by decide +kernel
theorem dX10_set_52 : decode cX10_set 52 = .ok (.iload_n 1, 1) := by decide +kernel
theorem dX10_set_53 : decode cX10_set 53 = .ok (.if_icmp .eq 5, 3) := by decide +kernel
theorem dX10_set_56 : decode cX10_set 56 = .ok (.iconst 0, 1) := by decide +kernel
theorem dX10_set_57 : decode cX10_set 57 = .ok (.ireturn, 1) := by decide +kernel
theorem dX10_set_58 : decode cX10_set 58 = .ok (.aload_n 0, 1) := by decide +kernel
theorem dX10_set_59 : decode cX10_set 59 = .ok (.getfield 19, 3) := by decide +kernel
theorem dX10_set_62 : decode cX10_set 62 = .ok (.iload_n 1, 1) := by decide +kernel
theorem dX10_set_63 : decode cX10_set 63 = .ok (.iload_n 2, 1) := by decide +kernel
theorem dX10_set_64 : decode cX10_set 64 = .ok (.iload_n 3, 1) := by decide +kernel
theorem dX10_set_65 : decode cX10_set 65 = .ok (.iload 4, 2) := by decide +kernel
theorem dX10_set_67 : decode cX10_set 67 = .ok (.invokevirtual 158, 3) := by decide +kernel
theorem dX10_set_70 : decode cX10_set 70 = .ok (.aload_n 0, 1) := by decide +kernel
theorem dX10_set_71 : decode cX10_set 71 = .ok (.invokevirtual 144, 3) := by decide +kernel
theorem dX10_set_74 : decode cX10_set 74 = .ok (.iconst 1, 1) := by decide +kernel
theorem dX10_set_75 : decode cX10_set 75 = .ok (.ireturn, 1) := by decide +kernel
theorem dX10_clear_0 : decode cX10_clear 0 = .ok (.aload_n 0, 1) := by decide +kernel
theorem dX10_clear_1 : decode cX10_clear 1 = .ok (.getfield 19, 3) := by decide +kernel
theorem dX10_clear_4 : decode cX10_clear 4 = .ok (.iload_n 1, 1) := by decide +kernel
theorem dX10_clear_5 : decode cX10_clear 5 = .ok (.invokevirtual 162, 3) := by decide +kernel
theorem dX10_clear_8 : decode cX10_clear 8 = .ok (.ifCond .ne 5, 3) := by decide +kernel
theorem dX10_clear_11 : decode cX10_clear 11 = .ok (.iconst 0, 1) := by decide +kernel
theorem dX10_clear_12 : decode cX10_clear 12 = .ok (.ireturn, 1) := by decide +kernel
theorem dX10_clear_13 : decode cX10_clear 13 = .ok (.aload_n 0, 1) := by decide +kernel
theorem dX10_clear_14 : decode cX10_clear 14 = .ok (.getfield 19, 3) := by decide +kernel
theorem dX10_clear_17 : decode cX10_clear 17 = .ok (.iload_n 1, 1) := by decide +kernel
theorem dX10_clear_18 : decode cX10_clear 18 = .ok (.iconst 0, 1) := by decide +kernel
theorem dX10_clear_19 : decode cX10_clear 19 = .ok (.iconst 0, 1) := by decide +kernel
theorem dX10_clear_20 : decode cX10_clear 20 = .ok (.iconst 0, 1) := by decide +kernel
theorem dX10_clear_21 : decode cX10_clear 21 = .ok (.invokevirtual 158, 3) := by decide +kernel
theorem dX10_clear_24 : decode cX10_clear 24 = .ok (.aload_n 0, 1) := by decide +kernel
theorem dX10_clear_25 : decode cX10_clear 25 = .ok (.invokevirtual 144, 3) := by decide +kernel
theorem dX10_clear_28 : decode cX10_clear 28 = .ok (.iconst 1, 1) := by decide +kernel
theorem dX10_clear_29 : decode cX10_clear 29 = .ok (.ireturn, 1) := by decide +kernel
theorem dX10_planNow_0 : decode cX10_planNow 0 = .ok (.aload_n 0, 1) := by decide +kernel
theorem dX10_planNow_1 : decode cX10_planNow 1 = .ok (.getfield 380, 3) := by decide +kernel
theorem dX10_planNow_4 : decode cX10_planNow 4 = .ok (.ifCond .ne 23, 3) := by decide +kernel
theorem dX10_planNow_7 : decode cX10_planNow 7 = .ok (.aload_n 0, 1) := by decide +kernel
theorem dX10_planNow_8 : decode cX10_planNow 8 = .ok (.getfield 61, 3) := by decide +kernel
theorem dX10_planNow_11 : decode cX10_planNow 11 = .ok (.aload_n 0, 1) := by decide +kernel
theorem dX10_planNow_12 : decode cX10_planNow 12 = .ok (.getfield 19, 3) := by decide +kernel
theorem dX10_planNow_15 : decode cX10_planNow 15 = .ok (.aload_n 0, 1) := by decide +kernel
theorem dX10_planNow_16 : decode cX10_planNow 16 = .ok (.getfield 68, 3) := by decide +kernel
theorem dX10_planNow_19 : decode cX10_planNow 19 = .ok (.invokevirtual 398, 3) := by decide +kernel
theorem dX10_planNow_22 : decode cX10_planNow 22 = .ok (.aload_n 0, 1) := by decide +kernel
theorem dX10_planNow_23 : decode cX10_planNow 23 = .ok (.iconst 1, 1) := by decide +kernel
theorem dX10_planNow_24 : decode cX10_planNow 24 = .ok (.putfield 380, 3) := by decide +kernel
theorem dX10_planNow_27 : decode cX10_planNow 27 = .ok (.aload_n 0, 1) := by decide +kernel
theorem dX10_planNow_28 : decode cX10_planNow 28 = .ok (.getfield 68, 3) := by decide +kernel
theorem dX10_planNow_31 : decode cX10_planNow 31 = .ok (.areturn, 1) := by decide +kernel
theorem dX10_lay_0 : decode cX10_lay 0 = .ok (.aload_n 0, 1) := by decide +kernel
theorem dX10_lay_1 : decode cX10_lay 1 = .ok (.invokevirtual 165, 3) := by decide +kernel
theorem dX10_lay_4 : decode cX10_lay 4 = .ok (.astore_n 1, 1) := by decide +kernel
theorem dX10_lay_5 : decode cX10_lay 5 = .ok (.aload_n 1, 1) := by decide +kernel
theorem dX10_lay_6 : decode cX10_lay 6 = .ok (.getfield 169, 3) := by decide +kernel
theorem dX10_lay_9 : decode cX10_lay 9 = .ok (.aload_n 0, 1) := by decide +kernel
theorem dX10_lay_10 : decode cX10_lay 10 = .ok (.getfield 19, 3) := by decide +kernel
theorem dX10_lay_13 : decode cX10_lay 13 = .ok (.getfield 172, 3) := by decide +kernel
theorem dX10_lay_16 : decode cX10_lay 16 = .ok (.if_icmp .le 5, 3) := by decide +kernel
theorem dX10_lay_19 : decode cX10_lay 19 = .ok (.iconst (-1), 1) := by decide +kernel
theorem dX10_lay_20 : decode cX10_lay 20 = .ok (.ireturn, 1) := by decide +kernel
theorem dX10_lay_21 : decode cX10_lay 21 = .ok (.aload_n 0, 1) := by decide +kernel
theorem dX10_lay_22 : decode cX10_lay 22 = .ok (.getfield 19, 3) := by decide +kernel
theorem dX10_lay_25 : decode cX10_lay 25 = .ok (.aload_n 1, 1) := by decide +kernel
theorem dX10_lay_26 : decode cX10_lay 26 = .ok (.invokevirtual 175, 3) := by decide +kernel
theorem dX10_lay_29 : decode cX10_lay 29 = .ok (.aload_n 0, 1) := by decide +kernel
theorem dX10_lay_30 : decode cX10_lay 30 = .ok (.invokevirtual 144, 3) := by decide +kernel
theorem dX10_lay_33 : decode cX10_lay 33 = .ok (.aload_n 1, 1) := by decide +kernel
theorem dX10_lay_34 : decode cX10_lay 34 = .ok (.getfield 169, 3) := by decide +kernel
theorem dX10_lay_37 : decode cX10_lay 37 = .ok (.ireturn, 1) := by decide +kernel
theorem dX10_page_0 : decode cX10_page 0 = .ok (.aload_n 0, 1) := by decide +kernel
theorem dX10_page_1 : decode cX10_page 1 = .ok (.getfield 19, 3) := by decide +kernel
theorem dX10_page_4 : decode cX10_page 4 = .ok (.iload_n 1, 1) := by decide +kernel
theorem dX10_page_5 : decode cX10_page 5 = .ok (.invokevirtual 179, 3) := by decide +kernel
theorem dX10_page_8 : decode cX10_page 8 = .ok (.ifCond .eq 12, 3) := by decide +kernel
theorem dX10_page_11 : decode cX10_page 11 = .ok (.iload_n 2, 1) := by decide +kernel
theorem dX10_page_12 : decode cX10_page 12 = .ok (.ifCond .lt 8, 3) := by decide +kernel
theorem dX10_page_15 : decode cX10_page 15 = .ok (.iload_n 2, 1) := by decide +kernel
theorem dX10_page_16 : decode cX10_page 16 = .ok (.iconst 5, 1) := by decide +kernel
theorem dX10_page_17 : decode cX10_page 17 = .ok (.if_icmp .le 5, 3) := by decide +kernel
theorem dX10_page_20 : decode cX10_page 20 = .ok (.iconst (-1), 1) := by decide +kernel
theorem dX10_page_21 : decode cX10_page 21 = .ok (.ireturn, 1) := by decide +kernel
theorem dX10_page_22 : decode cX10_page 22 = .ok (.aload_n 0, 1) := by decide +kernel
theorem dX10_page_23 : decode cX10_page 23 = .ok (.getfield 19, 3) := by decide +kernel
theorem dX10_page_26 : decode cX10_page 26 = .ok (.getfield 182, 3) := by decide +kernel
theorem dX10_page_29 : decode cX10_page 29 = .ok (.iload_n 1, 1) := by decide +kernel
theorem dX10_page_30 : decode cX10_page 30 = .ok (.iaload, 1) := by decide +kernel
theorem dX10_page_31 : decode cX10_page 31 = .ok (.istore_n 3, 1) := by decide +kernel
theorem dX10_page_32 : decode cX10_page 32 = .ok (.aload_n 0, 1) := by decide +kernel
theorem dX10_page_33 : decode cX10_page 33 = .ok (.getfield 19, 3) := by decide +kernel
theorem dX10_page_36 : decode cX10_page 36 = .ok (.getfield 182, 3) := by decide +kernel
theorem dX10_page_39 : decode cX10_page 39 = .ok (.iload_n 1, 1) := by decide +kernel
theorem dX10_page_40 : decode cX10_page 40 = .ok (.iload_n 2, 1) := by decide +kernel
theorem dX10_page_41 : decode cX10_page 41 = .ok (.iastore, 1) := by decide +kernel
theorem dX10_page_42 : decode cX10_page 42 = .ok (.aload_n 0, 1) := by decide +kernel
theorem dX10_page_43 : decode cX10_page 43 = .ok (.invokevirtual 144, 3) := by decide +kernel
theorem dX10_page_46 : decode cX10_page 46 = .ok (.iload_n 3, 1) := by decide +kernel
theorem dX10_page_47 : decode cX10_page 47 = .ok (.ireturn, 1) := by decide +kernel
theorem dX10_piecesNow_0 : decode cX10_piecesNow 0 = .ok (.aload_n 0, 1) := by decide +kernel
theorem dX10_piecesNow_1 : decode cX10_piecesNow 1 = .ok (.getfield 389, 3) := by decide +kernel
theorem dX10_piecesNow_4 : decode cX10_piecesNow 4 = .ok (.ifCond .ne 19, 3) := by decide +kernel
theorem dX10_piecesNow_7 : decode cX10_piecesNow 7 = .ok (.aload_n 0, 1) := by decide +kernel
theorem dX10_piecesNow_8 : decode cX10_piecesNow 8 = .ok (.getfield 54, 3) := by decide +kernel
theorem dX10_piecesNow_11 : decode cX10_piecesNow 11 = .ok (.aload_n 0, 1) := by decide +kernel
theorem dX10_piecesNow_12 : decode cX10_piecesNow 12 = .ok (.getfield 19, 3) := by decide +kernel
theorem dX10_piecesNow_15 : decode cX10_piecesNow 15 = .ok (.invokevirtual 395, 3) := by decide +kernel
theorem dX10_piecesNow_18 : decode cX10_piecesNow 18 = .ok (.aload_n 0, 1) := by decide +kernel
theorem dX10_piecesNow_19 : decode cX10_piecesNow 19 = .ok (.iconst 1, 1) := by decide +kernel
theorem dX10_piecesNow_20 : decode cX10_piecesNow 20 = .ok (.putfield 389, 3) := by decide +kernel
theorem dX10_piecesNow_23 : decode cX10_piecesNow 23 = .ok (.aload_n 0, 1) := by decide +kernel
theorem dX10_piecesNow_24 : decode cX10_piecesNow 24 = .ok (.getfield 54, 3) := by decide +kernel
theorem dX10_piecesNow_27 : decode cX10_piecesNow 27 = .ok (.areturn, 1) := by decide +kernel
theorem dX10_mend_0 : decode cX10_mend 0 = .ok (.aload_n 0, 1) := by decide +kernel
theorem dX10_mend_1 : decode cX10_mend 1 = .ok (.invokevirtual 185, 3) := by decide +kernel
theorem dX10_mend_4 : decode cX10_mend 4 = .ok (.astore_n 1, 1) := by decide +kernel
theorem dX10_mend_5 : decode cX10_mend 5 = .ok (.iconst 0, 1) := by decide +kernel
theorem dX10_mend_6 : decode cX10_mend 6 = .ok (.istore_n 2, 1) := by decide +kernel
theorem dX10_mend_7 : decode cX10_mend 7 = .ok (.iconst 0, 1) := by decide +kernel
theorem dX10_mend_8 : decode cX10_mend 8 = .ok (.istore_n 3, 1) := by decide +kernel
theorem dX10_mend_9 : decode cX10_mend 9 = .ok (.iload_n 3, 1) := by decide +kernel
theorem dX10_mend_10 : decode cX10_mend 10 = .ok (.aload_n 0, 1) := by decide +kernel
theorem dX10_mend_11 : decode cX10_mend 11 = .ok (.getfield 19, 3) := by decide +kernel
theorem dX10_mend_14 : decode cX10_mend 14 = .ok (.invokevirtual 189, 3) := by decide +kernel
theorem dX10_mend_17 : decode cX10_mend 17 = .ok (.if_icmp .ge 50, 3) := by decide +kernel
theorem dX10_mend_20 : decode cX10_mend 20 = .ok (.aload_n 1, 1) := by decide +kernel
theorem dX10_mend_21 : decode cX10_mend 21 = .ok (.iload_n 3, 1) := by decide +kernel
theorem dX10_mend_22 : decode cX10_mend 22 = .ok (.invokevirtual 193, 3) := by decide +kernel
theorem dX10_mend_25 : decode cX10_mend 25 = .ok (.istore 4, 2) := by decide +kernel
theorem dX10_mend_27 : decode cX10_mend 27 = .ok (.iload 4, 2) := by decide +kernel
theorem dX10_mend_29 : decode cX10_mend 29 = .ok (.iconst (-1), 1) := by decide +kernel
theorem dX10_mend_30 : decode cX10_mend 30 = .ok (.if_icmp .eq 31, 3) := by decide +kernel
theorem dX10_mend_33 : decode cX10_mend 33 = .ok (.iload 4, 2) := by decide +kernel
theorem dX10_mend_35 : decode cX10_mend 35 = .ok (.aload_n 0, 1) := by decide +kernel
theorem dX10_mend_36 : decode cX10_mend 36 = .ok (.getfield 19, 3) := by decide +kernel
theorem dX10_mend_39 : decode cX10_mend 39 = .ok (.getfield 182, 3) := by decide +kernel
theorem dX10_mend_42 : decode cX10_mend 42 = .ok (.iload_n 3, 1) := by decide +kernel
theorem dX10_mend_43 : decode cX10_mend 43 = .ok (.iaload, 1) := by decide +kernel
theorem dX10_mend_44 : decode cX10_mend 44 = .ok (.if_icmp .eq 17, 3) := by decide +kernel
theorem dX10_mend_47 : decode cX10_mend 47 = .ok (.aload_n 0, 1) := by decide +kernel
theorem dX10_mend_48 : decode cX10_mend 48 = .ok (.getfield 19, 3) := by decide +kernel
theorem dX10_mend_51 : decode cX10_mend 51 = .ok (.getfield 182, 3) := by decide +kernel
theorem dX10_mend_54 : decode cX10_mend 54 = .ok (.iload_n 3, 1) := by decide +kernel
theorem dX10_mend_55 : decode cX10_mend 55 = .ok (.iload 4, 2) := by decide +kernel
theorem dX10_mend_57 : decode cX10_mend 57 = .ok (.iastore, 1) := by decide +kernel
theorem dX10_mend_58 : decode cX10_mend 58 = .ok (.iinc 2 1, 3) := by decide +kernel
theorem dX10_mend_61 : decode cX10_mend 61 = .ok (.iinc 3 1, 3) := by decide +kernel
theorem dX10_mend_64 : decode cX10_mend 64 = .ok (.goto (-55), 3) := by decide +kernel
theorem dX10_mend_67 : decode cX10_mend 67 = .ok (.aload_n 0, 1) := by decide +kernel
theorem dX10_mend_68 : decode cX10_mend 68 = .ok (.invokevirtual 144, 3) := by decide +kernel
theorem dX10_mend_71 : decode cX10_mend 71 = .ok (.iload_n 2, 1) := by decide +kernel
theorem dX10_mend_72 : decode cX10_mend 72 = .ok (.ireturn, 1) := by decide +kernel
theorem dX10_pagedNow_0 : decode cX10_pagedNow 0 = .ok (.aload_n 0, 1) := by decide +kernel
theorem dX10_pagedNow_1 : decode cX10_pagedNow 1 = .ok (.getfield 383, 3) := by decide +kernel
theorem dX10_pagedNow_4 : decode cX10_pagedNow 4 = .ok (.ifCond .ne 27, 3) := by decide +kernel
theorem dX10_pagedNow_7 : decode cX10_pagedNow 7 = .ok (.aload_n 0, 1) := by decide +kernel
theorem dX10_pagedNow_8 : decode cX10_pagedNow 8 = .ok (.getfield 61, 3) := by decide +kernel
theorem dX10_pagedNow_11 : decode cX10_pagedNow 11 = .ok (.aload_n 0, 1) := by decide +kernel
theorem dX10_pagedNow_12 : decode cX10_pagedNow 12 = .ok (.getfield 19, 3) := by decide +kernel
theorem dX10_pagedNow_15 : decode cX10_pagedNow 15 = .ok (.aload_n 0, 1) := by decide +kernel
theorem dX10_pagedNow_16 : decode cX10_pagedNow 16 = .ok (.getfield 72, 3) := by decide +kernel
theorem dX10_pagedNow_19 : decode cX10_pagedNow 19 = .ok (.aload_n 0, 1) := by decide +kernel
theorem dX10_pagedNow_20 : decode cX10_pagedNow 20 = .ok (.getfield 75, 3) := by decide +kernel
theorem dX10_pagedNow_23 : decode cX10_pagedNow 23 = .ok (.invokevirtual 402, 3) := by decide +kernel
theorem dX10_pagedNow_26 : decode cX10_pagedNow 26 = .ok (.aload_n 0, 1) := by decide +kernel
theorem dX10_pagedNow_27 : decode cX10_pagedNow 27 = .ok (.iconst 1, 1) := by decide +kernel
theorem dX10_pagedNow_28 : decode cX10_pagedNow 28 = .ok (.putfield 383, 3) := by decide +kernel
theorem dX10_pagedNow_31 : decode cX10_pagedNow 31 = .ok (.aload_n 0, 1) := by decide +kernel
theorem dX10_pagedNow_32 : decode cX10_pagedNow 32 = .ok (.getfield 72, 3) := by decide +kernel
theorem dX10_pagedNow_35 : decode cX10_pagedNow 35 = .ok (.areturn, 1) := by decide +kernel
theorem dX10_layAll_0 : decode cX10_layAll 0 = .ok (.aload_n 0, 1) := by decide +kernel
theorem dX10_layAll_1 : decode cX10_layAll 1 = .ok (.invokevirtual 197, 3) := by decide +kernel
theorem dX10_layAll_4 : decode cX10_layAll 4 = .ok (.astore_n 1, 1) := by decide +kernel
theorem dX10_layAll_5 : decode cX10_layAll 5 = .ok (.aload_n 1, 1) := by decide +kernel
theorem dX10_layAll_6 : decode cX10_layAll 6 = .ok (.getfield 169, 3) := by decide +kernel
theorem dX10_layAll_9 : decode cX10_layAll 9 = .ok (.aload_n 0, 1) := by decide +kernel
theorem dX10_layAll_10 : decode cX10_layAll 10 = .ok (.getfield 19, 3) := by decide +kernel
theorem dX10_layAll_13 : decode cX10_layAll 13 = .ok (.getfield 172, 3) := by decide +kernel
theorem dX10_layAll_16 : decode cX10_layAll 16 = .ok (.if_icmp .le 5, 3) := by decide +kernel
theorem dX10_layAll_19 : decode cX10_layAll 19 = .ok (.iconst (-1), 1) := by decide +kernel
theorem dX10_layAll_20 : decode cX10_layAll 20 = .ok (.ireturn, 1) := by decide +kernel
theorem dX10_layAll_21 : decode cX10_layAll 21 = .ok (.aload_n 0, 1) := by decide +kernel
theorem dX10_layAll_22 : decode cX10_layAll 22 = .ok (.getfield 19, 3) := by decide +kernel
theorem dX10_layAll_25 : decode cX10_layAll 25 = .ok (.aload_n 1, 1) := by decide +kernel
theorem dX10_layAll_26 : decode cX10_layAll 26 = .ok (.invokevirtual 175, 3) := by decide +kernel
theorem dX10_layAll_29 : decode cX10_layAll 29 = .ok (.iconst 0, 1) := by decide +kernel
theorem dX10_layAll_30 : decode cX10_layAll 30 = .ok (.istore_n 2, 1) := by decide +kernel
theorem dX10_layAll_31 : decode cX10_layAll 31 = .ok (.iload_n 2, 1) := by decide +kernel
theorem dX10_layAll_32 : decode cX10_layAll 32 = .ok (.aload_n 0, 1) := by decide +kernel
theorem dX10_layAll_33 : decode cX10_layAll 33 = .ok (.getfield 19, 3) := by decide +kernel
theorem dX10_layAll_36 : decode cX10_layAll 36 = .ok (.invokevirtual 189, 3) := by decide +kernel
theorem dX10_layAll_39 : decode cX10_layAll 39 = .ok (.if_icmp .ge 24, 3) := by decide +kernel
theorem dX10_layAll_42 : decode cX10_layAll 42 = .ok (.aload_n 0, 1) := by decide +kernel
theorem dX10_layAll_43 : decode cX10_layAll 43 = .ok (.getfield 19, 3) := by decide +kernel
theorem dX10_layAll_46 : decode cX10_layAll 46 = .ok (.getfield 182, 3) := by decide +kernel
theorem dX10_layAll_49 : decode cX10_layAll 49 = .ok (.iload_n 2, 1) := by decide +kernel
theorem dX10_layAll_50 : decode cX10_layAll 50 = .ok (.aload_n 0, 1) := by decide +kernel
theorem dX10_layAll_51 : decode cX10_layAll 51 = .ok (.getfield 75, 3) := by decide +kernel
theorem dX10_layAll_54 : decode cX10_layAll 54 = .ok (.iload_n 2, 1) := by decide +kernel
theorem dX10_layAll_55 : decode cX10_layAll 55 = .ok (.iaload, 1) := by decide +kernel
theorem dX10_layAll_56 : decode cX10_layAll 56 = .ok (.iastore, 1) := by decide +kernel
theorem dX10_layAll_57 : decode cX10_layAll 57 = .ok (.iinc 2 1, 3) := by decide +kernel
theorem dX10_layAll_60 : decode cX10_layAll 60 = .ok (.goto (-29), 3) := by decide +kernel
theorem dX10_layAll_63 : decode cX10_layAll 63 = .ok (.aload_n 0, 1) := by decide +kernel
theorem dX10_layAll_64 : decode cX10_layAll 64 = .ok (.invokevirtual 144, 3) := by decide +kernel
theorem dX10_layAll_67 : decode cX10_layAll 67 = .ok (.aload_n 1, 1) := by decide +kernel
theorem dX10_layAll_68 : decode cX10_layAll 68 = .ok (.getfield 169, 3) := by decide +kernel
theorem dX10_layAll_71 : decode cX10_layAll 71 = .ok (.ireturn, 1) := by decide +kernel
theorem dX10_tidy_0 : decode cX10_tidy 0 = .ok (.aload_n 0, 1) := by decide +kernel
theorem dX10_tidy_1 : decode cX10_tidy 1 = .ok (.invokevirtual 185, 3) := by decide +kernel
theorem dX10_tidy_4 : decode cX10_tidy 4 = .ok (.astore_n 1, 1) := by decide +kernel
theorem dX10_tidy_5 : decode cX10_tidy 5 = .ok (.iconst 0, 1) := by decide +kernel
theorem dX10_tidy_6 : decode cX10_tidy 6 = .ok (.istore_n 2, 1) := by decide +kernel
theorem dX10_tidy_7 : decode cX10_tidy 7 = .ok (.iconst 0, 1) := by decide +kernel
theorem dX10_tidy_8 : decode cX10_tidy 8 = .ok (.istore_n 3, 1) := by decide +kernel
theorem dX10_tidy_9 : decode cX10_tidy 9 = .ok (.iload_n 3, 1) := by decide +kernel
theorem dX10_tidy_10 : decode cX10_tidy 10 = .ok (.aload_n 1, 1) := by decide +kernel
theorem dX10_tidy_11 : decode cX10_tidy 11 = .ok (.getfield 200, 3) := by decide +kernel
theorem dX10_tidy_14 : decode cX10_tidy 14 = .ok (.if_icmp .ge 33, 3) := by decide +kernel
theorem dX10_tidy_17 : decode cX10_tidy 17 = .ok (.iload_n 2, 1) := by decide +kernel
theorem dX10_tidy_18 : decode cX10_tidy 18 = .ok (.aload_n 1, 1) := by decide +kernel
theorem dX10_tidy_19 : decode cX10_tidy 19 = .ok (.getfield 203, 3) := by decide +kernel
theorem dX10_tidy_22 : decode cX10_tidy 22 = .ok (.iload_n 3, 1) := by decide +kernel
theorem dX10_tidy_23 : decode cX10_tidy 23 = .ok (.iaload, 1) := by decide +kernel
theorem dX10_tidy_24 : decode cX10_tidy 24 = .ok (.aload_n 0, 1) := by decide +kernel
theorem dX10_tidy_25 : decode cX10_tidy 25 = .ok (.getfield 19, 3) := by decide +kernel
theorem dX10_tidy_28 : decode cX10_tidy 28 = .ok (.getfield 135, 3) := by decide +kernel
theorem dX10_tidy_31 : decode cX10_tidy 31 = .ok (.if_icmp .eq 7, 3) := by decide +kernel
theorem dX10_tidy_34 : decode cX10_tidy 34 = .ok (.iconst 1, 1) := by decide +kernel
theorem dX10_tidy_35 : decode cX10_tidy 35 = .ok (.goto 4, 3) := by decide +kernel
theorem dX10_tidy_38 : decode cX10_tidy 38 = .ok (.iconst 0, 1) := by decide +kernel
theorem dX10_tidy_39 : decode cX10_tidy 39 = .ok (.iadd, 1) := by decide +kernel
theorem dX10_tidy_40 : decode cX10_tidy 40 = .ok (.istore_n 2, 1) := by decide +kernel
theorem dX10_tidy_41 : decode cX10_tidy 41 = .ok (.iinc 3 1, 3) := by decide +kernel
theorem dX10_tidy_44 : decode cX10_tidy 44 = .ok (.goto (-35), 3) := by decide +kernel
theorem dX10_tidy_47 : decode cX10_tidy 47 = .ok (.iload_n 2, 1) := by decide +kernel
theorem dX10_tidy_48 : decode cX10_tidy 48 = .ok (.bipush 12, 2) := by decide +kernel
theorem dX10_tidy_50 : decode cX10_tidy 50 = .ok (.if_icmp .le 5, 3) := by decide +kernel
theorem dX10_tidy_53 : decode cX10_tidy 53 = .ok (.iconst (-1), 1) := by decide +kernel
theorem dX10_tidy_54 : decode cX10_tidy 54 = .ok (.ireturn, 1) := by decide +kernel
theorem dX10_tidy_55 : decode cX10_tidy 55 = .ok (.aload_n 0, 1) := by decide +kernel
theorem dX10_tidy_56 : decode cX10_tidy 56 = .ok (.getfield 19, 3) := by decide +kernel
theorem dX10_tidy_59 : decode cX10_tidy 59 = .ok (.iconst 0, 1) := by decide +kernel
theorem dX10_tidy_60 : decode cX10_tidy 60 = .ok (.putfield 109, 3) := by decide +kernel
theorem dX10_tidy_63 : decode cX10_tidy 63 = .ok (.iconst 0, 1) := by decide +kernel
theorem dX10_tidy_64 : decode cX10_tidy 64 = .ok (.istore_n 3, 1) := by decide +kernel
theorem dX10_tidy_65 : decode cX10_tidy 65 = .ok (.iload_n 3, 1) := by decide +kernel
theorem dX10_tidy_66 : decode cX10_tidy 66 = .ok (.aload_n 1, 1) := by decide +kernel
theorem dX10_tidy_67 : decode cX10_tidy 67 = .ok (.getfield 200, 3) := by decide +kernel
theorem dX10_tidy_70 : decode cX10_tidy 70 = .ok (.if_icmp .ge 54, 3) := by decide +kernel
theorem dX10_tidy_73 : decode cX10_tidy 73 = .ok (.aload_n 1, 1) := by decide +kernel
theorem dX10_tidy_74 : decode cX10_tidy 74 = .ok (.getfield 203, 3) := by decide +kernel
theorem dX10_tidy_77 : decode cX10_tidy 77 = .ok (.iload_n 3, 1) := by decide +kernel
theorem dX10_tidy_78 : decode cX10_tidy 78 = .ok (.iaload, 1) := by decide +kernel
theorem dX10_tidy_79 : decode cX10_tidy 79 = .ok (.aload_n 0, 1) := by decide +kernel
theorem dX10_tidy_80 : decode cX10_tidy 80 = .ok (.getfield 19, 3) := by decide +kernel
theorem dX10_tidy_83 : decode cX10_tidy 83 = .ok (.getfield 135, 3) := by decide +kernel
theorem dX10_tidy_86 : decode cX10_tidy 86 = .ok (.if_icmp .eq 32, 3) := by decide +kernel
theorem dX10_tidy_89 : decode cX10_tidy 89 = .ok (.aload_n 0, 1) := by decide +kernel
theorem dX10_tidy_90 : decode cX10_tidy 90 = .ok (.getfield 19, 3) := by decide +kernel
theorem dX10_tidy_93 : decode cX10_tidy 93 = .ok (.aload_n 1, 1) := by decide +kernel
theorem dX10_tidy_94 : decode cX10_tidy 94 = .ok (.getfield 206, 3) := by decide +kernel
theorem dX10_tidy_97 : decode cX10_tidy 97 = .ok (.iload_n 3, 1) := by decide +kernel
theorem dX10_tidy_98 : decode cX10_tidy 98 = .ok (.iaload, 1) := by decide +kernel
theorem dX10_tidy_99 : decode cX10_tidy 99 = .ok (.aload_n 1, 1) := by decide +kernel
theorem dX10_tidy_100 : decode cX10_tidy 100 = .ok (.getfield 206, 3) := by decide +kernel
theorem dX10_tidy_103 : decode cX10_tidy 103 = .ok (.iload_n 3, 1) := by decide +kernel
theorem dX10_tidy_104 : decode cX10_tidy 104 = .ok (.iconst 1, 1) := by decide +kernel
theorem dX10_tidy_105 : decode cX10_tidy 105 = .ok (.iadd, 1) := by decide +kernel
theorem dX10_tidy_106 : decode cX10_tidy 106 = .ok (.iaload, 1) := by decide +kernel
theorem dX10_tidy_107 : decode cX10_tidy 107 = .ok (.iconst 1, 1) := by decide +kernel
theorem dX10_tidy_108 : decode cX10_tidy 108 = .ok (.isub, 1) := by decide +kernel
theorem dX10_tidy_109 : decode cX10_tidy 109 = .ok (.aload_n 1, 1) := by decide +kernel
theorem dX10_tidy_110 : decode cX10_tidy 110 = .ok (.getfield 203, 3) := by decide +kernel
theorem dX10_tidy_113 : decode cX10_tidy 113 = .ok (.iload_n 3, 1) := by decide +kernel
theorem dX10_tidy_114 : decode cX10_tidy 114 = .ok (.iaload, 1) := by decide +kernel
theorem dX10_tidy_115 : decode cX10_tidy 115 = .ok (.invokevirtual 125, 3) := by decide +kernel
theorem dX10_tidy_118 : decode cX10_tidy 118 = .ok (.iinc 3 1, 3) := by decide +kernel
theorem dX10_tidy_121 : decode cX10_tidy 121 = .ok (.goto (-56), 3) := by decide +kernel
theorem dX10_tidy_124 : decode cX10_tidy 124 = .ok (.aload_n 0, 1) := by decide +kernel
theorem dX10_tidy_125 : decode cX10_tidy 125 = .ok (.invokevirtual 129, 3) := by decide +kernel
theorem dX10_tidy_128 : decode cX10_tidy 128 = .ok (.aload_n 0, 1) := by decide +kernel
theorem dX10_tidy_129 : decode cX10_tidy 129 = .ok (.getfield 19, 3) := by decide +kernel
theorem dX10_tidy_132 : decode cX10_tidy 132 = .ok (.getfield 109, 3) := by decide +kernel
theorem dX10_tidy_135 : decode cX10_tidy 135 = .ok (.ireturn, 1) := by decide +kernel
theorem dX10_undo_0 : decode cX10_undo 0 = .ok (.aload_n 0, 1) := by decide +kernel
theorem dX10_undo_1 : decode cX10_undo 1 = .ok (.getfield 26, 3) := by decide +kernel
theorem dX10_undo_4 : decode cX10_undo 4 = .ok (.aload_n 0, 1) := by decide +kernel
theorem dX10_undo_5 : decode cX10_undo 5 = .ok (.getfield 19, 3) := by decide +kernel
theorem dX10_undo_8 : decode cX10_undo 8 = .ok (.invokevirtual 209, 3) := by decide +kernel
theorem dX10_undo_11 : decode cX10_undo 11 = .ok (.ifCond .ne 5, 3) := by decide +kernel
theorem dX10_undo_14 : decode cX10_undo 14 = .ok (.iconst 0, 1) := by decide +kernel
theorem dX10_undo_15 : decode cX10_undo 15 = .ok (.ireturn, 1) := by decide +kernel
theorem dX10_undo_16 : decode cX10_undo 16 = .ok (.aload_n 0, 1) := by decide +kernel
theorem dX10_undo_17 : decode cX10_undo 17 = .ok (.invokevirtual 213, 3) := by decide +kernel
theorem dX10_undo_20 : decode cX10_undo 20 = .ok (.iconst 1, 1) := by decide +kernel
theorem dX10_undo_21 : decode cX10_undo 21 = .ok (.ireturn, 1) := by decide +kernel
theorem dX10_redo_0 : decode cX10_redo 0 = .ok (.aload_n 0, 1) := by decide +kernel
theorem dX10_redo_1 : decode cX10_redo 1 = .ok (.getfield 26, 3) := by decide +kernel
theorem dX10_redo_4 : decode cX10_redo 4 = .ok (.aload_n 0, 1) := by decide +kernel
theorem dX10_redo_5 : decode cX10_redo 5 = .ok (.getfield 19, 3) := by decide +kernel
theorem dX10_redo_8 : decode cX10_redo 8 = .ok (.invokevirtual 216, 3) := by decide +kernel
theorem dX10_redo_11 : decode cX10_redo 11 = .ok (.ifCond .ne 5, 3) := by decide +kernel
theorem dX10_redo_14 : decode cX10_redo 14 = .ok (.iconst 0, 1) := by decide +kernel
theorem dX10_redo_15 : decode cX10_redo 15 = .ok (.ireturn, 1) := by decide +kernel
theorem dX10_redo_16 : decode cX10_redo 16 = .ok (.aload_n 0, 1) := by decide +kernel
theorem dX10_redo_17 : decode cX10_redo 17 = .ok (.invokevirtual 213, 3) := by decide +kernel
theorem dX10_redo_20 : decode cX10_redo 20 = .ok (.iconst 1, 1) := by decide +kernel
theorem dX10_redo_21 : decode cX10_redo 21 = .ok (.ireturn, 1) := by decide +kernel
theorem dX10_told_0 : decode cX10_told 0 = .ok (.iload_n 1, 1) := by decide +kernel
theorem dX10_told_1 : decode cX10_told 1 = .ok (.ifCond .lt 14, 3) := by decide +kernel
theorem dX10_told_4 : decode cX10_told 4 = .ok (.iload_n 1, 1) := by decide +kernel
theorem dX10_told_5 : decode cX10_told 5 = .ok (.aload_n 0, 1) := by decide +kernel
theorem dX10_told_6 : decode cX10_told 6 = .ok (.getfield 19, 3) := by decide +kernel
theorem dX10_told_9 : decode cX10_told 9 = .ok (.getfield 109, 3) := by decide +kernel
theorem dX10_told_12 : decode cX10_told 12 = .ok (.if_icmp .lt 5, 3) := by decide +kernel
theorem dX10_told_15 : decode cX10_told 15 = .ok (.iconst (-1), 1) := by decide +kernel
theorem dX10_told_16 : decode cX10_told 16 = .ok (.ireturn, 1) := by decide +kernel
theorem dX10_told_17 : decode cX10_told 17 = .ok (.iload_n 2, 1) := by decide +kernel
theorem dX10_told_18 : decode cX10_told 18 = .ok (.aload_n 0, 1) := by decide +kernel
theorem dX10_told_19 : decode cX10_told 19 = .ok (.getfield 19, 3) := by decide +kernel
theorem dX10_told_22 : decode cX10_told 22 = .ok (.getfield 219, 3) := by decide +kernel
theorem dX10_told_25 : decode cX10_told 25 = .ok (.iload_n 1, 1) := by decide +kernel
theorem dX10_told_26 : decode cX10_told 26 = .ok (.iaload, 1) := by decide +kernel
theorem dX10_told_27 : decode cX10_told 27 = .ok (.aload_n 0, 1) := by decide +kernel
theorem dX10_told_28 : decode cX10_told 28 = .ok (.getfield 19, 3) := by decide +kernel
theorem dX10_told_31 : decode cX10_told 31 = .ok (.getfield 222, 3) := by decide +kernel
theorem dX10_told_34 : decode cX10_told 34 = .ok (.iload_n 1, 1) := by decide +kernel
theorem dX10_told_35 : decode cX10_told 35 = .ok (.iaload, 1) := by decide +kernel
theorem dX10_told_36 : decode cX10_told 36 = .ok (.aload_n 0, 1) := by decide +kernel
theorem dX10_told_37 : decode cX10_told 37 = .ok (.getfield 19, 3) := by decide +kernel
theorem dX10_told_40 : decode cX10_told 40 = .ok (.getfield 225, 3) := by decide +kernel
theorem dX10_told_43 : decode cX10_told 43 = .ok (.iload_n 1, 1) := by decide +kernel
theorem dX10_told_44 : decode cX10_told 44 = .ok (.iaload, 1) := by decide +kernel
theorem dX10_told_45 : decode cX10_told 45 = .ok (.invokestatic 228, 3) := by decide +kernel
theorem dX10_told_48 : decode cX10_told 48 = .ok (.ireturn, 1) := by decide +kernel
theorem dX10_register_0 : decode cX10_register 0 = .ok (.aload_n 0, 1) := by decide +kernel
theorem dX10_register_1 : decode cX10_register 1 = .ok (.getfield 19, 3) := by decide +kernel
theorem dX10_register_4 : decode cX10_register 4 = .ok (.iload_n 1, 1) := by decide +kernel
theorem dX10_register_5 : decode cX10_register 5 = .ok (.invokevirtual 162, 3) := by decide +kernel
theorem dX10_register_8 : decode cX10_register 8 = .ok (.ifCond .ne 5, 3) := by decide +kernel
theorem dX10_register_11 : decode cX10_register 11 = .ok (.iconst (-1), 1) := by decide +kernel
theorem dX10_register_12 : decode cX10_register 12 = .ok (.ireturn, 1) := by decide +kernel
theorem dX10_register_13 : decode cX10_register 13 = .ok (.iload_n 2, 1) := by decide +kernel
theorem dX10_register_14 : decode cX10_register 14 = .ok (.aload_n 0, 1) := by decide +kernel
theorem dX10_register_15 : decode cX10_register 15 = .ok (.getfield 19, 3) := by decide +kernel
theorem dX10_register_18 : decode cX10_register 18 = .ok (.getfield 232, 3) := by decide +kernel
theorem dX10_register_21 : decode cX10_register 21 = .ok (.iload_n 1, 1) := by decide +kernel
theorem dX10_register_22 : decode cX10_register 22 = .ok (.iaload, 1) := by decide +kernel
theorem dX10_register_23 : decode cX10_register 23 = .ok (.aload_n 0, 1) := by decide +kernel
theorem dX10_register_24 : decode cX10_register 24 = .ok (.getfield 19, 3) := by decide +kernel
theorem dX10_register_27 : decode cX10_register 27 = .ok (.getfield 235, 3) := by decide +kernel
theorem dX10_register_30 : decode cX10_register 30 = .ok (.iload_n 1, 1) := by decide +kernel
theorem dX10_register_31 : decode cX10_register 31 = .ok (.iaload, 1) := by decide +kernel
theorem dX10_register_32 : decode cX10_register 32 = .ok (.aload_n 0, 1) := by decide +kernel
theorem dX10_register_33 : decode cX10_register 33 = .ok (.getfield 19, 3) := by decide +kernel
theorem dX10_register_36 : decode cX10_register 36 = .ok (.getfield 238, 3) := by decide +kernel
theorem dX10_register_39 : decode cX10_register 39 = .ok (.iload_n 1, 1) := by decide +kernel
theorem dX10_register_40 : decode cX10_register 40 = .ok (.iaload, 1) := by decide +kernel
theorem dX10_register_41 : decode cX10_register 41 = .ok (.invokestatic 228, 3) := by decide +kernel
theorem dX10_register_44 : decode cX10_register 44 = .ok (.ireturn, 1) := by decide +kernel
theorem dX10_part_0 : decode cX10_part 0 = .ok (.aload_n 0, 1) := by decide +kernel
theorem dX10_part_1 : decode cX10_part 1 = .ok (.getfield 19, 3) := by decide +kernel
theorem dX10_part_4 : decode cX10_part 4 = .ok (.iload_n 1, 1) := by decide +kernel
theorem dX10_part_5 : decode cX10_part 5 = .ok (.invokevirtual 138, 3) := by decide +kernel
theorem dX10_part_8 : decode cX10_part 8 = .ok (.ifCond .eq 15, 3) := by decide +kernel
theorem dX10_part_11 : decode cX10_part 11 = .ok (.aload_n 0, 1) := by decide +kernel
theorem dX10_part_12 : decode cX10_part 12 = .ok (.getfield 19, 3) := by decide +kernel
theorem dX10_part_15 : decode cX10_part 15 = .ok (.getfield 141, 3) := by decide +kernel
theorem dX10_part_18 : decode cX10_part 18 = .ok (.iload_n 1, 1) := by decide +kernel
theorem dX10_part_19 : decode cX10_part 19 = .ok (.iaload, 1) := by decide +kernel
theorem dX10_part_20 : decode cX10_part 20 = .ok (.goto 4, 3) := by decide +kernel
theorem dX10_part_23 : decode cX10_part 23 = .ok (.iconst (-1), 1) := by decide +kernel
theorem dX10_part_24 : decode cX10_part 24 = .ok (.ireturn, 1) := by decide +kernel
theorem dX10_wanted_0 : decode cX10_wanted 0 = .ok (.aload_n 0, 1) := by decide +kernel
theorem dX10_wanted_1 : decode cX10_wanted 1 = .ok (.getfield 19, 3) := by decide +kernel
theorem dX10_wanted_4 : decode cX10_wanted 4 = .ok (.iload_n 1, 1) := by decide +kernel
theorem dX10_wanted_5 : decode cX10_wanted 5 = .ok (.invokevirtual 241, 3) := by decide +kernel
theorem dX10_wanted_8 : decode cX10_wanted 8 = .ok (.ifCond .eq 21, 3) := by decide +kernel
theorem dX10_wanted_11 : decode cX10_wanted 11 = .ok (.aload_n 0, 1) := by decide +kernel
theorem dX10_wanted_12 : decode cX10_wanted 12 = .ok (.getfield 19, 3) := by decide +kernel
theorem dX10_wanted_15 : decode cX10_wanted 15 = .ok (.iload_n 1, 1) := by decide +kernel
theorem dX10_wanted_16 : decode cX10_wanted 16 = .ok (.aload_n 0, 1) := by decide +kernel
theorem dX10_wanted_17 : decode cX10_wanted 17 = .ok (.getfield 19, 3) := by decide +kernel
theorem dX10_wanted_20 : decode cX10_wanted 20 = .ok (.getfield 135, 3) := by decide +kernel
theorem dX10_wanted_23 : decode cX10_wanted 23 = .ok (.invokevirtual 244, 3) := by decide +kernel
theorem dX10_wanted_26 : decode cX10_wanted 26 = .ok (.goto 4, 3) := by decide +kernel
theorem dX10_wanted_29 : decode cX10_wanted 29 = .ok (.iconst (-1), 1) := by decide +kernel
theorem dX10_wanted_30 : decode cX10_wanted 30 = .ok (.ireturn, 1) := by decide +kernel
theorem dX10_kind_0 : decode cX10_kind 0 = .ok (.aload_n 0, 1) := by decide +kernel
theorem dX10_kind_1 : decode cX10_kind 1 = .ok (.getfield 19, 3) := by decide +kernel
theorem dX10_kind_4 : decode cX10_kind 4 = .ok (.iload_n 1, 1) := by decide +kernel
theorem dX10_kind_5 : decode cX10_kind 5 = .ok (.invokevirtual 241, 3) := by decide +kernel
theorem dX10_kind_8 : decode cX10_kind 8 = .ok (.ifCond .eq 15, 3) := by decide +kernel
theorem dX10_kind_11 : decode cX10_kind 11 = .ok (.aload_n 0, 1) := by decide +kernel
theorem dX10_kind_12 : decode cX10_kind 12 = .ok (.getfield 19, 3) := by decide +kernel
theorem dX10_kind_15 : decode cX10_kind 15 = .ok (.iload_n 1, 1) := by decide +kernel
theorem dX10_kind_16 : decode cX10_kind 16 = .ok (.iconst (-1), 1) := by decide +kernel
theorem dX10_kind_17 : decode cX10_kind 17 = .ok (.invokevirtual 247, 3) := by decide +kernel
theorem dX10_kind_20 : decode cX10_kind 20 = .ok (.goto 4, 3) := by decide +kernel
theorem dX10_kind_23 : decode cX10_kind 23 = .ok (.iconst (-1), 1) := by decide +kernel
theorem dX10_kind_24 : decode cX10_kind 24 = .ok (.ireturn, 1) := by decide +kernel
theorem dX10_run_0 : decode cX10_run 0 = .ok (.aload_n 0, 1) := by decide +kernel
theorem dX10_run_1 : decode cX10_run 1 = .ok (.invokevirtual 185, 3) := by decide +kernel
theorem dX10_run_4 : decode cX10_run 4 = .ok (.astore_n 3, 1) := by decide +kernel
theorem dX10_run_5 : decode cX10_run 5 = .ok (.iload_n 1, 1) := by decide +kernel
theorem dX10_run_6 : decode cX10_run 6 = .ok (.iconst (-1), 1) := by decide +kernel
theorem dX10_run_7 : decode cX10_run 7 = .ok (.if_icmp .ne 8, 3) := by decide +kernel
theorem dX10_run_10 : decode cX10_run 10 = .ok (.aload_n 3, 1) := by decide +kernel
theorem dX10_run_11 : decode cX10_run 11 = .ok (.getfield 200, 3) := by decide +kernel
theorem dX10_run_14 : decode cX10_run 14 = .ok (.ireturn, 1) := by decide +kernel
theorem dX10_run_15 : decode cX10_run 15 = .ok (.iload_n 1, 1) := by decide +kernel
theorem dX10_run_16 : decode cX10_run 16 = .ok (.ifCond .lt 11, 3) := by decide +kernel
theorem dX10_run_19 : decode cX10_run 19 = .ok (.iload_n 1, 1) := by decide +kernel
theorem dX10_run_20 : decode cX10_run 20 = .ok (.aload_n 3, 1) := by decide +kernel
theorem dX10_run_21 : decode cX10_run 21 = .ok (.getfield 200, 3) := by decide +kernel
theorem dX10_run_24 : decode cX10_run 24 = .ok (.if_icmp .lt 5, 3) := by decide +kernel
theorem dX10_run_27 : decode cX10_run 27 = .ok (.iconst (-1), 1) := by decide +kernel
theorem dX10_run_28 : decode cX10_run 28 = .ok (.ireturn, 1) := by decide +kernel
theorem dX10_run_29 : decode cX10_run 29 = .ok (.iload_n 2, 1) := by decide +kernel
theorem dX10_run_30 : decode cX10_run 30 = .ok (.aload_n 3, 1) := by decide +kernel
theorem dX10_run_31 : decode cX10_run 31 = .ok (.getfield 206, 3) := by decide +kernel
theorem dX10_run_34 : decode cX10_run 34 = .ok (.iload_n 1, 1) := by decide +kernel
theorem dX10_run_35 : decode cX10_run 35 = .ok (.iaload, 1) := by decide +kernel
theorem dX10_run_36 : decode cX10_run 36 = .ok (.aload_n 3, 1) := by decide +kernel
theorem dX10_run_37 : decode cX10_run 37 = .ok (.getfield 206, 3) := by decide +kernel
theorem dX10_run_40 : decode cX10_run 40 = .ok (.iload_n 1, 1) := by decide +kernel
theorem dX10_run_41 : decode cX10_run 41 = .ok (.iconst 1, 1) := by decide +kernel
theorem dX10_run_42 : decode cX10_run 42 = .ok (.iadd, 1) := by decide +kernel
theorem dX10_run_43 : decode cX10_run 43 = .ok (.iaload, 1) := by decide +kernel
theorem dX10_run_44 : decode cX10_run 44 = .ok (.iconst 1, 1) := by decide +kernel
theorem dX10_run_45 : decode cX10_run 45 = .ok (.isub, 1) := by decide +kernel
theorem dX10_run_46 : decode cX10_run 46 = .ok (.aload_n 3, 1) := by decide +kernel
theorem dX10_run_47 : decode cX10_run 47 = .ok (.getfield 203, 3) := by decide +kernel
theorem dX10_run_50 : decode cX10_run 50 = .ok (.iload_n 1, 1) := by decide +kernel
theorem dX10_run_51 : decode cX10_run 51 = .ok (.iaload, 1) := by decide +kernel
theorem dX10_run_52 : decode cX10_run 52 = .ok (.invokestatic 228, 3) := by decide +kernel
theorem dX10_run_55 : decode cX10_run 55 = .ok (.ireturn, 1) := by decide +kernel
theorem dX10_paged_0 : decode cX10_paged 0 = .ok (.aload_n 0, 1) := by decide +kernel
theorem dX10_paged_1 : decode cX10_paged 1 = .ok (.getfield 19, 3) := by decide +kernel
theorem dX10_paged_4 : decode cX10_paged 4 = .ok (.iload_n 1, 1) := by decide +kernel
theorem dX10_paged_5 : decode cX10_paged 5 = .ok (.invokevirtual 179, 3) := by decide +kernel
theorem dX10_paged_8 : decode cX10_paged 8 = .ok (.ifCond .eq 15, 3) := by decide +kernel
theorem dX10_paged_11 : decode cX10_paged 11 = .ok (.aload_n 0, 1) := by decide +kernel
theorem dX10_paged_12 : decode cX10_paged 12 = .ok (.getfield 19, 3) := by decide +kernel
theorem dX10_paged_15 : decode cX10_paged 15 = .ok (.getfield 182, 3) := by decide +kernel
theorem dX10_paged_18 : decode cX10_paged 18 = .ok (.iload_n 1, 1) := by decide +kernel
theorem dX10_paged_19 : decode cX10_paged 19 = .ok (.iaload, 1) := by decide +kernel
theorem dX10_paged_20 : decode cX10_paged 20 = .ok (.goto 4, 3) := by decide +kernel
theorem dX10_paged_23 : decode cX10_paged 23 = .ok (.iconst (-1), 1) := by decide +kernel
theorem dX10_paged_24 : decode cX10_paged 24 = .ok (.ireturn, 1) := by decide +kernel
theorem dX10_seen_0 : decode cX10_seen 0 = .ok (.aload_n 0, 1) := by decide +kernel
theorem dX10_seen_1 : decode cX10_seen 1 = .ok (.getfield 19, 3) := by decide +kernel
theorem dX10_seen_4 : decode cX10_seen 4 = .ok (.iload_n 1, 1) := by decide +kernel
theorem dX10_seen_5 : decode cX10_seen 5 = .ok (.invokevirtual 241, 3) := by decide +kernel
theorem dX10_seen_8 : decode cX10_seen 8 = .ok (.ifCond .eq 23, 3) := by decide +kernel
theorem dX10_seen_11 : decode cX10_seen 11 = .ok (.aload_n 0, 1) := by decide +kernel
theorem dX10_seen_12 : decode cX10_seen 12 = .ok (.getfield 19, 3) := by decide +kernel
theorem dX10_seen_15 : decode cX10_seen 15 = .ok (.iload_n 1, 1) := by decide +kernel
theorem dX10_seen_16 : decode cX10_seen 16 = .ok (.aload_n 0, 1) := by decide +kernel
theorem dX10_seen_17 : decode cX10_seen 17 = .ok (.getfield 19, 3) := by decide +kernel
theorem dX10_seen_20 : decode cX10_seen 20 = .ok (.iload_n 1, 1) := by decide +kernel
theorem dX10_seen_21 : decode cX10_seen 21 = .ok (.iconst (-1), 1) := by decide +kernel
theorem dX10_seen_22 : decode cX10_seen 22 = .ok (.invokevirtual 247, 3) := by decide +kernel
theorem dX10_seen_25 : decode cX10_seen 25 = .ok (.invokevirtual 250, 3) := by decide +kernel
theorem dX10_seen_28 : decode cX10_seen 28 = .ok (.goto 4, 3) := by decide +kernel
theorem dX10_seen_31 : decode cX10_seen 31 = .ok (.iconst (-1), 1) := by decide +kernel
theorem dX10_seen_32 : decode cX10_seen 32 = .ok (.ireturn, 1) := by decide +kernel
theorem dX10_strange_0 : decode cX10_strange 0 = .ok (.aload_n 0, 1) := by decide +kernel
theorem dX10_strange_1 : decode cX10_strange 1 = .ok (.invokevirtual 185, 3) := by decide +kernel
theorem dX10_strange_4 : decode cX10_strange 4 = .ok (.astore_n 2, 1) := by decide +kernel
theorem dX10_strange_5 : decode cX10_strange 5 = .ok (.iconst 0, 1) := by decide +kernel
theorem dX10_strange_6 : decode cX10_strange 6 = .ok (.istore_n 3, 1) := by decide +kernel
theorem dX10_strange_7 : decode cX10_strange 7 = .ok (.iconst (-1), 1) := by decide +kernel
theorem dX10_strange_8 : decode cX10_strange 8 = .ok (.istore 4, 2) := by decide +kernel
theorem dX10_strange_10 : decode cX10_strange 10 = .ok (.iconst 0, 1) := by decide +kernel
theorem dX10_strange_11 : decode cX10_strange 11 = .ok (.istore 5, 2) := by decide +kernel
theorem dX10_strange_13 : decode cX10_strange 13 = .ok (.iload 5, 2) := by decide +kernel
theorem dX10_strange_15 : decode cX10_strange 15 = .ok (.aload_n 2, 1) := by decide +kernel
theorem dX10_strange_16 : decode cX10_strange 16 = .ok (.getfield 253, 3) := by decide +kernel
theorem dX10_strange_19 : decode cX10_strange 19 = .ok (.if_icmp .ge 65, 3) := by decide +kernel
theorem dX10_strange_22 : decode cX10_strange 22 = .ok (.aload_n 0, 1) := by decide +kernel
theorem dX10_strange_23 : decode cX10_strange 23 = .ok (.getfield 19, 3) := by decide +kernel
theorem dX10_strange_26 : decode cX10_strange 26 = .ok (.aload_n 2, 1) := by decide +kernel
theorem dX10_strange_27 : decode cX10_strange 27 = .ok (.iload 5, 2) := by decide +kernel
theorem dX10_strange_29 : decode cX10_strange 29 = .ok (.invokevirtual 254, 3) := by decide +kernel
theorem dX10_strange_32 : decode cX10_strange 32 = .ok (.aload_n 2, 1) := by decide +kernel
theorem dX10_strange_33 : decode cX10_strange 33 = .ok (.getfield 257, 3) := by decide +kernel
theorem dX10_strange_36 : decode cX10_strange 36 = .ok (.iload 5, 2) := by decide +kernel
theorem dX10_strange_38 : decode cX10_strange 38 = .ok (.iaload, 1) := by decide +kernel
theorem dX10_strange_39 : decode cX10_strange 39 = .ok (.invokevirtual 250, 3) := by decide +kernel
theorem dX10_strange_42 : decode cX10_strange 42 = .ok (.aload_n 2, 1) := by decide +kernel
theorem dX10_strange_43 : decode cX10_strange 43 = .ok (.getfield 260, 3) := by decide +kernel
theorem dX10_strange_46 : decode cX10_strange 46 = .ok (.iload 5, 2) := by decide +kernel
theorem dX10_strange_48 : decode cX10_strange 48 = .ok (.iaload, 1) := by decide +kernel
theorem dX10_strange_49 : decode cX10_strange 49 = .ok (.if_icmp .eq 29, 3) := by decide +kernel
theorem dX10_strange_52 : decode cX10_strange 52 = .ok (.iload_n 3, 1) := by decide +kernel
theorem dX10_strange_53 : decode cX10_strange 53 = .ok (.ifCond .ne 12, 3) := by decide +kernel
theorem dX10_strange_56 : decode cX10_strange 56 = .ok (.aload_n 2, 1) := by decide +kernel
theorem dX10_strange_57 : decode cX10_strange 57 = .ok (.iload 5, 2) := by decide +kernel
theorem dX10_strange_59 : decode cX10_strange 59 = .ok (.invokevirtual 254, 3) := by decide +kernel
theorem dX10_strange_62 : decode cX10_strange 62 = .ok (.goto 5, 3) := by decide +kernel
theorem dX10_strange_65 : decode cX10_strange 65 = .ok (.iload 4, 2) := by decide +kernel
theorem dX10_strange_67 : decode cX10_strange 67 = .ok (.istore 4, 2) := by decide +kernel
theorem dX10_strange_69 : decode cX10_strange 69 = .ok (.iload_n 3, 1) := by decide +kernel
theorem dX10_strange_70 : decode cX10_strange 70 = .ok (.aload_n 2, 1) := by decide +kernel
theorem dX10_strange_71 : decode cX10_strange 71 = .ok (.iload 5, 2) := by decide +kernel
theorem dX10_strange_73 : decode cX10_strange 73 = .ok (.invokevirtual 263, 3) := by decide +kernel
theorem dX10_strange_76 : decode cX10_strange 76 = .ok (.iadd, 1) := by decide +kernel
theorem dX10_strange_77 : decode cX10_strange 77 = .ok (.istore_n 3, 1) := by decide +kernel
theorem dX10_strange_78 : decode cX10_strange 78 = .ok (.iinc 5 1, 3) := by decide +kernel
theorem dX10_strange_81 : decode cX10_strange 81 = .ok (.goto (-68), 3) := by decide +kernel
theorem dX10_strange_84 : decode cX10_strange 84 = .ok (.iload_n 1, 1) := by decide +kernel
theorem dX10_strange_85 : decode cX10_strange 85 = .ok (.lookupswitch 32 #[(0, 27), (1, 29)], 27) := by decide +kernel
theorem dX10_strange_112 : decode cX10_strange 112 = .ok (.iload_n 3, 1) := by decide +kernel
theorem dX10_strange_113 : decode cX10_strange 113 = .ok (.ireturn, 1) := by decide +kernel
theorem dX10_strange_114 : decode cX10_strange 114 = .ok (.iload 4, 2) := by decide +kernel
theorem dX10_strange_116 : decode cX10_strange 116 = .ok (.ireturn, 1) := by decide +kernel
theorem dX10_strange_117 : decode cX10_strange 117 = .ok (.iconst (-1), 1) := by decide +kernel
theorem dX10_strange_118 : decode cX10_strange 118 = .ok (.ireturn, 1) := by decide +kernel
theorem dX10_mendable_0 : decode cX10_mendable 0 = .ok (.aload_n 0, 1) := by decide +kernel
theorem dX10_mendable_1 : decode cX10_mendable 1 = .ok (.getfield 19, 3) := by decide +kernel
theorem dX10_mendable_4 : decode cX10_mendable 4 = .ok (.iload_n 1, 1) := by decide +kernel
theorem dX10_mendable_5 : decode cX10_mendable 5 = .ok (.invokevirtual 179, 3) := by decide +kernel
theorem dX10_mendable_8 : decode cX10_mendable 8 = .ok (.ifCond .eq 14, 3) := by decide +kernel
theorem dX10_mendable_11 : decode cX10_mendable 11 = .ok (.aload_n 0, 1) := by decide +kernel
theorem dX10_mendable_12 : decode cX10_mendable 12 = .ok (.invokevirtual 185, 3) := by decide +kernel
theorem dX10_mendable_15 : decode cX10_mendable 15 = .ok (.iload_n 1, 1) := by decide +kernel
theorem dX10_mendable_16 : decode cX10_mendable 16 = .ok (.invokevirtual 193, 3) := by decide +kernel
theorem dX10_mendable_19 : decode cX10_mendable 19 = .ok (.goto 4, 3) := by decide +kernel
theorem dX10_mendable_22 : decode cX10_mendable 22 = .ok (.iconst (-1), 1) := by decide +kernel
theorem dX10_mendable_23 : decode cX10_mendable 23 = .ok (.ireturn, 1) := by decide +kernel
theorem dX10_withPages_0 : decode cX10_withPages 0 = .ok (.aload_n 0, 1) := by decide +kernel
theorem dX10_withPages_1 : decode cX10_withPages 1 = .ok (.invokevirtual 197, 3) := by decide +kernel
theorem dX10_withPages_4 : decode cX10_withPages 4 = .ok (.astore_n 2, 1) := by decide +kernel
theorem dX10_withPages_5 : decode cX10_withPages 5 = .ok (.iload_n 1, 1) := by decide +kernel
theorem dX10_withPages_6 : decode cX10_withPages 6 = .ok (.lookupswitch 46 #[(0, 26), (1, 31)], 26) := by decide +kernel
theorem dX10_withPages_32 : decode cX10_withPages 32 = .ok (.aload_n 2, 1) := by decide +kernel
theorem dX10_withPages_33 : decode cX10_withPages 33 = .ok (.getfield 169, 3) := by decide +kernel
theorem dX10_withPages_36 : decode cX10_withPages 36 = .ok (.ireturn, 1) := by decide +kernel
theorem dX10_withPages_37 : decode cX10_withPages 37 = .ok (.aload_n 0, 1) := by decide +kernel
theorem dX10_withPages_38 : decode cX10_withPages 38 = .ok (.getfield 75, 3) := by decide +kernel
theorem dX10_withPages_41 : decode cX10_withPages 41 = .ok (.aload_n 0, 1) := by decide +kernel
theorem dX10_withPages_42 : decode cX10_withPages 42 = .ok (.getfield 19, 3) := by decide +kernel
theorem dX10_withPages_45 : decode cX10_withPages 45 = .ok (.invokevirtual 189, 3) := by decide +kernel
theorem dX10_withPages_48 : decode cX10_withPages 48 = .ok (.invokestatic 266, 3) := by decide +kernel
theorem dX10_withPages_51 : decode cX10_withPages 51 = .ok (.ireturn, 1) := by decide +kernel
theorem dX10_withPages_52 : decode cX10_withPages 52 = .ok (.iconst (-1), 1) := by decide +kernel
theorem dX10_withPages_53 : decode cX10_withPages 53 = .ok (.ireturn, 1) := by decide +kernel
theorem dX10_pagedPlan_0 : decode cX10_pagedPlan 0 = .ok (.aload_n 0, 1) := by decide +kernel
theorem dX10_pagedPlan_1 : decode cX10_pagedPlan 1 = .ok (.invokevirtual 197, 3) := by decide +kernel
theorem dX10_pagedPlan_4 : decode cX10_pagedPlan 4 = .ok (.iload_n 1, 1) := by decide +kernel
theorem dX10_pagedPlan_5 : decode cX10_pagedPlan 5 = .ok (.iload_n 2, 1) := by decide +kernel
theorem dX10_pagedPlan_6 : decode cX10_pagedPlan 6 = .ok (.invokevirtual 270, 3) := by decide +kernel
theorem dX10_pagedPlan_9 : decode cX10_pagedPlan 9 = .ok (.ireturn, 1) := by decide +kernel
theorem dX10_pageFor_0 : decode cX10_pageFor 0 = .ok (.aload_n 0, 1) := by decide +kernel
theorem dX10_pageFor_1 : decode cX10_pageFor 1 = .ok (.getfield 19, 3) := by decide +kernel
theorem dX10_pageFor_4 : decode cX10_pageFor 4 = .ok (.iload_n 1, 1) := by decide +kernel
theorem dX10_pageFor_5 : decode cX10_pageFor 5 = .ok (.invokevirtual 179, 3) := by decide +kernel
theorem dX10_pageFor_8 : decode cX10_pageFor 8 = .ok (.ifCond .ne 5, 3) := by decide +kernel
theorem dX10_pageFor_11 : decode cX10_pageFor 11 = .ok (.iconst (-1), 1) := by decide +kernel
theorem dX10_pageFor_12 : decode cX10_pageFor 12 = .ok (.ireturn, 1) := by decide +kernel
theorem dX10_pageFor_13 : decode cX10_pageFor 13 = .ok (.aload_n 0, 1) := by decide +kernel
theorem dX10_pageFor_14 : decode cX10_pageFor 14 = .ok (.invokevirtual 197, 3) := by decide +kernel
theorem dX10_pageFor_17 : decode cX10_pageFor 17 = .ok (.pop, 1) := by decide +kernel
theorem dX10_pageFor_18 : decode cX10_pageFor 18 = .ok (.aload_n 0, 1) := by decide +kernel
theorem dX10_pageFor_19 : decode cX10_pageFor 19 = .ok (.getfield 75, 3) := by decide +kernel
theorem dX10_pageFor_22 : decode cX10_pageFor 22 = .ok (.iload_n 1, 1) := by decide +kernel
theorem dX10_pageFor_23 : decode cX10_pageFor 23 = .ok (.iaload, 1) := by decide +kernel
theorem dX10_pageFor_24 : decode cX10_pageFor 24 = .ok (.ireturn, 1) := by decide +kernel
theorem dX10_wrong_0 : decode cX10_wrong 0 = .ok (.aload_n 0, 1) := by decide +kernel
theorem dX10_wrong_1 : decode cX10_wrong 1 = .ok (.invokevirtual 185, 3) := by decide +kernel
theorem dX10_wrong_4 : decode cX10_wrong 4 = .ok (.astore_n 2, 1) := by decide +kernel
theorem dX10_wrong_5 : decode cX10_wrong 5 = .ok (.iload_n 1, 1) := by decide +kernel
theorem dX10_wrong_6 : decode cX10_wrong 6 = .ok (.tableswitch 79 0 3 #[30, 49, 61, 66], 30) := by decide +kernel
theorem dX10_wrong_36 : decode cX10_wrong 36 = .ok (.aload_n 2, 1) := by decide +kernel
theorem dX10_wrong_37 : decode cX10_wrong 37 = .ok (.aload_n 0, 1) := by decide +kernel
theorem dX10_wrong_38 : decode cX10_wrong 38 = .ok (.getfield 19, 3) := by decide +kernel
theorem dX10_wrong_41 : decode cX10_wrong 41 = .ok (.getfield 273, 3) := by decide +kernel
theorem dX10_wrong_44 : decode cX10_wrong 44 = .ok (.aload_n 0, 1) := by decide +kernel
theorem dX10_wrong_45 : decode cX10_wrong 45 = .ok (.getfield 19, 3) := by decide +kernel
theorem dX10_wrong_48 : decode cX10_wrong 48 = .ok (.getfield 118, 3) := by decide +kernel
theorem dX10_wrong_51 : decode cX10_wrong 51 = .ok (.invokevirtual 276, 3) := by decide +kernel
theorem dX10_wrong_54 : decode cX10_wrong 54 = .ok (.ireturn, 1) := by decide +kernel
theorem dX10_wrong_55 : decode cX10_wrong 55 = .ok (.aload_n 2, 1) := by decide +kernel
theorem dX10_wrong_56 : decode cX10_wrong 56 = .ok (.aload_n 0, 1) := by decide +kernel
theorem dX10_wrong_57 : decode cX10_wrong 57 = .ok (.getfield 19, 3) := by decide +kernel
theorem dX10_wrong_60 : decode cX10_wrong 60 = .ok (.getfield 273, 3) := by decide +kernel
theorem dX10_wrong_63 : decode cX10_wrong 63 = .ok (.invokevirtual 279, 3) := by decide +kernel
theorem dX10_wrong_66 : decode cX10_wrong 66 = .ok (.ireturn, 1) := by decide +kernel
theorem dX10_wrong_67 : decode cX10_wrong 67 = .ok (.aload_n 2, 1) := by decide +kernel
theorem dX10_wrong_68 : decode cX10_wrong 68 = .ok (.invokevirtual 282, 3) := by decide +kernel
theorem dX10_wrong_71 : decode cX10_wrong 71 = .ok (.ireturn, 1) := by decide +kernel
theorem dX10_wrong_72 : decode cX10_wrong 72 = .ok (.aload_n 2, 1) := by decide +kernel
theorem dX10_wrong_73 : decode cX10_wrong 73 = .ok (.iconst 0, 1) := by decide +kernel
theorem dX10_wrong_74 : decode cX10_wrong 74 = .ok (.aload_n 0, 1) := by decide +kernel
theorem dX10_wrong_75 : decode cX10_wrong 75 = .ok (.getfield 19, 3) := by decide +kernel
theorem dX10_wrong_78 : decode cX10_wrong 78 = .ok (.getfield 273, 3) := by decide +kernel
theorem dX10_wrong_81 : decode cX10_wrong 81 = .ok (.invokevirtual 276, 3) := by decide +kernel
theorem dX10_wrong_84 : decode cX10_wrong 84 = .ok (.ireturn, 1) := by decide +kernel
theorem dX10_wrong_85 : decode cX10_wrong 85 = .ok (.iconst (-1), 1) := by decide +kernel
theorem dX10_wrong_86 : decode cX10_wrong 86 = .ok (.ireturn, 1) := by decide +kernel
theorem dX10_cost_0 : decode cX10_cost 0 = .ok (.iload_n 1, 1) := by decide +kernel
theorem dX10_cost_1 : decode cX10_cost 1 = .ok (.lookupswitch 47 #[(0, 27), (1, 39)], 27) := by decide +kernel
theorem dX10_cost_28 : decode cX10_cost 28 = .ok (.aload_n 0, 1) := by decide +kernel
theorem dX10_cost_29 : decode cX10_cost 29 = .ok (.getfield 61, 3) := by decide +kernel
theorem dX10_cost_32 : decode cX10_cost 32 = .ok (.aload_n 0, 1) := by decide +kernel
theorem dX10_cost_33 : decode cX10_cost 33 = .ok (.getfield 19, 3) := by decide +kernel
theorem dX10_cost_36 : decode cX10_cost 36 = .ok (.invokevirtual 285, 3) := by decide +kernel
theorem dX10_cost_39 : decode cX10_cost 39 = .ok (.ireturn, 1) := by decide +kernel
theorem dX10_cost_40 : decode cX10_cost 40 = .ok (.aload_n 0, 1) := by decide +kernel
theorem dX10_cost_41 : decode cX10_cost 41 = .ok (.invokevirtual 165, 3) := by decide +kernel
theorem dX10_cost_44 : decode cX10_cost 44 = .ok (.getfield 169, 3) := by decide +kernel
theorem dX10_cost_47 : decode cX10_cost 47 = .ok (.ireturn, 1) := by decide +kernel
theorem dX10_cost_48 : decode cX10_cost 48 = .ok (.iconst (-1), 1) := by decide +kernel
theorem dX10_cost_49 : decode cX10_cost 49 = .ok (.ireturn, 1) := by decide +kernel
theorem dX10_plan_0 : decode cX10_plan 0 = .ok (.aload_n 0, 1) := by decide +kernel
theorem dX10_plan_1 : decode cX10_plan 1 = .ok (.invokevirtual 165, 3) := by decide +kernel
theorem dX10_plan_4 : decode cX10_plan 4 = .ok (.iload_n 1, 1) := by decide +kernel
theorem dX10_plan_5 : decode cX10_plan 5 = .ok (.iload_n 2, 1) := by decide +kernel
theorem dX10_plan_6 : decode cX10_plan 6 = .ok (.invokevirtual 270, 3) := by decide +kernel
theorem dX10_plan_9 : decode cX10_plan 9 = .ok (.ireturn, 1) := by decide +kernel
theorem dX10_byDefault_0 : decode cX10_byDefault 0 = .ok (.iload_n 1, 1) := by decide +kernel
theorem dX10_byDefault_1 : decode cX10_byDefault 1 = .ok (.invokestatic 121, 3) := by decide +kernel
theorem dX10_byDefault_4 : decode cX10_byDefault 4 = .ok (.ifCond .eq 18, 3) := by decide +kernel
theorem dX10_byDefault_7 : decode cX10_byDefault 7 = .ok (.aload_n 0, 1) := by decide +kernel
theorem dX10_byDefault_8 : decode cX10_byDefault 8 = .ok (.getfield 61, 3) := by decide +kernel
theorem dX10_byDefault_11 : decode cX10_byDefault 11 = .ok (.aload_n 0, 1) := by decide +kernel
theorem dX10_byDefault_12 : decode cX10_byDefault 12 = .ok (.getfield 19, 3) := by decide +kernel
theorem dX10_byDefault_15 : decode cX10_byDefault 15 = .ok (.iload_n 1, 1) := by decide +kernel
theorem dX10_byDefault_16 : decode cX10_byDefault 16 = .ok (.invokevirtual 289, 3) := by decide +kernel
theorem dX10_byDefault_19 : decode cX10_byDefault 19 = .ok (.goto 4, 3) := by decide +kernel
theorem dX10_byDefault_22 : decode cX10_byDefault 22 = .ok (.iconst (-1), 1) := by decide +kernel
theorem dX10_byDefault_23 : decode cX10_byDefault 23 = .ok (.ireturn, 1) := by decide +kernel
theorem dX10_bestDefault_0 : decode cX10_bestDefault 0 = .ok (.iconst 0, 1) := by decide +kernel
theorem dX10_bestDefault_1 : decode cX10_bestDefault 1 = .ok (.istore_n 1, 1) := by decide +kernel
theorem dX10_bestDefault_2 : decode cX10_bestDefault 2 = .ok (.aload_n 0, 1) := by decide +kernel
theorem dX10_bestDefault_3 : decode cX10_bestDefault 3 = .ok (.getfield 61, 3) := by decide +kernel
theorem dX10_bestDefault_6 : decode cX10_bestDefault 6 = .ok (.aload_n 0, 1) := by decide +kernel
theorem dX10_bestDefault_7 : decode cX10_bestDefault 7 = .ok (.getfield 19, 3) := by decide +kernel
theorem dX10_bestDefault_10 : decode cX10_bestDefault 10 = .ok (.iconst 0, 1) := by decide +kernel
theorem dX10_bestDefault_11 : decode cX10_bestDefault 11 = .ok (.invokevirtual 289, 3) := by decide +kernel
theorem dX10_bestDefault_14 : decode cX10_bestDefault 14 = .ok (.istore_n 2, 1) := by decide +kernel
theorem dX10_bestDefault_15 : decode cX10_bestDefault 15 = .ok (.iconst 1, 1) := by decide +kernel
theorem dX10_bestDefault_16 : decode cX10_bestDefault 16 = .ok (.istore_n 3, 1) := by decide +kernel
theorem dX10_bestDefault_17 : decode cX10_bestDefault 17 = .ok (.iload_n 3, 1) := by decide +kernel
theorem dX10_bestDefault_18 : decode cX10_bestDefault 18 = .ok (.iconst 5, 1) := by decide +kernel
theorem dX10_bestDefault_19 : decode cX10_bestDefault 19 = .ok (.if_icmp .ge 34, 3) := by decide +kernel
theorem dX10_bestDefault_22 : decode cX10_bestDefault 22 = .ok (.aload_n 0, 1) := by decide +kernel
theorem dX10_bestDefault_23 : decode cX10_bestDefault 23 = .ok (.getfield 61, 3) := by decide +kernel
theorem dX10_bestDefault_26 : decode cX10_bestDefault 26 = .ok (.aload_n 0, 1) := by decide +kernel
theorem dX10_bestDefault_27 : decode cX10_bestDefault 27 = .ok (.getfield 19, 3) := by decide +kernel
theorem dX10_bestDefault_30 : decode cX10_bestDefault 30 = .ok (.iload_n 3, 1) := by decide +kernel
theorem dX10_bestDefault_31 : decode cX10_bestDefault 31 = .ok (.invokevirtual 289, 3) := by decide +kernel
theorem dX10_bestDefault_34 : decode cX10_bestDefault 34 = .ok (.istore 4, 2) := by decide +kernel
theorem dX10_bestDefault_36 : decode cX10_bestDefault 36 = .ok (.iload 4, 2) := by decide +kernel
theorem dX10_bestDefault_38 : decode cX10_bestDefault 38 = .ok (.iload_n 2, 1) := by decide +kernel
theorem dX10_bestDefault_39 : decode cX10_bestDefault 39 = .ok (.if_icmp .ge 8, 3) := by decide +kernel
theorem dX10_bestDefault_42 : decode cX10_bestDefault 42 = .ok (.iload_n 3, 1) := by decide +kernel
theorem dX10_bestDefault_43 : decode cX10_bestDefault 43 = .ok (.istore_n 1, 1) := by decide +kernel
theorem dX10_bestDefault_44 : decode cX10_bestDefault 44 = .ok (.iload 4, 2) := by decide +kernel
theorem dX10_bestDefault_46 : decode cX10_bestDefault 46 = .ok (.istore_n 2, 1) := by decide +kernel
theorem dX10_bestDefault_47 : decode cX10_bestDefault 47 = .ok (.iinc 3 1, 3) := by decide +kernel
theorem dX10_bestDefault_50 : decode cX10_bestDefault 50 = .ok (.goto (-33), 3) := by decide +kernel
theorem dX10_bestDefault_53 : decode cX10_bestDefault 53 = .ok (.iload_n 1, 1) := by decide +kernel
theorem dX10_bestDefault_54 : decode cX10_bestDefault 54 = .ok (.ireturn, 1) := by decide +kernel
theorem dX10_idle_0 : decode cX10_idle 0 = .ok (.aload_n 0, 1) := by decide +kernel
theorem dX10_idle_1 : decode cX10_idle 1 = .ok (.getfield 19, 3) := by decide +kernel
theorem dX10_idle_4 : decode cX10_idle 4 = .ok (.iload_n 1, 1) := by decide +kernel
theorem dX10_idle_5 : decode cX10_idle 5 = .ok (.invokevirtual 162, 3) := by decide +kernel
theorem dX10_idle_8 : decode cX10_idle 8 = .ok (.ifCond .eq 18, 3) := by decide +kernel
theorem dX10_idle_11 : decode cX10_idle 11 = .ok (.aload_n 0, 1) := by decide +kernel
theorem dX10_idle_12 : decode cX10_idle 12 = .ok (.invokevirtual 185, 3) := by decide +kernel
theorem dX10_idle_15 : decode cX10_idle 15 = .ok (.aload_n 0, 1) := by decide +kernel
theorem dX10_idle_16 : decode cX10_idle 16 = .ok (.getfield 19, 3) := by decide +kernel
theorem dX10_idle_19 : decode cX10_idle 19 = .ok (.iload_n 1, 1) := by decide +kernel
theorem dX10_idle_20 : decode cX10_idle 20 = .ok (.invokevirtual 306, 3) := by decide +kernel
theorem dX10_idle_23 : decode cX10_idle 23 = .ok (.goto 4, 3) := by decide +kernel
theorem dX10_idle_26 : decode cX10_idle 26 = .ok (.iconst (-1), 1) := by decide +kernel
theorem dX10_idle_27 : decode cX10_idle 27 = .ok (.ireturn, 1) := by decide +kernel
theorem dX10_without_0 : decode cX10_without 0 = .ok (.aload_n 0, 1) := by decide +kernel
theorem dX10_without_1 : decode cX10_without 1 = .ok (.getfield 19, 3) := by decide +kernel
theorem dX10_without_4 : decode cX10_without 4 = .ok (.iload_n 1, 1) := by decide +kernel
theorem dX10_without_5 : decode cX10_without 5 = .ok (.invokevirtual 162, 3) := by decide +kernel
theorem dX10_without_8 : decode cX10_without 8 = .ok (.ifCond .eq 18, 3) := by decide +kernel
theorem dX10_without_11 : decode cX10_without 11 = .ok (.aload_n 0, 1) := by decide +kernel
theorem dX10_without_12 : decode cX10_without 12 = .ok (.invokevirtual 185, 3) := by decide +kernel
theorem dX10_without_15 : decode cX10_without 15 = .ok (.aload_n 0, 1) := by decide +kernel
theorem dX10_without_16 : decode cX10_without 16 = .ok (.getfield 19, 3) := by decide +kernel
theorem dX10_without_19 : decode cX10_without 19 = .ok (.iload_n 1, 1) := by decide +kernel
theorem dX10_without_20 : decode cX10_without 20 = .ok (.invokevirtual 309, 3) := by decide +kernel
theorem dX10_without_23 : decode cX10_without 23 = .ok (.goto 6, 3) := by decide +kernel
theorem dX10_without_26 : decode cX10_without 26 = .ok (.sipush (-2000), 3) := by decide +kernel
theorem dX10_without_29 : decode cX10_without 29 = .ok (.ireturn, 1) := by decide +kernel
theorem dX10_besides_0 : decode cX10_besides 0 = .ok (.aload_n 0, 1) := by decide +kernel
theorem dX10_besides_1 : decode cX10_besides 1 = .ok (.getfield 19, 3) := by decide +kernel
theorem dX10_besides_4 : decode cX10_besides 4 = .ok (.iconst 0, 1) := by decide +kernel
theorem dX10_besides_5 : decode cX10_besides 5 = .ok (.iload_n 1, 1) := by decide +kernel
theorem dX10_besides_6 : decode cX10_besides 6 = .ok (.invokevirtual 150, 3) := by decide +kernel
theorem dX10_besides_9 : decode cX10_besides 9 = .ok (.ifCond .eq 19, 3) := by decide +kernel
theorem dX10_besides_12 : decode cX10_besides 12 = .ok (.iload_n 2, 1) := by decide +kernel
theorem dX10_besides_13 : decode cX10_besides 13 = .ok (.invokestatic 121, 3) := by decide +kernel
theorem dX10_besides_16 : decode cX10_besides 16 = .ok (.ifCond .eq 12, 3) := by decide +kernel
theorem dX10_besides_19 : decode cX10_besides 19 = .ok (.iload_n 3, 1) := by decide +kernel
theorem dX10_besides_20 : decode cX10_besides 20 = .ok (.ifCond .lt 8, 3) := by decide +kernel
theorem dX10_besides_23 : decode cX10_besides 23 = .ok (.iload_n 3, 1) := by decide +kernel
theorem dX10_besides_24 : decode cX10_besides 24 = .ok (.iconst 1, 1) := by decide +kernel
theorem dX10_besides_25 : decode cX10_besides 25 = .ok (.if_icmp .le 7, 3) := by decide +kernel
theorem dX10_besides_28 : decode cX10_besides 28 = .ok (.sipush (-2000), 3) := by decide +kernel
theorem dX10_besides_31 : decode cX10_besides 31 = .ok (.ireturn, 1) := by decide +kernel
theorem dX10_besides_32 : decode cX10_besides 32 = .ok (.aload_n 0, 1) := by decide +kernel
theorem dX10_besides_33 : decode cX10_besides 33 = .ok (.invokevirtual 185, 3) := by decide +kernel
theorem dX10_besides_36 : decode cX10_besides 36 = .ok (.astore 4, 2) := by decide +kernel
theorem dX10_besides_38 : decode cX10_besides 38 = .ok (.aload 4, 2) := by decide +kernel
theorem dX10_besides_40 : decode cX10_besides 40 = .ok (.aload_n 0, 1) := by decide +kernel
theorem dX10_besides_41 : decode cX10_besides 41 = .ok (.getfield 19, 3) := by decide +kernel
theorem dX10_besides_44 : decode cX10_besides 44 = .ok (.iload_n 2, 1) := by decide +kernel
theorem dX10_besides_45 : decode cX10_besides 45 = .ok (.invokevirtual 312, 3) := by decide +kernel
theorem dX10_besides_48 : decode cX10_besides 48 = .ok (.sipush (-2000), 3) := by decide +kernel
theorem dX10_besides_51 : decode cX10_besides 51 = .ok (.istore 5, 2) := by decide +kernel
theorem dX10_besides_53 : decode cX10_besides 53 = .ok (.sipush (-2000), 3) := by decide +kernel
theorem dX10_besides_56 : decode cX10_besides 56 = .ok (.istore 6, 2) := by decide +kernel
theorem dX10_besides_58 : decode cX10_besides 58 = .ok (.iconst 0, 1) := by decide +kernel
theorem dX10_besides_59 : decode cX10_besides 59 = .ok (.istore 7, 2) := by decide +kernel
theorem dX10_besides_61 : decode cX10_besides 61 = .ok (.iconst 0, 1) := by decide +kernel
theorem dX10_besides_62 : decode cX10_besides 62 = .ok (.istore 8, 2) := by decide +kernel
theorem dX10_besides_64 : decode cX10_besides 64 = .ok (.iload 8, 2) := by decide +kernel
theorem dX10_besides_66 : decode cX10_besides 66 = .ok (.aload_n 0, 1) := by decide +kernel
theorem dX10_besides_67 : decode cX10_besides 67 = .ok (.getfield 19, 3) := by decide +kernel
theorem dX10_besides_70 : decode cX10_besides 70 = .ok (.getfield 118, 3) := by decide +kernel
theorem dX10_besides_73 : decode cX10_besides 73 = .ok (.if_icmp .ge 67, 3) := by decide +kernel
theorem dX10_besides_76 : decode cX10_besides 76 = .ok (.aload 4, 2) := by decide +kernel
theorem dX10_besides_78 : decode cX10_besides 78 = .ok (.iload 7, 2) := by decide +kernel
theorem dX10_besides_80 : decode cX10_besides 80 = .ok (.iload 8, 2) := by decide +kernel
theorem dX10_besides_82 : decode cX10_besides 82 = .ok (.invokevirtual 316, 3) := by decide +kernel
theorem dX10_besides_85 : decode cX10_besides 85 = .ok (.istore 7, 2) := by decide +kernel
theorem dX10_besides_87 : decode cX10_besides 87 = .ok (.aload 4, 2) := by decide +kernel
theorem dX10_besides_89 : decode cX10_besides 89 = .ok (.iload 7, 2) := by decide +kernel
theorem dX10_besides_91 : decode cX10_besides 91 = .ok (.iload 8, 2) := by decide +kernel
theorem dX10_besides_93 : decode cX10_besides 93 = .ok (.iload 8, 2) := by decide +kernel
theorem dX10_besides_95 : decode cX10_besides 95 = .ok (.iload_n 1, 1) := by decide +kernel
theorem dX10_besides_96 : decode cX10_besides 96 = .ok (.iadd, 1) := by decide +kernel
theorem dX10_besides_97 : decode cX10_besides 97 = .ok (.invokevirtual 319, 3) := by decide +kernel
theorem dX10_besides_100 : decode cX10_besides 100 = .ok (.istore 9, 2) := by decide +kernel
theorem dX10_besides_102 : decode cX10_besides 102 = .ok (.iload 9, 2) := by decide +kernel
theorem dX10_besides_104 : decode cX10_besides 104 = .ok (.iload 5, 2) := by decide +kernel
theorem dX10_besides_106 : decode cX10_besides 106 = .ok (.if_icmp .le 25, 3) := by decide +kernel
theorem dX10_besides_109 : decode cX10_besides 109 = .ok (.aload_n 0, 1) := by decide +kernel
theorem dX10_besides_110 : decode cX10_besides 110 = .ok (.getfield 19, 3) := by decide +kernel
theorem dX10_besides_113 : decode cX10_besides 113 = .ok (.iload 8, 2) := by decide +kernel
theorem dX10_besides_115 : decode cX10_besides 115 = .ok (.iload_n 1, 1) := by decide +kernel
theorem dX10_besides_116 : decode cX10_besides 116 = .ok (.invokevirtual 154, 3) := by decide +kernel
theorem dX10_besides_119 : decode cX10_besides 119 = .ok (.iconst (-1), 1) := by decide +kernel
theorem dX10_besides_120 : decode cX10_besides 120 = .ok (.if_icmp .ne 11, 3) := by decide +kernel
theorem dX10_besides_123 : decode cX10_besides 123 = .ok (.iload 9, 2) := by decide +kernel
theorem dX10_besides_125 : decode cX10_besides 125 = .ok (.istore 5, 2) := by decide +kernel
theorem dX10_besides_127 : decode cX10_besides 127 = .ok (.iload 8, 2) := by decide +kernel
theorem dX10_besides_129 : decode cX10_besides 129 = .ok (.istore 6, 2) := by decide +kernel
theorem dX10_besides_131 : decode cX10_besides 131 = .ok (.iload 8, 2) := by decide +kernel
theorem dX10_besides_133 : decode cX10_besides 133 = .ok (.iload_n 1, 1) := by decide +kernel
theorem dX10_besides_134 : decode cX10_besides 134 = .ok (.iadd, 1) := by decide +kernel
theorem dX10_besides_135 : decode cX10_besides 135 = .ok (.istore 8, 2) := by decide +kernel
theorem dX10_besides_137 : decode cX10_besides 137 = .ok (.goto (-73), 3) := by decide +kernel
theorem dX10_besides_140 : decode cX10_besides 140 = .ok (.iload_n 3, 1) := by decide +kernel
theorem dX10_besides_141 : decode cX10_besides 141 = .ok (.ifCond .ne 8, 3) := by decide +kernel
theorem dX10_besides_144 : decode cX10_besides 144 = .ok (.iload 5, 2) := by decide +kernel
theorem dX10_besides_146 : decode cX10_besides 146 = .ok (.goto 5, 3) := by decide +kernel
theorem dX10_besides_149 : decode cX10_besides 149 = .ok (.iload 6, 2) := by decide +kernel
theorem dX10_besides_151 : decode cX10_besides 151 = .ok (.ireturn, 1) := by decide +kernel
theorem dX10_changeNow_0 : decode cX10_changeNow 0 = .ok (.aload_n 0, 1) := by decide +kernel
theorem dX10_changeNow_1 : decode cX10_changeNow 1 = .ok (.getfield 392, 3) := by decide +kernel
theorem dX10_changeNow_4 : decode cX10_changeNow 4 = .ok (.ifCond .ne 23, 3) := by decide +kernel
theorem dX10_changeNow_7 : decode cX10_changeNow 7 = .ok (.aload_n 0, 1) := by decide +kernel
theorem dX10_changeNow_8 : decode cX10_changeNow 8 = .ok (.getfield 85, 3) := by decide +kernel
theorem dX10_changeNow_11 : decode cX10_changeNow 11 = .ok (.aload_n 0, 1) := by decide +kernel
theorem dX10_changeNow_12 : decode cX10_changeNow 12 = .ok (.getfield 19, 3) := by decide +kernel
theorem dX10_changeNow_15 : decode cX10_changeNow 15 = .ok (.aload_n 0, 1) := by decide +kernel
theorem dX10_changeNow_16 : decode cX10_changeNow 16 = .ok (.invokevirtual 165, 3) := by decide +kernel
theorem dX10_changeNow_19 : decode cX10_changeNow 19 = .ok (.invokevirtual 412, 3) := by decide +kernel
theorem dX10_changeNow_22 : decode cX10_changeNow 22 = .ok (.aload_n 0, 1) := by decide +kernel
theorem dX10_changeNow_23 : decode cX10_changeNow 23 = .ok (.iconst 1, 1) := by decide +kernel
theorem dX10_changeNow_24 : decode cX10_changeNow 24 = .ok (.putfield 392, 3) := by decide +kernel
theorem dX10_changeNow_27 : decode cX10_changeNow 27 = .ok (.aload_n 0, 1) := by decide +kernel
theorem dX10_changeNow_28 : decode cX10_changeNow 28 = .ok (.getfield 85, 3) := by decide +kernel
theorem dX10_changeNow_31 : decode cX10_changeNow 31 = .ok (.areturn, 1) := by decide +kernel
theorem dX10_change_0 : decode cX10_change 0 = .ok (.aload_n 0, 1) := by decide +kernel
theorem dX10_change_1 : decode cX10_change 1 = .ok (.invokevirtual 323, 3) := by decide +kernel
theorem dX10_change_4 : decode cX10_change 4 = .ok (.astore_n 2, 1) := by decide +kernel
theorem dX10_change_5 : decode cX10_change 5 = .ok (.iload_n 1, 1) := by decide +kernel
theorem dX10_change_6 : decode cX10_change 6 = .ok (.tableswitch 65 0 2 #[26, 36, 41], 26) := by decide +kernel
theorem dX10_change_32 : decode cX10_change 32 = .ok (.aload_n 2, 1) := by decide +kernel
theorem dX10_change_33 : decode cX10_change 33 = .ok (.getfield 327, 3) := by decide +kernel
theorem dX10_change_36 : decode cX10_change 36 = .ok (.aload_n 2, 1) := by decide +kernel
theorem dX10_change_37 : decode cX10_change 37 = .ok (.getfield 330, 3) := by decide +kernel
theorem dX10_change_40 : decode cX10_change 40 = .ok (.iadd, 1) := by decide +kernel
theorem dX10_change_41 : decode cX10_change 41 = .ok (.ireturn, 1) := by decide +kernel
theorem dX10_change_42 : decode cX10_change 42 = .ok (.aload_n 2, 1) := by decide +kernel
theorem dX10_change_43 : decode cX10_change 43 = .ok (.getfield 327, 3) := by decide +kernel
theorem dX10_change_46 : decode cX10_change 46 = .ok (.ireturn, 1) := by decide +kernel
theorem dX10_change_47 : decode cX10_change 47 = .ok (.aload_n 2, 1) := by decide +kernel
theorem dX10_change_48 : decode cX10_change 48 = .ok (.getfield 333, 3) := by decide +kernel
theorem dX10_change_51 : decode cX10_change 51 = .ok (.ifCond .ne 7, 3) := by decide +kernel
theorem dX10_change_54 : decode cX10_change 54 = .ok (.iconst (-1), 1) := by decide +kernel
theorem dX10_change_55 : decode cX10_change 55 = .ok (.goto 15, 3) := by decide +kernel
theorem dX10_change_58 : decode cX10_change 58 = .ok (.aload_n 2, 1) := by decide +kernel
theorem dX10_change_59 : decode cX10_change 59 = .ok (.getfield 337, 3) := by decide +kernel
theorem dX10_change_62 : decode cX10_change 62 = .ok (.ifCond .eq 7, 3) := by decide +kernel
theorem dX10_change_65 : decode cX10_change 65 = .ok (.iconst 1, 1) := by decide +kernel
theorem dX10_change_66 : decode cX10_change 66 = .ok (.goto 4, 3) := by decide +kernel
theorem dX10_change_69 : decode cX10_change 69 = .ok (.iconst 0, 1) := by decide +kernel
theorem dX10_change_70 : decode cX10_change 70 = .ok (.ireturn, 1) := by decide +kernel
theorem dX10_change_71 : decode cX10_change 71 = .ok (.iconst (-1), 1) := by decide +kernel
theorem dX10_change_72 : decode cX10_change 72 = .ok (.ireturn, 1) := by decide +kernel
theorem dX10_order_0 : decode cX10_order 0 = .ok (.aload_n 0, 1) := by decide +kernel
theorem dX10_order_1 : decode cX10_order 1 = .ok (.invokevirtual 323, 3) := by decide +kernel
theorem dX10_order_4 : decode cX10_order 4 = .ok (.astore_n 2, 1) := by decide +kernel
theorem dX10_order_5 : decode cX10_order 5 = .ok (.aload_n 2, 1) := by decide +kernel
theorem dX10_order_6 : decode cX10_order 6 = .ok (.iload_n 1, 1) := by decide +kernel
theorem dX10_order_7 : decode cX10_order 7 = .ok (.invokevirtual 340, 3) := by decide +kernel
theorem dX10_order_10 : decode cX10_order 10 = .ok (.ifCond .eq 12, 3) := by decide +kernel
theorem dX10_order_13 : decode cX10_order 13 = .ok (.aload_n 2, 1) := by decide +kernel
theorem dX10_order_14 : decode cX10_order 14 = .ok (.getfield 343, 3) := by decide +kernel
theorem dX10_order_17 : decode cX10_order 17 = .ok (.iload_n 1, 1) := by decide +kernel
theorem dX10_order_18 : decode cX10_order 18 = .ok (.iaload, 1) := by decide +kernel
theorem dX10_order_19 : decode cX10_order 19 = .ok (.goto 4, 3) := by decide +kernel
theorem dX10_order_22 : decode cX10_order 22 = .ok (.iconst (-1), 1) := by decide +kernel
theorem dX10_order_23 : decode cX10_order 23 = .ok (.ireturn, 1) := by decide +kernel
theorem dX10_stir_0 : decode cX10_stir 0 = .ok (.aload_n 0, 1) := by decide +kernel
theorem dX10_stir_1 : decode cX10_stir 1 = .ok (.invokevirtual 323, 3) := by decide +kernel
theorem dX10_stir_4 : decode cX10_stir 4 = .ok (.astore_n 2, 1) := by decide +kernel
theorem dX10_stir_5 : decode cX10_stir 5 = .ok (.aload_n 2, 1) := by decide +kernel
theorem dX10_stir_6 : decode cX10_stir 6 = .ok (.iload_n 1, 1) := by decide +kernel
theorem dX10_stir_7 : decode cX10_stir 7 = .ok (.invokevirtual 340, 3) := by decide +kernel
theorem dX10_stir_10 : decode cX10_stir 10 = .ok (.ifCond .eq 11, 3) := by decide +kernel
theorem dX10_stir_13 : decode cX10_stir 13 = .ok (.aload_n 2, 1) := by decide +kernel
theorem dX10_stir_14 : decode cX10_stir 14 = .ok (.iload_n 1, 1) := by decide +kernel
theorem dX10_stir_15 : decode cX10_stir 15 = .ok (.invokevirtual 346, 3) := by decide +kernel
theorem dX10_stir_18 : decode cX10_stir 18 = .ok (.goto 4, 3) := by decide +kernel
theorem dX10_stir_21 : decode cX10_stir 21 = .ok (.iconst (-1), 1) := by decide +kernel
theorem dX10_stir_22 : decode cX10_stir 22 = .ok (.ireturn, 1) := by decide +kernel
theorem dX10_block_0 : decode cX10_block 0 = .ok (.aload_n 0, 1) := by decide +kernel
theorem dX10_block_1 : decode cX10_block 1 = .ok (.invokevirtual 185, 3) := by decide +kernel
theorem dX10_block_4 : decode cX10_block 4 = .ok (.astore_n 3, 1) := by decide +kernel
theorem dX10_block_5 : decode cX10_block 5 = .ok (.aload_n 0, 1) := by decide +kernel
theorem dX10_block_6 : decode cX10_block 6 = .ok (.getfield 19, 3) := by decide +kernel
theorem dX10_block_9 : decode cX10_block 9 = .ok (.getfield 118, 3) := by decide +kernel
theorem dX10_block_12 : decode cX10_block 12 = .ok (.istore 4, 2) := by decide +kernel
theorem dX10_block_14 : decode cX10_block 14 = .ok (.iload 4, 2) := by decide +kernel
theorem dX10_block_16 : decode cX10_block 16 = .ok (.iconst 1, 1) := by decide +kernel
theorem dX10_block_17 : decode cX10_block 17 = .ok (.if_icmp .lt 37, 3) := by decide +kernel
theorem dX10_block_20 : decode cX10_block 20 = .ok (.aload_n 3, 1) := by decide +kernel
theorem dX10_block_21 : decode cX10_block 21 = .ok (.iload_n 1, 1) := by decide +kernel
theorem dX10_block_22 : decode cX10_block 22 = .ok (.iload 4, 2) := by decide +kernel
theorem dX10_block_24 : decode cX10_block 24 = .ok (.invokevirtual 349, 3) := by decide +kernel
theorem dX10_block_27 : decode cX10_block 27 = .ok (.istore 5, 2) := by decide +kernel
theorem dX10_block_29 : decode cX10_block 29 = .ok (.iload 5, 2) := by decide +kernel
theorem dX10_block_31 : decode cX10_block 31 = .ok (.iconst (-1), 1) := by decide +kernel
theorem dX10_block_32 : decode cX10_block 32 = .ok (.if_icmp .eq 13, 3) := by decide +kernel
theorem dX10_block_35 : decode cX10_block 35 = .ok (.iload_n 2, 1) := by decide +kernel
theorem dX10_block_36 : decode cX10_block 36 = .ok (.iload 4, 2) := by decide +kernel
theorem dX10_block_38 : decode cX10_block 38 = .ok (.iload 5, 2) := by decide +kernel
theorem dX10_block_40 : decode cX10_block 40 = .ok (.iconst (-1), 1) := by decide +kernel
theorem dX10_block_41 : decode cX10_block 41 = .ok (.invokestatic 228, 3) := by decide +kernel
theorem dX10_block_44 : decode cX10_block 44 = .ok (.ireturn, 1) := by decide +kernel
theorem dX10_block_45 : decode cX10_block 45 = .ok (.iload 4, 2) := by decide +kernel
theorem dX10_block_47 : decode cX10_block 47 = .ok (.iconst 2, 1) := by decide +kernel
theorem dX10_block_48 : decode cX10_block 48 = .ok (.idiv, 1) := by decide +kernel
theorem dX10_block_49 : decode cX10_block 49 = .ok (.istore 4, 2) := by decide +kernel
theorem dX10_block_51 : decode cX10_block 51 = .ok (.goto (-37), 3) := by decide +kernel
theorem dX10_block_54 : decode cX10_block 54 = .ok (.iconst (-1), 1) := by decide +kernel
theorem dX10_block_55 : decode cX10_block 55 = .ok (.ireturn, 1) := by decide +kernel
theorem dX10_bits_0 : decode cX10_bits 0 = .ok (.iload_n 1, 1) := by decide +kernel
theorem dX10_bits_1 : decode cX10_bits 1 = .ok (.ifCond .lt 8, 3) := by decide +kernel
theorem dX10_bits_4 : decode cX10_bits 4 = .ok (.iload_n 1, 1) := by decide +kernel
theorem dX10_bits_5 : decode cX10_bits 5 = .ok (.iconst 5, 1) := by decide +kernel
theorem dX10_bits_6 : decode cX10_bits 6 = .ok (.if_icmp .le 5, 3) := by decide +kernel
theorem dX10_bits_9 : decode cX10_bits 9 = .ok (.iconst (-1), 1) := by decide +kernel
theorem dX10_bits_10 : decode cX10_bits 10 = .ok (.ireturn, 1) := by decide +kernel
theorem dX10_bits_11 : decode cX10_bits 11 = .ok (.aload_n 0, 1) := by decide +kernel
theorem dX10_bits_12 : decode cX10_bits 12 = .ok (.invokevirtual 185, 3) := by decide +kernel
theorem dX10_bits_15 : decode cX10_bits 15 = .ok (.astore_n 2, 1) := by decide +kernel
theorem dX10_bits_16 : decode cX10_bits 16 = .ok (.iconst 0, 1) := by decide +kernel
theorem dX10_bits_17 : decode cX10_bits 17 = .ok (.istore_n 3, 1) := by decide +kernel
theorem dX10_bits_18 : decode cX10_bits 18 = .ok (.iconst 0, 1) := by decide +kernel
theorem dX10_bits_19 : decode cX10_bits 19 = .ok (.istore 4, 2) := by decide +kernel
theorem dX10_bits_21 : decode cX10_bits 21 = .ok (.iload 4, 2) := by decide +kernel
theorem dX10_bits_23 : decode cX10_bits 23 = .ok (.aload_n 2, 1) := by decide +kernel
theorem dX10_bits_24 : decode cX10_bits 24 = .ok (.getfield 253, 3) := by decide +kernel
theorem dX10_bits_27 : decode cX10_bits 27 = .ok (.if_icmp .ge 44, 3) := by decide +kernel
theorem dX10_bits_30 : decode cX10_bits 30 = .ok (.aload_n 2, 1) := by decide +kernel
theorem dX10_bits_31 : decode cX10_bits 31 = .ok (.getfield 257, 3) := by decide +kernel
theorem dX10_bits_34 : decode cX10_bits 34 = .ok (.iload 4, 2) := by decide +kernel
theorem dX10_bits_36 : decode cX10_bits 36 = .ok (.iaload, 1) := by decide +kernel
theorem dX10_bits_37 : decode cX10_bits 37 = .ok (.iload_n 1, 1) := by decide +kernel
theorem dX10_bits_38 : decode cX10_bits 38 = .ok (.if_icmp .ne 27, 3) := by decide +kernel
theorem dX10_bits_41 : decode cX10_bits 41 = .ok (.iload_n 3, 1) := by decide +kernel
theorem dX10_bits_42 : decode cX10_bits 42 = .ok (.aload_n 2, 1) := by decide +kernel
theorem dX10_bits_43 : decode cX10_bits 43 = .ok (.iload 4, 2) := by decide +kernel
theorem dX10_bits_45 : decode cX10_bits 45 = .ok (.iconst 1, 1) := by decide +kernel
theorem dX10_bits_46 : decode cX10_bits 46 = .ok (.iadd, 1) := by decide +kernel
theorem dX10_bits_47 : decode cX10_bits 47 = .ok (.invokevirtual 254, 3) := by decide +kernel
theorem dX10_bits_50 : decode cX10_bits 50 = .ok (.invokestatic 352, 3) := by decide +kernel
theorem dX10_bits_53 : decode cX10_bits 53 = .ok (.aload_n 2, 1) := by decide +kernel
theorem dX10_bits_54 : decode cX10_bits 54 = .ok (.iload 4, 2) := by decide +kernel
theorem dX10_bits_56 : decode cX10_bits 56 = .ok (.invokevirtual 254, 3) := by decide +kernel
theorem dX10_bits_59 : decode cX10_bits 59 = .ok (.invokestatic 352, 3) := by decide +kernel
theorem dX10_bits_62 : decode cX10_bits 62 = .ok (.isub, 1) := by decide +kernel
theorem dX10_bits_63 : decode cX10_bits 63 = .ok (.iadd, 1) := by decide +kernel
theorem dX10_bits_64 : decode cX10_bits 64 = .ok (.istore_n 3, 1) := by decide +kernel
theorem dX10_bits_65 : decode cX10_bits 65 = .ok (.iinc 4 1, 3) := by decide +kernel
theorem dX10_bits_68 : decode cX10_bits 68 = .ok (.goto (-47), 3) := by decide +kernel
theorem dX10_bits_71 : decode cX10_bits 71 = .ok (.iload_n 3, 1) := by decide +kernel
theorem dX10_bits_72 : decode cX10_bits 72 = .ok (.ireturn, 1) := by decide +kernel
theorem dX10_image_0 : decode cX10_image 0 = .ok (.iload_n 1, 1) := by decide +kernel
theorem dX10_image_1 : decode cX10_image 1 = .ok (.ifCond .lt 8, 3) := by decide +kernel
theorem dX10_image_4 : decode cX10_image 4 = .ok (.iload_n 1, 1) := by decide +kernel
theorem dX10_image_5 : decode cX10_image 5 = .ok (.iconst 2, 1) := by decide +kernel
theorem dX10_image_6 : decode cX10_image 6 = .ok (.if_icmp .lt 5, 3) := by decide +kernel
theorem dX10_image_9 : decode cX10_image 9 = .ok (.iconst (-1), 1) := by decide +kernel
theorem dX10_image_10 : decode cX10_image 10 = .ok (.ireturn, 1) := by decide +kernel
theorem dX10_image_11 : decode cX10_image 11 = .ok (.aload_n 0, 1) := by decide +kernel
theorem dX10_image_12 : decode cX10_image 12 = .ok (.getfield 34, 3) := by decide +kernel
theorem dX10_image_15 : decode cX10_image 15 = .ok (.iload_n 1, 1) := by decide +kernel
theorem dX10_image_16 : decode cX10_image 16 = .ok (.aaload, 1) := by decide +kernel
theorem dX10_image_17 : decode cX10_image 17 = .ok (.aload_n 0, 1) := by decide +kernel
theorem dX10_image_18 : decode cX10_image 18 = .ok (.getfield 19, 3) := by decide +kernel
theorem dX10_image_21 : decode cX10_image 21 = .ok (.invokevirtual 103, 3) := by decide +kernel
theorem dX10_image_24 : decode cX10_image 24 = .ok (.aload_n 0, 1) := by decide +kernel
theorem dX10_image_25 : decode cX10_image 25 = .ok (.getfield 38, 3) := by decide +kernel
theorem dX10_image_28 : decode cX10_image 28 = .ok (.iload_n 1, 1) := by decide +kernel
theorem dX10_image_29 : decode cX10_image 29 = .ok (.iconst 1, 1) := by decide +kernel
theorem dX10_image_30 : decode cX10_image 30 = .ok (.bastore, 1) := by decide +kernel
theorem dX10_image_31 : decode cX10_image 31 = .ok (.aload_n 0, 1) := by decide +kernel
theorem dX10_image_32 : decode cX10_image 32 = .ok (.getfield 19, 3) := by decide +kernel
theorem dX10_image_35 : decode cX10_image 35 = .ok (.getfield 109, 3) := by decide +kernel
theorem dX10_image_38 : decode cX10_image 38 = .ok (.ireturn, 1) := by decide +kernel
theorem dX10_hasKept_0 : decode cX10_hasKept 0 = .ok (.iload_n 1, 1) := by decide +kernel
theorem dX10_hasKept_1 : decode cX10_hasKept 1 = .ok (.ifCond .lt 21, 3) := by decide +kernel
theorem dX10_hasKept_4 : decode cX10_hasKept 4 = .ok (.iload_n 1, 1) := by decide +kernel
theorem dX10_hasKept_5 : decode cX10_hasKept 5 = .ok (.iconst 2, 1) := by decide +kernel
theorem dX10_hasKept_6 : decode cX10_hasKept 6 = .ok (.if_icmp .ge 16, 3) := by decide +kernel
theorem dX10_hasKept_9 : decode cX10_hasKept 9 = .ok (.aload_n 0, 1) := by decide +kernel
theorem dX10_hasKept_10 : decode cX10_hasKept 10 = .ok (.getfield 38, 3) := by decide +kernel
theorem dX10_hasKept_13 : decode cX10_hasKept 13 = .ok (.iload_n 1, 1) := by decide +kernel
theorem dX10_hasKept_14 : decode cX10_hasKept 14 = .ok (.baload, 1) := by decide +kernel
theorem dX10_hasKept_15 : decode cX10_hasKept 15 = .ok (.ifCond .eq 7, 3) := by decide +kernel
theorem dX10_hasKept_18 : decode cX10_hasKept 18 = .ok (.iconst 1, 1) := by decide +kernel
theorem dX10_hasKept_19 : decode cX10_hasKept 19 = .ok (.goto 4, 3) := by decide +kernel
theorem dX10_hasKept_22 : decode cX10_hasKept 22 = .ok (.iconst 0, 1) := by decide +kernel
theorem dX10_hasKept_23 : decode cX10_hasKept 23 = .ok (.ireturn, 1) := by decide +kernel
theorem dX10_cutBoth_0 : decode cX10_cutBoth 0 = .ok (.aload_n 0, 1) := by decide +kernel
theorem dX10_cutBoth_1 : decode cX10_cutBoth 1 = .ok (.getfield 47, 3) := by decide +kernel
theorem dX10_cutBoth_4 : decode cX10_cutBoth 4 = .ok (.aload_n 0, 1) := by decide +kernel
theorem dX10_cutBoth_5 : decode cX10_cutBoth 5 = .ok (.getfield 19, 3) := by decide +kernel
theorem dX10_cutBoth_8 : decode cX10_cutBoth 8 = .ok (.getfield 118, 3) := by decide +kernel
theorem dX10_cutBoth_11 : decode cX10_cutBoth 11 = .ok (.invokevirtual 414, 3) := by decide +kernel
theorem dX10_cutBoth_14 : decode cX10_cutBoth 14 = .ok (.aload_n 0, 1) := by decide +kernel
theorem dX10_cutBoth_15 : decode cX10_cutBoth 15 = .ok (.getfield 47, 3) := by decide +kernel
theorem dX10_cutBoth_18 : decode cX10_cutBoth 18 = .ok (.aload_n 0, 1) := by decide +kernel
theorem dX10_cutBoth_19 : decode cX10_cutBoth 19 = .ok (.getfield 19, 3) := by decide +kernel
theorem dX10_cutBoth_22 : decode cX10_cutBoth 22 = .ok (.invokevirtual 416, 3) := by decide +kernel
theorem dX10_cutBoth_25 : decode cX10_cutBoth 25 = .ok (.aload_n 0, 1) := by decide +kernel
theorem dX10_cutBoth_26 : decode cX10_cutBoth 26 = .ok (.getfield 47, 3) := by decide +kernel
theorem dX10_cutBoth_29 : decode cX10_cutBoth 29 = .ok (.aload_n 1, 1) := by decide +kernel
theorem dX10_cutBoth_30 : decode cX10_cutBoth 30 = .ok (.invokevirtual 416, 3) := by decide +kernel
theorem dX10_cutBoth_33 : decode cX10_cutBoth 33 = .ok (.aload_n 0, 1) := by decide +kernel
theorem dX10_cutBoth_34 : decode cX10_cutBoth 34 = .ok (.getfield 47, 3) := by decide +kernel
theorem dX10_cutBoth_37 : decode cX10_cutBoth 37 = .ok (.aload_n 0, 1) := by decide +kernel
theorem dX10_cutBoth_38 : decode cX10_cutBoth 38 = .ok (.getfield 19, 3) := by decide +kernel
theorem dX10_cutBoth_41 : decode cX10_cutBoth 41 = .ok (.invokevirtual 419, 3) := by decide +kernel
theorem dX10_cutBoth_44 : decode cX10_cutBoth 44 = .ok (.aload_n 0, 1) := by decide +kernel
theorem dX10_cutBoth_45 : decode cX10_cutBoth 45 = .ok (.getfield 47, 3) := by decide +kernel
theorem dX10_cutBoth_48 : decode cX10_cutBoth 48 = .ok (.aload_n 1, 1) := by decide +kernel
theorem dX10_cutBoth_49 : decode cX10_cutBoth 49 = .ok (.invokevirtual 419, 3) := by decide +kernel
theorem dX10_cutBoth_52 : decode cX10_cutBoth 52 = .ok (.aload_n 0, 1) := by decide +kernel
theorem dX10_cutBoth_53 : decode cX10_cutBoth 53 = .ok (.getfield 47, 3) := by decide +kernel
theorem dX10_cutBoth_56 : decode cX10_cutBoth 56 = .ok (.aload_n 0, 1) := by decide +kernel
theorem dX10_cutBoth_57 : decode cX10_cutBoth 57 = .ok (.getfield 19, 3) := by decide +kernel
theorem dX10_cutBoth_60 : decode cX10_cutBoth 60 = .ok (.invokevirtual 422, 3) := by decide +kernel
theorem dX10_cutBoth_63 : decode cX10_cutBoth 63 = .ok (.return_, 1) := by decide +kernel
theorem dX10_otherKinds_0 : decode cX10_otherKinds 0 = .ok (.aload_n 0, 1) := by decide +kernel
theorem dX10_otherKinds_1 : decode cX10_otherKinds 1 = .ok (.aload_n 1, 1) := by decide +kernel
theorem dX10_otherKinds_2 : decode cX10_otherKinds 2 = .ok (.invokevirtual 425, 3) := by decide +kernel
theorem dX10_otherKinds_5 : decode cX10_otherKinds 5 = .ok (.iconst 0, 1) := by decide +kernel
theorem dX10_otherKinds_6 : decode cX10_otherKinds 6 = .ok (.istore_n 3, 1) := by decide +kernel
theorem dX10_otherKinds_7 : decode cX10_otherKinds 7 = .ok (.iconst 0, 1) := by decide +kernel
theorem dX10_otherKinds_8 : decode cX10_otherKinds 8 = .ok (.istore 4, 2) := by decide +kernel
theorem dX10_otherKinds_10 : decode cX10_otherKinds 10 = .ok (.iload 4, 2) := by decide +kernel
theorem dX10_otherKinds_12 : decode cX10_otherKinds 12 = .ok (.iconst 1, 1) := by decide +kernel
theorem dX10_otherKinds_13 : decode cX10_otherKinds 13 = .ok (.iadd, 1) := by decide +kernel
theorem dX10_otherKinds_14 : decode cX10_otherKinds 14 = .ok (.aload_n 0, 1) := by decide +kernel
theorem dX10_otherKinds_15 : decode cX10_otherKinds 15 = .ok (.getfield 47, 3) := by decide +kernel
theorem dX10_otherKinds_18 : decode cX10_otherKinds 18 = .ok (.getfield 428, 3) := by decide +kernel
theorem dX10_otherKinds_21 : decode cX10_otherKinds 21 = .ok (.if_icmp .ge 66, 3) := by decide +kernel
theorem dX10_otherKinds_24 : decode cX10_otherKinds 24 = .ok (.aload_n 0, 1) := by decide +kernel
theorem dX10_otherKinds_25 : decode cX10_otherKinds 25 = .ok (.getfield 47, 3) := by decide +kernel
theorem dX10_otherKinds_28 : decode cX10_otherKinds 28 = .ok (.getfield 429, 3) := by decide +kernel
theorem dX10_otherKinds_31 : decode cX10_otherKinds 31 = .ok (.iload 4, 2) := by decide +kernel
theorem dX10_otherKinds_33 : decode cX10_otherKinds 33 = .ok (.iaload, 1) := by decide +kernel
theorem dX10_otherKinds_34 : decode cX10_otherKinds 34 = .ok (.istore 5, 2) := by decide +kernel
theorem dX10_otherKinds_36 : decode cX10_otherKinds 36 = .ok (.aload_n 0, 1) := by decide +kernel
theorem dX10_otherKinds_37 : decode cX10_otherKinds 37 = .ok (.getfield 19, 3) := by decide +kernel
theorem dX10_otherKinds_40 : decode cX10_otherKinds 40 = .ok (.iload 5, 2) := by decide +kernel
theorem dX10_otherKinds_42 : decode cX10_otherKinds 42 = .ok (.iconst (-1), 1) := by decide +kernel
theorem dX10_otherKinds_43 : decode cX10_otherKinds 43 = .ok (.invokevirtual 247, 3) := by decide +kernel
theorem dX10_otherKinds_46 : decode cX10_otherKinds 46 = .ok (.aload_n 1, 1) := by decide +kernel
theorem dX10_otherKinds_47 : decode cX10_otherKinds 47 = .ok (.iload 5, 2) := by decide +kernel
theorem dX10_otherKinds_49 : decode cX10_otherKinds 49 = .ok (.iconst (-1), 1) := by decide +kernel
theorem dX10_otherKinds_50 : decode cX10_otherKinds 50 = .ok (.invokevirtual 247, 3) := by decide +kernel
theorem dX10_otherKinds_53 : decode cX10_otherKinds 53 = .ok (.if_icmp .eq 28, 3) := by decide +kernel
theorem dX10_otherKinds_56 : decode cX10_otherKinds 56 = .ok (.iload_n 2, 1) := by decide +kernel
theorem dX10_otherKinds_57 : decode cX10_otherKinds 57 = .ok (.ifCond .eq 6, 3) := by decide +kernel
theorem dX10_otherKinds_60 : decode cX10_otherKinds 60 = .ok (.iload 5, 2) := by decide +kernel
theorem dX10_otherKinds_62 : decode cX10_otherKinds 62 = .ok (.ireturn, 1) := by decide +kernel
theorem dX10_otherKinds_63 : decode cX10_otherKinds 63 = .ok (.iload_n 3, 1) := by decide +kernel
theorem dX10_otherKinds_64 : decode cX10_otherKinds 64 = .ok (.aload_n 0, 1) := by decide +kernel
theorem dX10_otherKinds_65 : decode cX10_otherKinds 65 = .ok (.getfield 47, 3) := by decide +kernel
theorem dX10_otherKinds_68 : decode cX10_otherKinds 68 = .ok (.getfield 429, 3) := by decide +kernel
theorem dX10_otherKinds_71 : decode cX10_otherKinds 71 = .ok (.iload 4, 2) := by decide +kernel
theorem dX10_otherKinds_73 : decode cX10_otherKinds 73 = .ok (.iconst 1, 1) := by decide +kernel
theorem dX10_otherKinds_74 : decode cX10_otherKinds 74 = .ok (.iadd, 1) := by decide +kernel
theorem dX10_otherKinds_75 : decode cX10_otherKinds 75 = .ok (.iaload, 1) := by decide +kernel
theorem dX10_otherKinds_76 : decode cX10_otherKinds 76 = .ok (.iload 5, 2) := by decide +kernel
theorem dX10_otherKinds_78 : decode cX10_otherKinds 78 = .ok (.isub, 1) := by decide +kernel
theorem dX10_otherKinds_79 : decode cX10_otherKinds 79 = .ok (.iadd, 1) := by decide +kernel
theorem dX10_otherKinds_80 : decode cX10_otherKinds 80 = .ok (.istore_n 3, 1) := by decide +kernel
theorem dX10_otherKinds_81 : decode cX10_otherKinds 81 = .ok (.iinc 4 1, 3) := by decide +kernel
theorem dX10_otherKinds_84 : decode cX10_otherKinds 84 = .ok (.goto (-74), 3) := by decide +kernel
theorem dX10_otherKinds_87 : decode cX10_otherKinds 87 = .ok (.iload_n 2, 1) := by decide +kernel
theorem dX10_otherKinds_88 : decode cX10_otherKinds 88 = .ok (.ifCond .eq 8, 3) := by decide +kernel
theorem dX10_otherKinds_91 : decode cX10_otherKinds 91 = .ok (.bipush (-2), 2) := by decide +kernel
theorem dX10_otherKinds_93 : decode cX10_otherKinds 93 = .ok (.goto 4, 3) := by decide +kernel
theorem dX10_otherKinds_96 : decode cX10_otherKinds 96 = .ok (.iload_n 3, 1) := by decide +kernel
theorem dX10_otherKinds_97 : decode cX10_otherKinds 97 = .ok (.ireturn, 1) := by decide +kernel
theorem dX10_otherWanted_0 : decode cX10_otherWanted 0 = .ok (.aload_n 0, 1) := by decide +kernel
theorem dX10_otherWanted_1 : decode cX10_otherWanted 1 = .ok (.aload_n 1, 1) := by decide +kernel
theorem dX10_otherWanted_2 : decode cX10_otherWanted 2 = .ok (.invokevirtual 425, 3) := by decide +kernel
theorem dX10_otherWanted_5 : decode cX10_otherWanted 5 = .ok (.iconst 0, 1) := by decide +kernel
theorem dX10_otherWanted_6 : decode cX10_otherWanted 6 = .ok (.istore_n 2, 1) := by decide +kernel
theorem dX10_otherWanted_7 : decode cX10_otherWanted 7 = .ok (.iconst 0, 1) := by decide +kernel
theorem dX10_otherWanted_8 : decode cX10_otherWanted 8 = .ok (.istore_n 3, 1) := by decide +kernel
theorem dX10_otherWanted_9 : decode cX10_otherWanted 9 = .ok (.iload_n 3, 1) := by decide +kernel
theorem dX10_otherWanted_10 : decode cX10_otherWanted 10 = .ok (.iconst 1, 1) := by decide +kernel
theorem dX10_otherWanted_11 : decode cX10_otherWanted 11 = .ok (.iadd, 1) := by decide +kernel
theorem dX10_otherWanted_12 : decode cX10_otherWanted 12 = .ok (.aload_n 0, 1) := by decide +kernel
theorem dX10_otherWanted_13 : decode cX10_otherWanted 13 = .ok (.getfield 47, 3) := by decide +kernel
theorem dX10_otherWanted_16 : decode cX10_otherWanted 16 = .ok (.getfield 428, 3) := by decide +kernel
theorem dX10_otherWanted_19 : decode cX10_otherWanted 19 = .ok (.if_icmp .ge 66, 3) := by decide +kernel
theorem dX10_otherWanted_22 : decode cX10_otherWanted 22 = .ok (.aload_n 0, 1) := by decide +kernel
theorem dX10_otherWanted_23 : decode cX10_otherWanted 23 = .ok (.getfield 47, 3) := by decide +kernel
theorem dX10_otherWanted_26 : decode cX10_otherWanted 26 = .ok (.getfield 429, 3) := by decide +kernel
theorem dX10_otherWanted_29 : decode cX10_otherWanted 29 = .ok (.iload_n 3, 1) := by decide +kernel
theorem dX10_otherWanted_30 : decode cX10_otherWanted 30 = .ok (.iaload, 1) := by decide +kernel
theorem dX10_otherWanted_31 : decode cX10_otherWanted 31 = .ok (.istore 4, 2) := by decide +kernel
theorem dX10_otherWanted_33 : decode cX10_otherWanted 33 = .ok (.aload_n 0, 1) := by decide +kernel
theorem dX10_otherWanted_34 : decode cX10_otherWanted 34 = .ok (.getfield 19, 3) := by decide +kernel
theorem dX10_otherWanted_37 : decode cX10_otherWanted 37 = .ok (.iload 4, 2) := by decide +kernel
theorem dX10_otherWanted_39 : decode cX10_otherWanted 39 = .ok (.aload_n 0, 1) := by decide +kernel
theorem dX10_otherWanted_40 : decode cX10_otherWanted 40 = .ok (.getfield 19, 3) := by decide +kernel
theorem dX10_otherWanted_43 : decode cX10_otherWanted 43 = .ok (.getfield 135, 3) := by decide +kernel
theorem dX10_otherWanted_46 : decode cX10_otherWanted 46 = .ok (.invokevirtual 244, 3) := by decide +kernel
theorem dX10_otherWanted_49 : decode cX10_otherWanted 49 = .ok (.aload_n 1, 1) := by decide +kernel
theorem dX10_otherWanted_50 : decode cX10_otherWanted 50 = .ok (.iload 4, 2) := by decide +kernel
theorem dX10_otherWanted_52 : decode cX10_otherWanted 52 = .ok (.aload_n 1, 1) := by decide +kernel
theorem dX10_otherWanted_53 : decode cX10_otherWanted 53 = .ok (.getfield 135, 3) := by decide +kernel
theorem dX10_otherWanted_56 : decode cX10_otherWanted 56 = .ok (.invokevirtual 244, 3) := by decide +kernel
theorem dX10_otherWanted_59 : decode cX10_otherWanted 59 = .ok (.if_icmp .eq 20, 3) := by decide +kernel
theorem dX10_otherWanted_62 : decode cX10_otherWanted 62 = .ok (.iload_n 2, 1) := by decide +kernel
theorem dX10_otherWanted_63 : decode cX10_otherWanted 63 = .ok (.aload_n 0, 1) := by decide +kernel
theorem dX10_otherWanted_64 : decode cX10_otherWanted 64 = .ok (.getfield 47, 3) := by decide +kernel
theorem dX10_otherWanted_67 : decode cX10_otherWanted 67 = .ok (.getfield 429, 3) := by decide +kernel
theorem dX10_otherWanted_70 : decode cX10_otherWanted 70 = .ok (.iload_n 3, 1) := by decide +kernel
theorem dX10_otherWanted_71 : decode cX10_otherWanted 71 = .ok (.iconst 1, 1) := by decide +kernel
theorem dX10_otherWanted_72 : decode cX10_otherWanted 72 = .ok (.iadd, 1) := by decide +kernel
theorem dX10_otherWanted_73 : decode cX10_otherWanted 73 = .ok (.iaload, 1) := by decide +kernel
theorem dX10_otherWanted_74 : decode cX10_otherWanted 74 = .ok (.iload 4, 2) := by decide +kernel
theorem dX10_otherWanted_76 : decode cX10_otherWanted 76 = .ok (.isub, 1) := by decide +kernel
theorem dX10_otherWanted_77 : decode cX10_otherWanted 77 = .ok (.iadd, 1) := by decide +kernel
theorem dX10_otherWanted_78 : decode cX10_otherWanted 78 = .ok (.istore_n 2, 1) := by decide +kernel
theorem dX10_otherWanted_79 : decode cX10_otherWanted 79 = .ok (.iinc 3 1, 3) := by decide +kernel
theorem dX10_otherWanted_82 : decode cX10_otherWanted 82 = .ok (.goto (-73), 3) := by decide +kernel
theorem dX10_otherWanted_85 : decode cX10_otherWanted 85 = .ok (.iload_n 2, 1) := by decide +kernel
theorem dX10_otherWanted_86 : decode cX10_otherWanted 86 = .ok (.ireturn, 1) := by decide +kernel
theorem dX10_differs_0 : decode cX10_differs 0 = .ok (.aload_n 0, 1) := by decide +kernel
theorem dX10_differs_1 : decode cX10_differs 1 = .ok (.iload_n 1, 1) := by decide +kernel
theorem dX10_differs_2 : decode cX10_differs 2 = .ok (.invokevirtual 355, 3) := by decide +kernel
theorem dX10_differs_5 : decode cX10_differs 5 = .ok (.ifCond .ne 5, 3) := by decide +kernel
theorem dX10_differs_8 : decode cX10_differs 8 = .ok (.iconst (-1), 1) := by decide +kernel
theorem dX10_differs_9 : decode cX10_differs 9 = .ok (.ireturn, 1) := by decide +kernel
theorem dX10_differs_10 : decode cX10_differs 10 = .ok (.iload_n 2, 1) := by decide +kernel
theorem dX10_differs_11 : decode cX10_differs 11 = .ok (.tableswitch 60 0 2 #[25, 37, 48], 25) := by decide +kernel
theorem dX10_differs_36 : decode cX10_differs 36 = .ok (.aload_n 0, 1) := by decide +kernel
theorem dX10_differs_37 : decode cX10_differs 37 = .ok (.aload_n 0, 1) := by decide +kernel
theorem dX10_differs_38 : decode cX10_differs 38 = .ok (.getfield 34, 3) := by decide +kernel
theorem dX10_differs_41 : decode cX10_differs 41 = .ok (.iload_n 1, 1) := by decide +kernel
theorem dX10_differs_42 : decode cX10_differs 42 = .ok (.aaload, 1) := by decide +kernel
theorem dX10_differs_43 : decode cX10_differs 43 = .ok (.iconst 0, 1) := by decide +kernel
theorem dX10_differs_44 : decode cX10_differs 44 = .ok (.invokevirtual 358, 3) := by decide +kernel
theorem dX10_differs_47 : decode cX10_differs 47 = .ok (.ireturn, 1) := by decide +kernel
theorem dX10_differs_48 : decode cX10_differs 48 = .ok (.aload_n 0, 1) := by decide +kernel
theorem dX10_differs_49 : decode cX10_differs 49 = .ok (.aload_n 0, 1) := by decide +kernel
theorem dX10_differs_50 : decode cX10_differs 50 = .ok (.getfield 34, 3) := by decide +kernel
theorem dX10_differs_53 : decode cX10_differs 53 = .ok (.iload_n 1, 1) := by decide +kernel
theorem dX10_differs_54 : decode cX10_differs 54 = .ok (.aaload, 1) := by decide +kernel
theorem dX10_differs_55 : decode cX10_differs 55 = .ok (.invokevirtual 362, 3) := by decide +kernel
theorem dX10_differs_58 : decode cX10_differs 58 = .ok (.ireturn, 1) := by decide +kernel
theorem dX10_differs_59 : decode cX10_differs 59 = .ok (.aload_n 0, 1) := by decide +kernel
theorem dX10_differs_60 : decode cX10_differs 60 = .ok (.aload_n 0, 1) := by decide +kernel
theorem dX10_differs_61 : decode cX10_differs 61 = .ok (.getfield 34, 3) := by decide +kernel
theorem dX10_differs_64 : decode cX10_differs 64 = .ok (.iload_n 1, 1) := by decide +kernel
theorem dX10_differs_65 : decode cX10_differs 65 = .ok (.aaload, 1) := by decide +kernel
theorem dX10_differs_66 : decode cX10_differs 66 = .ok (.iconst 1, 1) := by decide +kernel
theorem dX10_differs_67 : decode cX10_differs 67 = .ok (.invokevirtual 358, 3) := by decide +kernel
theorem dX10_differs_70 : decode cX10_differs 70 = .ok (.ireturn, 1) := by decide +kernel
theorem dX10_differs_71 : decode cX10_differs 71 = .ok (.iconst (-1), 1) := by decide +kernel
theorem dX10_differs_72 : decode cX10_differs 72 = .ok (.ireturn, 1) := by decide +kernel
theorem dX10_startAnew_0 : decode cX10_startAnew 0 = .ok (.aload_n 0, 1) := by decide +kernel
theorem dX10_startAnew_1 : decode cX10_startAnew 1 = .ok (.getfield 26, 3) := by decide +kernel
theorem dX10_startAnew_4 : decode cX10_startAnew 4 = .ok (.aload_n 0, 1) := by decide +kernel
theorem dX10_startAnew_5 : decode cX10_startAnew 5 = .ok (.getfield 19, 3) := by decide +kernel
theorem dX10_startAnew_8 : decode cX10_startAnew 8 = .ok (.invokevirtual 30, 3) := by decide +kernel
theorem dX10_startAnew_11 : decode cX10_startAnew 11 = .ok (.aload_n 0, 1) := by decide +kernel
theorem dX10_startAnew_12 : decode cX10_startAnew 12 = .ok (.invokevirtual 213, 3) := by decide +kernel
theorem dX10_startAnew_15 : decode cX10_startAnew 15 = .ok (.return_, 1) := by decide +kernel
theorem dX10_back_0 : decode cX10_back 0 = .ok (.aload_n 0, 1) := by decide +kernel
theorem dX10_back_1 : decode cX10_back 1 = .ok (.iload_n 1, 1) := by decide +kernel
theorem dX10_back_2 : decode cX10_back 2 = .ok (.invokevirtual 355, 3) := by decide +kernel
theorem dX10_back_5 : decode cX10_back 5 = .ok (.ifCond .ne 5, 3) := by decide +kernel
theorem dX10_back_8 : decode cX10_back 8 = .ok (.iconst (-1), 1) := by decide +kernel
theorem dX10_back_9 : decode cX10_back 9 = .ok (.ireturn, 1) := by decide +kernel
theorem dX10_back_10 : decode cX10_back 10 = .ok (.aload_n 0, 1) := by decide +kernel
theorem dX10_back_11 : decode cX10_back 11 = .ok (.getfield 19, 3) := by decide +kernel
theorem dX10_back_14 : decode cX10_back 14 = .ok (.aload_n 0, 1) := by decide +kernel
theorem dX10_back_15 : decode cX10_back 15 = .ok (.getfield 34, 3) := by decide +kernel
theorem dX10_back_18 : decode cX10_back 18 = .ok (.iload_n 1, 1) := by decide +kernel
theorem dX10_back_19 : decode cX10_back 19 = .ok (.aaload, 1) := by decide +kernel
theorem dX10_back_20 : decode cX10_back 20 = .ok (.invokevirtual 103, 3) := by decide +kernel
theorem dX10_back_23 : decode cX10_back 23 = .ok (.aload_n 0, 1) := by decide +kernel
theorem dX10_back_24 : decode cX10_back 24 = .ok (.invokevirtual 106, 3) := by decide +kernel
theorem dX10_back_27 : decode cX10_back 27 = .ok (.aload_n 0, 1) := by decide +kernel
theorem dX10_back_28 : decode cX10_back 28 = .ok (.getfield 19, 3) := by decide +kernel
theorem dX10_back_31 : decode cX10_back 31 = .ok (.getfield 109, 3) := by decide +kernel
theorem dX10_back_34 : decode cX10_back 34 = .ok (.ireturn, 1) := by decide +kernel
theorem dX10_about_0 : decode cX10_about 0 = .ok (.iload_n 1, 1) := by decide +kernel
theorem dX10_about_1 : decode cX10_about 1 = .ok (.tableswitch 169 0 11 #[63, 71, 79, 87, 95, 103, 111, 119, 127, 135, 143, 151], 63) := by decide +kernel
theorem dX10_about_64 : decode cX10_about 64 = .ok (.aload_n 0, 1) := by decide +kernel
theorem dX10_about_65 : decode cX10_about 65 = .ok (.getfield 19, 3) := by decide +kernel
theorem dX10_about_68 : decode cX10_about 68 = .ok (.getfield 118, 3) := by decide +kernel
theorem dX10_about_71 : decode cX10_about 71 = .ok (.ireturn, 1) := by decide +kernel
theorem dX10_about_72 : decode cX10_about 72 = .ok (.aload_n 0, 1) := by decide +kernel
theorem dX10_about_73 : decode cX10_about 73 = .ok (.getfield 19, 3) := by decide +kernel
theorem dX10_about_76 : decode cX10_about 76 = .ok (.getfield 172, 3) := by decide +kernel
theorem dX10_about_79 : decode cX10_about 79 = .ok (.ireturn, 1) := by decide +kernel
theorem dX10_about_80 : decode cX10_about 80 = .ok (.aload_n 0, 1) := by decide +kernel
theorem dX10_about_81 : decode cX10_about 81 = .ok (.getfield 19, 3) := by decide +kernel
theorem dX10_about_84 : decode cX10_about 84 = .ok (.invokevirtual 365, 3) := by decide +kernel
theorem dX10_about_87 : decode cX10_about 87 = .ok (.ireturn, 1) := by decide +kernel
theorem dX10_about_88 : decode cX10_about 88 = .ok (.aload_n 0, 1) := by decide +kernel
theorem dX10_about_89 : decode cX10_about 89 = .ok (.getfield 19, 3) := by decide +kernel
theorem dX10_about_92 : decode cX10_about 92 = .ok (.getfield 135, 3) := by decide +kernel
theorem dX10_about_95 : decode cX10_about 95 = .ok (.ireturn, 1) := by decide +kernel
theorem dX10_about_96 : decode cX10_about 96 = .ok (.aload_n 0, 1) := by decide +kernel
theorem dX10_about_97 : decode cX10_about 97 = .ok (.getfield 19, 3) := by decide +kernel
theorem dX10_about_100 : decode cX10_about 100 = .ok (.getfield 109, 3) := by decide +kernel
theorem dX10_about_103 : decode cX10_about 103 = .ok (.ireturn, 1) := by decide +kernel
theorem dX10_about_104 : decode cX10_about 104 = .ok (.aload_n 0, 1) := by decide +kernel
theorem dX10_about_105 : decode cX10_about 105 = .ok (.getfield 19, 3) := by decide +kernel
theorem dX10_about_108 : decode cX10_about 108 = .ok (.getfield 273, 3) := by decide +kernel
theorem dX10_about_111 : decode cX10_about 111 = .ok (.ireturn, 1) := by decide +kernel
theorem dX10_about_112 : decode cX10_about 112 = .ok (.aload_n 0, 1) := by decide +kernel
theorem dX10_about_113 : decode cX10_about 113 = .ok (.invokevirtual 185, 3) := by decide +kernel
theorem dX10_about_116 : decode cX10_about 116 = .ok (.getfield 200, 3) := by decide +kernel
theorem dX10_about_119 : decode cX10_about 119 = .ok (.ireturn, 1) := by decide +kernel
theorem dX10_about_120 : decode cX10_about 120 = .ok (.aload_n 0, 1) := by decide +kernel
theorem dX10_about_121 : decode cX10_about 121 = .ok (.getfield 26, 3) := by decide +kernel
theorem dX10_about_124 : decode cX10_about 124 = .ok (.getfield 368, 3) := by decide +kernel
theorem dX10_about_127 : decode cX10_about 127 = .ok (.ireturn, 1) := by decide +kernel
theorem dX10_about_128 : decode cX10_about 128 = .ok (.aload_n 0, 1) := by decide +kernel
theorem dX10_about_129 : decode cX10_about 129 = .ok (.getfield 26, 3) := by decide +kernel
theorem dX10_about_132 : decode cX10_about 132 = .ok (.getfield 371, 3) := by decide +kernel
theorem dX10_about_135 : decode cX10_about 135 = .ok (.ireturn, 1) := by decide +kernel
theorem dX10_about_136 : decode cX10_about 136 = .ok (.aload_n 0, 1) := by decide +kernel
theorem dX10_about_137 : decode cX10_about 137 = .ok (.getfield 10, 3) := by decide +kernel
theorem dX10_about_140 : decode cX10_about 140 = .ok (.getfield 89, 3) := by decide +kernel
theorem dX10_about_143 : decode cX10_about 143 = .ok (.ireturn, 1) := by decide +kernel
theorem dX10_about_144 : decode cX10_about 144 = .ok (.aload_n 0, 1) := by decide +kernel
theorem dX10_about_145 : decode cX10_about 145 = .ok (.getfield 19, 3) := by decide +kernel
theorem dX10_about_148 : decode cX10_about 148 = .ok (.invokevirtual 189, 3) := by decide +kernel
theorem dX10_about_151 : decode cX10_about 151 = .ok (.ireturn, 1) := by decide +kernel
theorem dX10_about_152 : decode cX10_about 152 = .ok (.aload_n 0, 1) := by decide +kernel
theorem dX10_about_153 : decode cX10_about 153 = .ok (.getfield 19, 3) := by decide +kernel
theorem dX10_about_156 : decode cX10_about 156 = .ok (.getfield 182, 3) := by decide +kernel
theorem dX10_about_159 : decode cX10_about 159 = .ok (.aload_n 0, 1) := by decide +kernel
theorem dX10_about_160 : decode cX10_about 160 = .ok (.getfield 19, 3) := by decide +kernel
theorem dX10_about_163 : decode cX10_about 163 = .ok (.invokevirtual 189, 3) := by decide +kernel
theorem dX10_about_166 : decode cX10_about 166 = .ok (.invokestatic 266, 3) := by decide +kernel
theorem dX10_about_169 : decode cX10_about 169 = .ok (.ireturn, 1) := by decide +kernel
theorem dX10_about_170 : decode cX10_about 170 = .ok (.iconst (-1), 1) := by decide +kernel
theorem dX10_about_171 : decode cX10_about 171 = .ok (.ireturn, 1) := by decide +kernel
section G30_sk_lean_txt
variable {p : Program} {l : Launch} {e : Env} {s : State} {m : MethodId} {args : Array Value} {below : List Frame} {meth : Method} {c : Code} {H : Heap} {locs : List Loc} {ls : Array Slot} {E : Ge} {L : Lay} {fu d : Nat}
def fX10_feed (fu : Nat) (a0 : Nat) (x1 : Int32) (x2 : Int32) (x3 : Int32) (x4 : Int32) (x5 : Int32) (M : Mm) : Option (Int32 × Mm) :=
  if ((M.1 (a0 + 1) 1) + 20) ≤ 800 then
    bm (fX7_append fu (a0 + 1) x1 M) fun M_23 =>
    bm (fX7_append fu (a0 + 1) x2 M_23) fun M_31 =>
    bm (fX7_append fu (a0 + 1) x3 M_31) fun M_39 =>
    bm (fX7_append fu (a0 + 1) x4 M_39) fun M_48 =>
    bm (fX7_append fu (a0 + 1) x5 M_48) fun M_57 =>
    some ((M_57.1 (a0 + 1) 1), M_57)
  else
    some ((-1), M)
set_option maxRecDepth 100000 in
set_option maxHeartbeats 4000000 in
theorem mX10_feed {l : Launch} {E : Ge} {L : Lay} (fu d : Nat) {a0 : Nat} {x1 : Int32} {x2 : Int32} {x3 : Int32} {x4 : Int32} {x5 : Int32} {M : Mm} {r : Int32} {M' : Mm}  (h0 : At L a0 T10) (h : fX10_feed fu a0 x1 x2 x3 x4 x5 M = some (r, M')) : Ct l E L yX10_feed cX10_feed 6 (some .int) (d + 1) [.ref a0, .int x1, .int x2, .int x3, .int x4, .int x5] M (some (.int r)) M' := by
  refine Ct.of (by decide) ?_
  intro p e s m below meth c hr hlk B hR
  have B : Bx p s m _ c cX10_feed 6 RX10 E L := B
  have hx := B.1
  have hb := B.2.1
  have hl := lv_entry ([.ref a0, .int x1, .int x2, .int x3, .int x4, .int x5]) (n := 6) (Nat.le_of_ble_eq_true rfl)
  rw [lg_entry_eq]
  generalize (lg_sl ([.ref a0, .int x1, .int x2, .int x3, .int x4, .int x5]) ++ List.replicate (6 - (lg_sl ([.ref a0, .int x1, .int x2, .int x3, .int x4, .int x5])).length) Slot.unset).toArray = ls at hl ⊢
  have hl : lv_has ls 6 [(0, .ref a0), (1, .int x1), (2, .int x2), (3, .int x3), (4, .int x4), (5, .int x5)] := hl
  unfold fX10_feed at h
  refine lv_aload_n hx hb dX10_feed_0 rfl (lv_at hl 0 rfl) ?_
  refine gf_X10_10 B hR (h0.at0 rfl) dX10_feed_1 ?_
  refine gf_X10_89 B hR ((sb_10_0 h0).at0 rfl) dX10_feed_4 ?_
  refine lv_bipush (v := 20) hx hb dX10_feed_7 (by decide) ?_
  refine lv_iadd hx hb dX10_feed_9 ?_
  refine lv_sipush (v := 800) hx hb dX10_feed_10 (by decide) ?_
  refine lv_icmp_le (tgt := 18) hx hb dX10_feed_13 (by decide) (fun c_13 => ?_) (fun c_13 => ?_)
  · rw [if_pos c_13] at h
    refine lv_aload_n hx hb dX10_feed_18 rfl (lv_at hl 0 rfl) ?_
    refine gf_X10_10 B hR (h0.at0 rfl) dX10_feed_19 ?_
    refine lv_iload_n hx hb dX10_feed_22 rfl (lv_at hl 1 rfl) ?_
    obtain ⟨M_23, hc_23, h⟩ := bm_el h
    refine iv_X10_93 B hR ((sb_10_0 h0).at0 rfl) hl.1 (mX7_append fu _ (sb_10_0 h0) hc_23) (Nat.le_of_ble_eq_true rfl) dX10_feed_23 (fun H locs hR => ?_)
    refine lv_aload_n hx hb dX10_feed_26 rfl (lv_at hl 0 rfl) ?_
    refine gf_X10_10 B hR (h0.at0 rfl) dX10_feed_27 ?_
    refine lv_iload_n hx hb dX10_feed_30 rfl (lv_at hl 2 rfl) ?_
    obtain ⟨M_31, hc_31, h⟩ := bm_el h
    refine iv_X10_93 B hR ((sb_10_0 h0).at0 rfl) hl.1 (mX7_append fu _ (sb_10_0 h0) hc_31) (Nat.le_of_ble_eq_true rfl) dX10_feed_31 (fun H locs hR => ?_)
    refine lv_aload_n hx hb dX10_feed_34 rfl (lv_at hl 0 rfl) ?_
    refine gf_X10_10 B hR (h0.at0 rfl) dX10_feed_35 ?_
    refine lv_iload_n hx hb dX10_feed_38 rfl (lv_at hl 3 rfl) ?_
    obtain ⟨M_39, hc_39, h⟩ := bm_el h
    refine iv_X10_93 B hR ((sb_10_0 h0).at0 rfl) hl.1 (mX7_append fu _ (sb_10_0 h0) hc_39) (Nat.le_of_ble_eq_true rfl) dX10_feed_39 (fun H locs hR => ?_)
    refine lv_aload_n hx hb dX10_feed_42 rfl (lv_at hl 0 rfl) ?_
    refine gf_X10_10 B hR (h0.at0 rfl) dX10_feed_43 ?_
    refine lv_iload hx hb dX10_feed_46 (lv_at hl 4 rfl) ?_
    obtain ⟨M_48, hc_48, h⟩ := bm_el h
    refine iv_X10_93 B hR ((sb_10_0 h0).at0 rfl) hl.1 (mX7_append fu _ (sb_10_0 h0) hc_48) (Nat.le_of_ble_eq_true rfl) dX10_feed_48 (fun H locs hR => ?_)
    refine lv_aload_n hx hb dX10_feed_51 rfl (lv_at hl 0 rfl) ?_
    refine gf_X10_10 B hR (h0.at0 rfl) dX10_feed_52 ?_
    refine lv_iload hx hb dX10_feed_55 (lv_at hl 5 rfl) ?_
    obtain ⟨M_57, hc_57, h⟩ := bm_el h
    refine iv_X10_93 B hR ((sb_10_0 h0).at0 rfl) hl.1 (mX7_append fu _ (sb_10_0 h0) hc_57) (Nat.le_of_ble_eq_true rfl) dX10_feed_57 (fun H locs hR => ?_)
    refine lv_aload_n hx hb dX10_feed_60 rfl (lv_at hl 0 rfl) ?_
    refine gf_X10_10 B hR (h0.at0 rfl) dX10_feed_61 ?_
    refine gf_X10_89 B hR ((sb_10_0 h0).at0 rfl) dX10_feed_64 ?_
    exact r_iretW B hR hr hlk h dX10_feed_67
  · rw [if_neg c_13] at h
    refine lv_iconst (v := (-1)) hx hb dX10_feed_16 (by decide) ?_
    exact r_iretW B hR hr hlk h dX10_feed_17
def fX10_end_j15 (fu : Nat) (M : Mm) : Option (Int32 × Mm) :=
  some ((-1), M)
set_option maxRecDepth 100000 in
set_option maxHeartbeats 4000000 in
theorem wX10_end_j15 {r : Int32} {M' : Mm}    {M : Mm} (B : Bx p s m args c cX10_end 2 RX10 E L) (hr : meth.sig.returnType = (some .int)) (hlk : meth.locks = false)   (h : fX10_end_j15 fu M = some (r, M')) (hR : Rx s E L M H locs) (hl : lv_has ls 2 []) : W p l e (rmD (d + 0)) s m args below meth c H locs 0 0 (MQ below (QcM E L (some (.int r)) M') args s 0 0 E.2.2.2) (F0 m 15 ls []) := by
  have hx := B.1
  have hb := B.2.1
  unfold fX10_end_j15 at h
  refine lv_iconst (v := (-1)) hx hb dX10_end_15 (by decide) ?_
  exact r_iretW B hR hr hlk h dX10_end_16
def fX10_end (fu : Nat) (a0 : Nat) (x1 : Int32) (M : Mm) : Option (Int32 × Mm) :=
  if x1 < 0 then
    fX10_end_j15 fu M
  else
    if x1 ≤ (M.1 (a0 + 1) 1) then
      lt (wI M (a0 + 1) 1 x1) fun M_22 =>
      some (x1, M_22)
    else
      fX10_end_j15 fu M
set_option maxRecDepth 100000 in
set_option maxHeartbeats 4000000 in
theorem mX10_end {l : Launch} {E : Ge} {L : Lay} (fu d : Nat) {a0 : Nat} {x1 : Int32} {M : Mm} {r : Int32} {M' : Mm}  (h0 : At L a0 T10) (h : fX10_end fu a0 x1 M = some (r, M')) : Ct l E L yX10_end cX10_end 2 (some .int) (d + 0) [.ref a0, .int x1] M (some (.int r)) M' := by
  refine Ct.of (by decide) ?_
  intro p e s m below meth c hr hlk B hR
  have B : Bx p s m _ c cX10_end 2 RX10 E L := B
  have hx := B.1
  have hb := B.2.1
  have hl := lv_entry ([.ref a0, .int x1]) (n := 2) (Nat.le_of_ble_eq_true rfl)
  rw [lg_entry_eq]
  generalize (lg_sl ([.ref a0, .int x1]) ++ List.replicate (2 - (lg_sl ([.ref a0, .int x1])).length) Slot.unset).toArray = ls at hl ⊢
  have hl : lv_has ls 2 [(0, .ref a0), (1, .int x1)] := hl
  unfold fX10_end at h
  refine lv_iload_n hx hb dX10_end_0 rfl (lv_at hl 1 rfl) ?_
  refine lv_if_lt (tgt := 15) hx hb dX10_end_1 (by decide) (fun c_1 => ?_) (fun c_1 => ?_)
  · rw [if_pos c_1] at h
    exact wX10_end_j15 B hr hlk  h hR (lv_sub hl [] rfl)
  · rw [if_neg c_1] at h
    refine lv_iload_n hx hb dX10_end_4 rfl (lv_at hl 1 rfl) ?_
    refine lv_aload_n hx hb dX10_end_5 rfl (lv_at hl 0 rfl) ?_
    refine gf_X10_10 B hR (h0.at0 rfl) dX10_end_6 ?_
    refine gf_X10_89 B hR ((sb_10_0 h0).at0 rfl) dX10_end_9 ?_
    refine lv_icmp_le (tgt := 17) hx hb dX10_end_12 (by decide) (fun c_12 => ?_) (fun c_12 => ?_)
    · rw [if_pos c_12] at h
      refine lv_aload_n hx hb dX10_end_17 rfl (lv_at hl 0 rfl) ?_
      refine gf_X10_10 B hR (h0.at0 rfl) dX10_end_18 ?_
      refine lv_iload_n hx hb dX10_end_21 rfl (lv_at hl 1 rfl) ?_
      obtain ⟨M_22, eM_22, h⟩ := lt_el h
      refine pf_X10_89 B hR ((sb_10_0 h0).at0 rfl) dX10_end_22 (fun H locs hR => ?_)
      rw [← eM_22] at hR
      refine lv_iload_n hx hb dX10_end_25 rfl (lv_at hl 1 rfl) ?_
      exact r_iretW B hR hr hlk h dX10_end_26
    · rw [if_neg c_12] at h
      exact wX10_end_j15 B hr hlk  h hR (lv_sub hl [] rfl)
def fX10_fault (fu : Nat) (a0 : Nat) (x1 : Int32) (M : Mm) : Option Int32 :=
  if x1 = 0 then
    some (M.1 (a0 + 1) 2)
  else
    if x1 = 1 then
      some (M.1 (a0 + 1) 3)
    else
      some (-1)
set_option maxRecDepth 100000 in
set_option maxHeartbeats 4000000 in
theorem mX10_fault {l : Launch} {E : Ge} {L : Lay} (fu d : Nat) {a0 : Nat} {x1 : Int32} {M : Mm} {r : Int32}  (h0 : At L a0 T10) (h : fX10_fault fu a0 x1 M = some r) : Ct l E L yX10_fault cX10_fault 2 (some .int) (d + 0) [.ref a0, .int x1] M (some (.int r)) M := by
  refine Ct.of (by decide) ?_
  intro p e s m below meth c hr hlk B hR
  have B : Bx p s m _ c cX10_fault 2 RX10 E L := B
  have hx := B.1
  have hb := B.2.1
  have hl := lv_entry ([.ref a0, .int x1]) (n := 2) (Nat.le_of_ble_eq_true rfl)
  rw [lg_entry_eq]
  generalize (lg_sl ([.ref a0, .int x1]) ++ List.replicate (2 - (lg_sl ([.ref a0, .int x1])).length) Slot.unset).toArray = ls at hl ⊢
  have hl : lv_has ls 2 [(0, .ref a0), (1, .int x1)] := hl
  unfold fX10_fault at h
  refine lv_iload_n hx hb dX10_fault_0 rfl (lv_at hl 1 rfl) ?_
  by_cases s_1_0 : x1 = 0
  · rw [if_pos s_1_0] at h
    refine lv_lookup (tgt := 28) (off := 27) hx hb dX10_fault_1 (by decide +kernel) (by rw [s_1_0]; try rfl) (by decide) ?_
    refine lv_aload_n hx hb dX10_fault_28 rfl (lv_at hl 0 rfl) ?_
    refine gf_X10_10 B hR (h0.at0 rfl) dX10_fault_29 ?_
    refine gf_X10_112 B hR ((sb_10_0 h0).at0 rfl) dX10_fault_32 ?_
    exact r_iretP B hR hr hlk h dX10_fault_35
  · rw [if_neg s_1_0] at h
    by_cases s_1_1 : x1 = 1
    · rw [if_pos s_1_1] at h
      refine lv_lookup (tgt := 36) (off := 35) hx hb dX10_fault_1 (by decide +kernel) (by rw [s_1_1]; try rfl) (by decide) ?_
      refine lv_aload_n hx hb dX10_fault_36 rfl (lv_at hl 0 rfl) ?_
      refine gf_X10_10 B hR (h0.at0 rfl) dX10_fault_37 ?_
      refine gf_X10_115 B hR ((sb_10_0 h0).at0 rfl) dX10_fault_40 ?_
      exact r_iretP B hR hr hlk h dX10_fault_43
    · rw [if_neg s_1_1] at h
      refine lv_lookup (tgt := 44) (off := 43) hx hb dX10_fault_1 (by decide +kernel) (by show Op.lookupswitch.offset [(0, 27), (1, 35)] 43 (x1 : Int32).toInt = 43; rw [lv_osw s_1_0 (by decide), lv_osw s_1_1 (by decide)]; try rfl) (by decide) ?_
      refine lv_iconst (v := (-1)) hx hb dX10_fault_44 (by decide) ?_
      exact r_iretP B hR hr hlk h dX10_fault_45
def fX10_forgetKinds (fu : Nat) (a0 : Nat) (M : Mm) : Option Mm :=
  lt (wI M a0 14 0) fun M_2 =>
  lt (wI M_2 a0 18 0) fun M_7 =>
  some M_7
set_option maxRecDepth 100000 in
set_option maxHeartbeats 4000000 in
theorem mX10_forgetKinds {l : Launch} {E : Ge} {L : Lay} (fu d : Nat) {a0 : Nat} {M : Mm} {M' : Mm}  (h0 : At L a0 T10) (h : fX10_forgetKinds fu a0 M = some M') : Ct l E L yX10_forgetKinds cX10_forgetKinds 1 none (d + 0) [.ref a0] M none M' := by
  refine Ct.of (by decide) ?_
  intro p e s m below meth c hr hlk B hR
  have B : Bx p s m _ c cX10_forgetKinds 1 RX10 E L := B
  have hx := B.1
  have hb := B.2.1
  have hl := lv_entry ([.ref a0]) (n := 1) (Nat.le_of_ble_eq_true rfl)
  rw [lg_entry_eq]
  generalize (lg_sl ([.ref a0]) ++ List.replicate (1 - (lg_sl ([.ref a0])).length) Slot.unset).toArray = ls at hl ⊢
  have hl : lv_has ls 1 [(0, .ref a0)] := hl
  unfold fX10_forgetKinds at h
  refine lv_aload_n hx hb dX10_forgetKinds_0 rfl (lv_at hl 0 rfl) ?_
  refine lv_iconst (v := 0) hx hb dX10_forgetKinds_1 (by decide) ?_
  obtain ⟨M_2, eM_2, h⟩ := lt_el h
  refine pz_X10_389 B hR (h0.at0 rfl) (Or.inl rfl) dX10_forgetKinds_2 (fun H locs hR => ?_)
  rw [← eM_2] at hR
  refine lv_aload_n hx hb dX10_forgetKinds_5 rfl (lv_at hl 0 rfl) ?_
  refine lv_iconst (v := 0) hx hb dX10_forgetKinds_6 (by decide) ?_
  obtain ⟨M_7, eM_7, h⟩ := lt_el h
  refine pz_X10_392 B hR (h0.at0 rfl) (Or.inl rfl) dX10_forgetKinds_7 (fun H locs hR => ?_)
  rw [← eM_7] at hR
  exact r_vretW B hR hr hlk h dX10_forgetKinds_10
def fX10_forgetAll (fu : Nat) (a0 : Nat) (M : Mm) : Option Mm :=
  lt (wI M a0 15 0) fun M_2 =>
  lt (wI M_2 a0 16 0) fun M_7 =>
  lt (wI M_7 a0 17 0) fun M_12 =>
  bm (fX10_forgetKinds fu a0 M_12) fun M_16 =>
  some M_16
set_option maxRecDepth 100000 in
set_option maxHeartbeats 4000000 in
theorem mX10_forgetAll {l : Launch} {E : Ge} {L : Lay} (fu d : Nat) {a0 : Nat} {M : Mm} {M' : Mm}  (h0 : At L a0 T10) (h : fX10_forgetAll fu a0 M = some M') : Ct l E L yX10_forgetAll cX10_forgetAll 1 none (d + 1) [.ref a0] M none M' := by
  refine Ct.of (by decide) ?_
  intro p e s m below meth c hr hlk B hR
  have B : Bx p s m _ c cX10_forgetAll 1 RX10 E L := B
  have hx := B.1
  have hb := B.2.1
  have hl := lv_entry ([.ref a0]) (n := 1) (Nat.le_of_ble_eq_true rfl)
  rw [lg_entry_eq]
  generalize (lg_sl ([.ref a0]) ++ List.replicate (1 - (lg_sl ([.ref a0])).length) Slot.unset).toArray = ls at hl ⊢
  have hl : lv_has ls 1 [(0, .ref a0)] := hl
  unfold fX10_forgetAll at h
  refine lv_aload_n hx hb dX10_forgetAll_0 rfl (lv_at hl 0 rfl) ?_
  refine lv_iconst (v := 0) hx hb dX10_forgetAll_1 (by decide) ?_
  obtain ⟨M_2, eM_2, h⟩ := lt_el h
  refine pz_X10_380 B hR (h0.at0 rfl) (Or.inl rfl) dX10_forgetAll_2 (fun H locs hR => ?_)
  rw [← eM_2] at hR
  refine lv_aload_n hx hb dX10_forgetAll_5 rfl (lv_at hl 0 rfl) ?_
  refine lv_iconst (v := 0) hx hb dX10_forgetAll_6 (by decide) ?_
  obtain ⟨M_7, eM_7, h⟩ := lt_el h
  refine pz_X10_383 B hR (h0.at0 rfl) (Or.inl rfl) dX10_forgetAll_7 (fun H locs hR => ?_)
  rw [← eM_7] at hR
  refine lv_aload_n hx hb dX10_forgetAll_10 rfl (lv_at hl 0 rfl) ?_
  refine lv_iconst (v := 0) hx hb dX10_forgetAll_11 (by decide) ?_
  obtain ⟨M_12, eM_12, h⟩ := lt_el h
  refine pz_X10_386 B hR (h0.at0 rfl) (Or.inl rfl) dX10_forgetAll_12 (fun H locs hR => ?_)
  rw [← eM_12] at hR
  refine lv_aload_n hx hb dX10_forgetAll_15 rfl (lv_at hl 0 rfl) ?_
  obtain ⟨M_16, hc_16, h⟩ := bm_el h
  refine iv_X10_377 B hR (h0.at0 rfl) hl.1 (mX10_forgetKinds fu _ h0 hc_16) (Nat.le_of_ble_eq_true rfl) dX10_forgetAll_16 (fun H locs hR => ?_)
  exact r_vretW B hR hr hlk h dX10_forgetAll_19
def fX10_wantedDone (fu : Nat) (a0 : Nat) (M : Mm) : Option Mm :=
  bm (fX4_note fu (a0 + 21) (a0 + 12) M) fun M_8 =>
  bm (fX10_forgetAll fu a0 M_8) fun M_12 =>
  some M_12
set_option maxRecDepth 100000 in
set_option maxHeartbeats 4000000 in
theorem mX10_wantedDone {l : Launch} {E : Ge} {L : Lay} (fu d : Nat) {a0 : Nat} {M : Mm} {M' : Mm}  (h0 : At L a0 T10) (h : fX10_wantedDone fu a0 M = some M') : Ct l E L yX10_wantedDone cX10_wantedDone 1 none (d + 3) [.ref a0] M none M' := by
  refine Ct.of (by decide) ?_
  intro p e s m below meth c hr hlk B hR
  have B : Bx p s m _ c cX10_wantedDone 1 RX10 E L := B
  have hx := B.1
  have hb := B.2.1
  have hl := lv_entry ([.ref a0]) (n := 1) (Nat.le_of_ble_eq_true rfl)
  rw [lg_entry_eq]
  generalize (lg_sl ([.ref a0]) ++ List.replicate (1 - (lg_sl ([.ref a0])).length) Slot.unset).toArray = ls at hl ⊢
  have hl : lv_has ls 1 [(0, .ref a0)] := hl
  unfold fX10_wantedDone at h
  refine lv_aload_n hx hb dX10_wantedDone_0 rfl (lv_at hl 0 rfl) ?_
  refine gf_X10_26 B hR (h0.at0 rfl) dX10_wantedDone_1 ?_
  refine lv_aload_n hx hb dX10_wantedDone_4 rfl (lv_at hl 0 rfl) ?_
  refine gf_X10_19 B hR (h0.at0 rfl) dX10_wantedDone_5 ?_
  obtain ⟨M_8, hc_8, h⟩ := bm_el h
  refine iv_X10_374 B hR ((sb_10_2 h0).at0 rfl) hl.1 (mX4_note fu _ (sb_10_2 h0) (sb_10_1 h0) hc_8) (Nat.le_of_ble_eq_true rfl) dX10_wantedDone_8 (fun H locs hR => ?_)
  refine lv_aload_n hx hb dX10_wantedDone_11 rfl (lv_at hl 0 rfl) ?_
  obtain ⟨M_12, hc_12, h⟩ := bm_el h
  refine iv_X10_213 B hR (h0.at0 rfl) hl.1 (mX10_forgetAll fu _ h0 hc_12) (Nat.le_of_ble_eq_true rfl) dX10_wantedDone_12 (fun H locs hR => ?_)
  exact r_vretW B hR hr hlk h dX10_wantedDone_15
def fX10_span_j51 (fu : Nat) (M : Mm) : Option (Int32 × Mm) :=
  some ((-1), M)
set_option maxRecDepth 100000 in
set_option maxHeartbeats 4000000 in
theorem wX10_span_j51 {r : Int32} {M' : Mm}    {M : Mm} (B : Bx p s m args c cX10_span 5 RX10 E L) (hr : meth.sig.returnType = (some .int)) (hlk : meth.locks = false)   (h : fX10_span_j51 fu M = some (r, M')) (hR : Rx s E L M H locs) (hl : lv_has ls 5 []) : W p l e (rmD (d + 4)) s m args below meth c H locs 0 0 (MQ below (QcM E L (some (.int r)) M') args s 0 0 E.2.2.2) (F0 m 51 ls []) := by
  have hx := B.1
  have hb := B.2.1
  unfold fX10_span_j51 at h
  refine lv_iconst (v := (-1)) hx hb dX10_span_51 (by decide) ?_
  exact r_iretW B hR hr hlk h dX10_span_52
def fX10_span_j25 (fu : Nat) (a0 : Nat) (x1 : Int32) (x2 : Int32) (x3 : Int32) (t0 : Int32) (M : Mm) : Option (Int32 × Mm) :=
  if t0 = 0 then
    fX10_span_j51 fu M
  else
    bi (fX10_isKind fu x3) fun r_33 =>
    if r_33 = 0 then
      fX10_span_j51 fu M
    else
      if (M.1 (a0 + 12) 3) < 12 then
        bm (fX8_addSpan fu (a0 + 12) x1 x2 x3 M) fun M_60 =>
        bm (fX10_wantedDone fu a0 M_60) fun M_64 =>
        some (((M_64.1 (a0 + 12) 3) - 1), M_64)
      else
        fX10_span_j51 fu M
set_option maxRecDepth 100000 in
set_option maxHeartbeats 4000000 in
theorem wX10_span_j25 {r : Int32} {M' : Mm}   {a0 : Nat} {x1 : Int32} {x2 : Int32} {x3 : Int32} {t0 : Int32} {M : Mm} (B : Bx p s m args c cX10_span 5 RX10 E L) (hr : meth.sig.returnType = (some .int)) (hlk : meth.locks = false)  (h0 : At L a0 T10) (h : fX10_span_j25 fu a0 x1 x2 x3 t0 M = some (r, M')) (hR : Rx s E L M H locs) (hl : lv_has ls 5 [(0, .ref a0), (1, .int x1), (2, .int x2), (3, .int x3)]) : W p l e (rmD (d + 4)) s m args below meth c H locs 0 0 (MQ below (QcM E L (some (.int r)) M') args s 0 0 E.2.2.2) (F0 m 25 ls [.int t0]) := by
  have hx := B.1
  have hb := B.2.1
  unfold fX10_span_j25 at h
  refine lv_istore (lv' := [(4, .int t0), (0, .ref a0), (1, .int x1), (2, .int x2), (3, .int x3)]) hx hb dX10_span_25 hl (by decide) rfl (fun ls hl => ?_)
  refine lv_iload hx hb dX10_span_27 (lv_at hl 0 rfl) ?_
  refine lv_if_eq (tgt := 51) hx hb dX10_span_29 (by decide) (fun c_29 => ?_) (fun c_29 => ?_)
  · rw [if_pos c_29] at h
    exact wX10_span_j51 B hr hlk  h hR (lv_sub hl [] rfl)
  · rw [if_neg c_29] at h
    refine lv_iload_n hx hb dX10_span_32 rfl (lv_at hl 4 rfl) ?_
    obtain ⟨r_33, hc_33, h⟩ := bi_el h
    refine is_X10_121 B hR hl.1 (mX10_isKind fu _  hc_33) (Nat.le_of_ble_eq_true rfl) dX10_span_33 (fun H locs hR => ?_)
    refine lv_if_eq (tgt := 51) hx hb dX10_span_36 (by decide) (fun c_36 => ?_) (fun c_36 => ?_)
    · rw [if_pos c_36] at h
      exact wX10_span_j51 B hr hlk  h hR (lv_sub hl [] rfl)
    · rw [if_neg c_36] at h
      refine lv_aload_n hx hb dX10_span_39 rfl (lv_at hl 1 rfl) ?_
      refine gf_X10_19 B hR (h0.at0 rfl) dX10_span_40 ?_
      refine gf_X10_109 B hR ((sb_10_1 h0).at0 rfl) dX10_span_43 ?_
      refine lv_bipush (v := 12) hx hb dX10_span_46 (by decide) ?_
      refine lv_icmp_lt (tgt := 53) hx hb dX10_span_48 (by decide) (fun c_48 => ?_) (fun c_48 => ?_)
      · rw [if_pos c_48] at h
        refine lv_aload_n hx hb dX10_span_53 rfl (lv_at hl 1 rfl) ?_
        refine gf_X10_19 B hR (h0.at0 rfl) dX10_span_54 ?_
        refine lv_iload_n hx hb dX10_span_57 rfl (lv_at hl 2 rfl) ?_
        refine lv_iload_n hx hb dX10_span_58 rfl (lv_at hl 3 rfl) ?_
        refine lv_iload_n hx hb dX10_span_59 rfl (lv_at hl 4 rfl) ?_
        obtain ⟨M_60, hc_60, h⟩ := bm_el h
        refine iv_X10_125 B hR ((sb_10_1 h0).at0 rfl) hl.1 (mX8_addSpan fu _ (sb_10_1 h0) hc_60) (Nat.le_of_ble_eq_true rfl) dX10_span_60 (fun H locs hR => ?_)
        refine lv_aload_n hx hb dX10_span_63 rfl (lv_at hl 1 rfl) ?_
        obtain ⟨M_64, hc_64, h⟩ := bm_el h
        refine iv_X10_129 B hR (h0.at0 rfl) hl.1 (mX10_wantedDone fu _ h0 hc_64) (Nat.le_of_ble_eq_true rfl) dX10_span_64 (fun H locs hR => ?_)
        refine lv_aload_n hx hb dX10_span_67 rfl (lv_at hl 1 rfl) ?_
        refine gf_X10_19 B hR (h0.at0 rfl) dX10_span_68 ?_
        refine gf_X10_109 B hR ((sb_10_1 h0).at0 rfl) dX10_span_71 ?_
        refine lv_iconst (v := 1) hx hb dX10_span_74 (by decide) ?_
        refine lv_isub hx hb dX10_span_75 ?_
        exact r_iretW B hR hr hlk h dX10_span_76
      · rw [if_neg c_48] at h
        exact wX10_span_j51 B hr hlk  h hR (lv_sub hl [] rfl)
def fX10_span_j24 (fu : Nat) (a0 : Nat) (x1 : Int32) (x2 : Int32) (x3 : Int32) (M : Mm) : Option (Int32 × Mm) :=
  fX10_span_j25 fu a0 x1 x2 x3 0 M
set_option maxRecDepth 100000 in
set_option maxHeartbeats 4000000 in
theorem wX10_span_j24 {r : Int32} {M' : Mm}   {a0 : Nat} {x1 : Int32} {x2 : Int32} {x3 : Int32} {M : Mm} (B : Bx p s m args c cX10_span 5 RX10 E L) (hr : meth.sig.returnType = (some .int)) (hlk : meth.locks = false)  (h0 : At L a0 T10) (h : fX10_span_j24 fu a0 x1 x2 x3 M = some (r, M')) (hR : Rx s E L M H locs) (hl : lv_has ls 5 [(0, .ref a0), (1, .int x1), (2, .int x2), (3, .int x3)]) : W p l e (rmD (d + 4)) s m args below meth c H locs 0 0 (MQ below (QcM E L (some (.int r)) M') args s 0 0 E.2.2.2) (F0 m 24 ls []) := by
  have hx := B.1
  have hb := B.2.1
  unfold fX10_span_j24 at h
  refine lv_iconst (v := 0) hx hb dX10_span_24 (by decide) ?_
  exact wX10_span_j25 B hr hlk h0 h hR hl
def fX10_span (fu : Nat) (a0 : Nat) (x1 : Int32) (x2 : Int32) (x3 : Int32) (M : Mm) : Option (Int32 × Mm) :=
  if x1 < 0 then
    fX10_span_j24 fu a0 x1 x2 x3 M
  else
    if x2 < x1 then
      fX10_span_j24 fu a0 x1 x2 x3 M
    else
      if (M.1 (a0 + 12) 0) ≤ x2 then
        fX10_span_j24 fu a0 x1 x2 x3 M
      else
        fX10_span_j25 fu a0 x1 x2 x3 1 M
set_option maxRecDepth 100000 in
set_option maxHeartbeats 4000000 in
theorem mX10_span {l : Launch} {E : Ge} {L : Lay} (fu d : Nat) {a0 : Nat} {x1 : Int32} {x2 : Int32} {x3 : Int32} {M : Mm} {r : Int32} {M' : Mm}  (h0 : At L a0 T10) (h : fX10_span fu a0 x1 x2 x3 M = some (r, M')) : Ct l E L yX10_span cX10_span 5 (some .int) (d + 4) [.ref a0, .int x1, .int x2, .int x3] M (some (.int r)) M' := by
  refine Ct.of (by decide) ?_
  intro p e s m below meth c hr hlk B hR
  have B : Bx p s m _ c cX10_span 5 RX10 E L := B
  have hx := B.1
  have hb := B.2.1
  have hl := lv_entry ([.ref a0, .int x1, .int x2, .int x3]) (n := 5) (Nat.le_of_ble_eq_true rfl)
  rw [lg_entry_eq]
  generalize (lg_sl ([.ref a0, .int x1, .int x2, .int x3]) ++ List.replicate (5 - (lg_sl ([.ref a0, .int x1, .int x2, .int x3])).length) Slot.unset).toArray = ls at hl ⊢
  have hl : lv_has ls 5 [(0, .ref a0), (1, .int x1), (2, .int x2), (3, .int x3)] := hl
  unfold fX10_span at h
  refine lv_iload_n hx hb dX10_span_0 rfl (lv_at hl 1 rfl) ?_
  refine lv_if_lt (tgt := 24) hx hb dX10_span_1 (by decide) (fun c_1 => ?_) (fun c_1 => ?_)
  · rw [if_pos c_1] at h
    exact wX10_span_j24 B hr hlk h0 h hR hl
  · rw [if_neg c_1] at h
    refine lv_iload_n hx hb dX10_span_4 rfl (lv_at hl 1 rfl) ?_
    refine lv_iload_n hx hb dX10_span_5 rfl (lv_at hl 2 rfl) ?_
    refine lv_icmp_gt (tgt := 24) hx hb dX10_span_6 (by decide) (fun c_6 => ?_) (fun c_6 => ?_)
    · rw [if_pos c_6] at h
      exact wX10_span_j24 B hr hlk h0 h hR hl
    · rw [if_neg c_6] at h
      refine lv_iload_n hx hb dX10_span_9 rfl (lv_at hl 2 rfl) ?_
      refine lv_aload_n hx hb dX10_span_10 rfl (lv_at hl 0 rfl) ?_
      refine gf_X10_19 B hR (h0.at0 rfl) dX10_span_11 ?_
      refine gf_X10_118 B hR ((sb_10_1 h0).at0 rfl) dX10_span_14 ?_
      refine lv_icmp_ge (tgt := 24) hx hb dX10_span_17 (by decide) (fun c_17 => ?_) (fun c_17 => ?_)
      · rw [if_pos c_17] at h
        exact wX10_span_j24 B hr hlk h0 h hR hl
      · rw [if_neg c_17] at h
        refine lv_iconst (v := 1) hx hb dX10_span_20 (by decide) ?_
        refine lv_goto (tgt := 25) hx hb dX10_span_21 (by decide) ?_
        exact wX10_span_j25 B hr hlk h0 h hR hl
def fX10_drop_j15 (fu : Nat) (M : Mm) : Option (Int32 × Mm) :=
  some ((-1), M)
set_option maxRecDepth 100000 in
set_option maxHeartbeats 4000000 in
theorem wX10_drop_j15 {r : Int32} {M' : Mm}    {M : Mm} (B : Bx p s m args c cX10_drop 2 RX10 E L) (hr : meth.sig.returnType = (some .int)) (hlk : meth.locks = false)   (h : fX10_drop_j15 fu M = some (r, M')) (hR : Rx s E L M H locs) (hl : lv_has ls 2 []) : W p l e (rmD (d + 4)) s m args below meth c H locs 0 0 (MQ below (QcM E L (some (.int r)) M') args s 0 0 E.2.2.2) (F0 m 15 ls []) := by
  have hx := B.1
  have hb := B.2.1
  unfold fX10_drop_j15 at h
  refine lv_iconst (v := (-1)) hx hb dX10_drop_15 (by decide) ?_
  exact r_iretW B hR hr hlk h dX10_drop_16
def fX10_drop (fu : Nat) (a0 : Nat) (x1 : Int32) (M : Mm) : Option (Int32 × Mm) :=
  if x1 < 0 then
    fX10_drop_j15 fu M
  else
    if x1 < (M.1 (a0 + 12) 3) then
      bm (fX8_dropSpan fu (a0 + 12) x1 M) fun M_22 =>
      bm (fX10_wantedDone fu a0 M_22) fun M_26 =>
      some ((M_26.1 (a0 + 12) 3), M_26)
    else
      fX10_drop_j15 fu M
set_option maxRecDepth 100000 in
set_option maxHeartbeats 4000000 in
theorem mX10_drop {l : Launch} {E : Ge} {L : Lay} (fu d : Nat) {a0 : Nat} {x1 : Int32} {M : Mm} {r : Int32} {M' : Mm}  (h0 : At L a0 T10) (h : fX10_drop fu a0 x1 M = some (r, M')) : Ct l E L yX10_drop cX10_drop 2 (some .int) (d + 4) [.ref a0, .int x1] M (some (.int r)) M' := by
  refine Ct.of (by decide) ?_
  intro p e s m below meth c hr hlk B hR
  have B : Bx p s m _ c cX10_drop 2 RX10 E L := B
  have hx := B.1
  have hb := B.2.1
  have hl := lv_entry ([.ref a0, .int x1]) (n := 2) (Nat.le_of_ble_eq_true rfl)
  rw [lg_entry_eq]
  generalize (lg_sl ([.ref a0, .int x1]) ++ List.replicate (2 - (lg_sl ([.ref a0, .int x1])).length) Slot.unset).toArray = ls at hl ⊢
  have hl : lv_has ls 2 [(0, .ref a0), (1, .int x1)] := hl
  unfold fX10_drop at h
  refine lv_iload_n hx hb dX10_drop_0 rfl (lv_at hl 1 rfl) ?_
  refine lv_if_lt (tgt := 15) hx hb dX10_drop_1 (by decide) (fun c_1 => ?_) (fun c_1 => ?_)
  · rw [if_pos c_1] at h
    exact wX10_drop_j15 B hr hlk  h hR (lv_sub hl [] rfl)
  · rw [if_neg c_1] at h
    refine lv_iload_n hx hb dX10_drop_4 rfl (lv_at hl 1 rfl) ?_
    refine lv_aload_n hx hb dX10_drop_5 rfl (lv_at hl 0 rfl) ?_
    refine gf_X10_19 B hR (h0.at0 rfl) dX10_drop_6 ?_
    refine gf_X10_109 B hR ((sb_10_1 h0).at0 rfl) dX10_drop_9 ?_
    refine lv_icmp_lt (tgt := 17) hx hb dX10_drop_12 (by decide) (fun c_12 => ?_) (fun c_12 => ?_)
    · rw [if_pos c_12] at h
      refine lv_aload_n hx hb dX10_drop_17 rfl (lv_at hl 0 rfl) ?_
      refine gf_X10_19 B hR (h0.at0 rfl) dX10_drop_18 ?_
      refine lv_iload_n hx hb dX10_drop_21 rfl (lv_at hl 1 rfl) ?_
      obtain ⟨M_22, hc_22, h⟩ := bm_el h
      refine iv_X10_132 B hR ((sb_10_1 h0).at0 rfl) hl.1 (mX8_dropSpan fu _ (sb_10_1 h0) hc_22) (Nat.le_of_ble_eq_true rfl) dX10_drop_22 (fun H locs hR => ?_)
      refine lv_aload_n hx hb dX10_drop_25 rfl (lv_at hl 0 rfl) ?_
      obtain ⟨M_26, hc_26, h⟩ := bm_el h
      refine iv_X10_129 B hR (h0.at0 rfl) hl.1 (mX10_wantedDone fu _ h0 hc_26) (Nat.le_of_ble_eq_true rfl) dX10_drop_26 (fun H locs hR => ?_)
      refine lv_aload_n hx hb dX10_drop_29 rfl (lv_at hl 0 rfl) ?_
      refine gf_X10_19 B hR (h0.at0 rfl) dX10_drop_30 ?_
      refine gf_X10_109 B hR ((sb_10_1 h0).at0 rfl) dX10_drop_33 ?_
      exact r_iretW B hR hr hlk h dX10_drop_36
    · rw [if_neg c_12] at h
      exact wX10_drop_j15 B hr hlk  h hR (lv_sub hl [] rfl)
def fX10_prefer (fu : Nat) (a0 : Nat) (x1 : Int32) (M : Mm) : Option (Int32 × Mm) :=
  bi (fX10_isKind fu x1) fun r_1 =>
  if r_1 = 0 then
    some ((-1), M)
  else
    lt ((M.1 (a0 + 12) 2)) fun x2_16 =>
    lt (wI M (a0 + 12) 2 x1) fun M_22 =>
    bm (fX10_wantedDone fu a0 M_22) fun M_26 =>
    some (x2_16, M_26)
set_option maxRecDepth 100000 in
set_option maxHeartbeats 4000000 in
theorem mX10_prefer {l : Launch} {E : Ge} {L : Lay} (fu d : Nat) {a0 : Nat} {x1 : Int32} {M : Mm} {r : Int32} {M' : Mm}  (h0 : At L a0 T10) (h : fX10_prefer fu a0 x1 M = some (r, M')) : Ct l E L yX10_prefer cX10_prefer 3 (some .int) (d + 4) [.ref a0, .int x1] M (some (.int r)) M' := by
  refine Ct.of (by decide) ?_
  intro p e s m below meth c hr hlk B hR
  have B : Bx p s m _ c cX10_prefer 3 RX10 E L := B
  have hx := B.1
  have hb := B.2.1
  have hl := lv_entry ([.ref a0, .int x1]) (n := 3) (Nat.le_of_ble_eq_true rfl)
  rw [lg_entry_eq]
  generalize (lg_sl ([.ref a0, .int x1]) ++ List.replicate (3 - (lg_sl ([.ref a0, .int x1])).length) Slot.unset).toArray = ls at hl ⊢
  have hl : lv_has ls 3 [(0, .ref a0), (1, .int x1)] := hl
  unfold fX10_prefer at h
  refine lv_iload_n hx hb dX10_prefer_0 rfl (lv_at hl 1 rfl) ?_
  obtain ⟨r_1, hc_1, h⟩ := bi_el h
  refine is_X10_121 B hR hl.1 (mX10_isKind fu _  hc_1) (Nat.le_of_ble_eq_true rfl) dX10_prefer_1 (fun H locs hR => ?_)
  refine lv_if_ne (tgt := 9) hx hb dX10_prefer_4 (by decide) (fun c_4 => ?_) (fun c_4 => ?_)
  · rw [if_neg c_4] at h
    refine lv_aload_n hx hb dX10_prefer_9 rfl (lv_at hl 0 rfl) ?_
    refine gf_X10_19 B hR (h0.at0 rfl) dX10_prefer_10 ?_
    refine gf_X10_135 B hR ((sb_10_1 h0).at0 rfl) dX10_prefer_13 ?_
    obtain ⟨x2_16, ex2_16, h⟩ := lt_el h
    refine r_nmI ex2_16 ?_
    refine lv_istore_n (lv' := [(2, .int x2_16), (0, .ref a0), (1, .int x1)]) hx hb dX10_prefer_16 rfl hl (by decide) rfl (fun ls hl => ?_)
    refine lv_aload_n hx hb dX10_prefer_17 rfl (lv_at hl 1 rfl) ?_
    refine gf_X10_19 B hR (h0.at0 rfl) dX10_prefer_18 ?_
    refine lv_iload_n hx hb dX10_prefer_21 rfl (lv_at hl 2 rfl) ?_
    obtain ⟨M_22, eM_22, h⟩ := lt_el h
    refine pf_X10_135 B hR ((sb_10_1 h0).at0 rfl) dX10_prefer_22 (fun H locs hR => ?_)
    rw [← eM_22] at hR
    refine lv_aload_n hx hb dX10_prefer_25 rfl (lv_at hl 1 rfl) ?_
    obtain ⟨M_26, hc_26, h⟩ := bm_el h
    refine iv_X10_129 B hR (h0.at0 rfl) hl.1 (mX10_wantedDone fu _ h0 hc_26) (Nat.le_of_ble_eq_true rfl) dX10_prefer_26 (fun H locs hR => ?_)
    refine lv_iload_n hx hb dX10_prefer_29 rfl (lv_at hl 0 rfl) ?_
    exact r_iretW B hR hr hlk h dX10_prefer_30
  · rw [if_pos c_4] at h
    refine lv_iconst (v := (-1)) hx hb dX10_prefer_7 (by decide) ?_
    exact r_iretW B hR hr hlk h dX10_prefer_8
def fX10_kindsDone (fu : Nat) (a0 : Nat) (M : Mm) : Option Mm :=
  bm (fX4_note fu (a0 + 21) (a0 + 12) M) fun M_8 =>
  bm (fX10_forgetKinds fu a0 M_8) fun M_12 =>
  some M_12
set_option maxRecDepth 100000 in
set_option maxHeartbeats 4000000 in
theorem mX10_kindsDone {l : Launch} {E : Ge} {L : Lay} (fu d : Nat) {a0 : Nat} {M : Mm} {M' : Mm}  (h0 : At L a0 T10) (h : fX10_kindsDone fu a0 M = some M') : Ct l E L yX10_kindsDone cX10_kindsDone 1 none (d + 3) [.ref a0] M none M' := by
  refine Ct.of (by decide) ?_
  intro p e s m below meth c hr hlk B hR
  have B : Bx p s m _ c cX10_kindsDone 1 RX10 E L := B
  have hx := B.1
  have hb := B.2.1
  have hl := lv_entry ([.ref a0]) (n := 1) (Nat.le_of_ble_eq_true rfl)
  rw [lg_entry_eq]
  generalize (lg_sl ([.ref a0]) ++ List.replicate (1 - (lg_sl ([.ref a0])).length) Slot.unset).toArray = ls at hl ⊢
  have hl : lv_has ls 1 [(0, .ref a0)] := hl
  unfold fX10_kindsDone at h
  refine lv_aload_n hx hb dX10_kindsDone_0 rfl (lv_at hl 0 rfl) ?_
  refine gf_X10_26 B hR (h0.at0 rfl) dX10_kindsDone_1 ?_
  refine lv_aload_n hx hb dX10_kindsDone_4 rfl (lv_at hl 0 rfl) ?_
  refine gf_X10_19 B hR (h0.at0 rfl) dX10_kindsDone_5 ?_
  obtain ⟨M_8, hc_8, h⟩ := bm_el h
  refine iv_X10_374 B hR ((sb_10_2 h0).at0 rfl) hl.1 (mX4_note fu _ (sb_10_2 h0) (sb_10_1 h0) hc_8) (Nat.le_of_ble_eq_true rfl) dX10_kindsDone_8 (fun H locs hR => ?_)
  refine lv_aload_n hx hb dX10_kindsDone_11 rfl (lv_at hl 0 rfl) ?_
  obtain ⟨M_12, hc_12, h⟩ := bm_el h
  refine iv_X10_377 B hR (h0.at0 rfl) hl.1 (mX10_forgetKinds fu _ h0 hc_12) (Nat.le_of_ble_eq_true rfl) dX10_kindsDone_12 (fun H locs hR => ?_)
  exact r_vretW B hR hr hlk h dX10_kindsDone_15
def fX10_fix_j18 (fu : Nat) (M : Mm) : Option (Int32 × Mm) :=
  some ((-1), M)
set_option maxRecDepth 100000 in
set_option maxHeartbeats 4000000 in
theorem wX10_fix_j18 {r : Int32} {M' : Mm}    {M : Mm} (B : Bx p s m args c cX10_fix 4 RX10 E L) (hr : meth.sig.returnType = (some .int)) (hlk : meth.locks = false)   (h : fX10_fix_j18 fu M = some (r, M')) (hR : Rx s E L M H locs) (hl : lv_has ls 4 []) : W p l e (rmD (d + 4)) s m args below meth c H locs 0 0 (MQ below (QcM E L (some (.int r)) M') args s 0 0 E.2.2.2) (F0 m 18 ls []) := by
  have hx := B.1
  have hb := B.2.1
  unfold fX10_fix_j18 at h
  refine lv_iconst (v := (-1)) hx hb dX10_fix_18 (by decide) ?_
  exact r_iretW B hR hr hlk h dX10_fix_19
def fX10_fix (fu : Nat) (a0 : Nat) (x1 : Int32) (x2 : Int32) (M : Mm) : Option (Int32 × Mm) :=
  bi (fX8_hasPart fu (a0 + 12) x1 M) fun r_5 =>
  if r_5 = 0 then
    fX10_fix_j18 fu M
  else
    bi (fX10_isKind fu x2) fun r_12 =>
    if r_12 = 0 then
      fX10_fix_j18 fu M
    else
      if x1 < 0 ∨ 8 ≤ ix x1 then none else
      lt ((M.1 ((a0 + 12) + 4) (ix x1))) fun x3_29 =>
      lt (wI M ((a0 + 12) + 4) (ix x1) x2) fun M_39 =>
      bm (fX10_kindsDone fu a0 M_39) fun M_41 =>
      some (x3_29, M_41)
set_option maxRecDepth 100000 in
set_option maxHeartbeats 4000000 in
theorem mX10_fix {l : Launch} {E : Ge} {L : Lay} (fu d : Nat) {a0 : Nat} {x1 : Int32} {x2 : Int32} {M : Mm} {r : Int32} {M' : Mm}  (h0 : At L a0 T10) (h : fX10_fix fu a0 x1 x2 M = some (r, M')) : Ct l E L yX10_fix cX10_fix 4 (some .int) (d + 4) [.ref a0, .int x1, .int x2] M (some (.int r)) M' := by
  refine Ct.of (by decide) ?_
  intro p e s m below meth c hr hlk B hR
  have B : Bx p s m _ c cX10_fix 4 RX10 E L := B
  have hx := B.1
  have hb := B.2.1
  have hl := lv_entry ([.ref a0, .int x1, .int x2]) (n := 4) (Nat.le_of_ble_eq_true rfl)
  rw [lg_entry_eq]
  generalize (lg_sl ([.ref a0, .int x1, .int x2]) ++ List.replicate (4 - (lg_sl ([.ref a0, .int x1, .int x2])).length) Slot.unset).toArray = ls at hl ⊢
  have hl : lv_has ls 4 [(0, .ref a0), (1, .int x1), (2, .int x2)] := hl
  unfold fX10_fix at h
  refine lv_aload_n hx hb dX10_fix_0 rfl (lv_at hl 0 rfl) ?_
  refine gf_X10_19 B hR (h0.at0 rfl) dX10_fix_1 ?_
  refine lv_iload_n hx hb dX10_fix_4 rfl (lv_at hl 1 rfl) ?_
  obtain ⟨r_5, hc_5, h⟩ := bi_el h
  refine iv_X10_138 B hR ((sb_10_1 h0).at0 rfl) hl.1 (mX8_hasPart fu _ (sb_10_1 h0) hc_5) (Nat.le_of_ble_eq_true rfl) dX10_fix_5 (fun H locs hR => ?_)
  refine lv_if_eq (tgt := 18) hx hb dX10_fix_8 (by decide) (fun c_8 => ?_) (fun c_8 => ?_)
  · rw [if_pos c_8] at h
    exact wX10_fix_j18 B hr hlk  h hR (lv_sub hl [] rfl)
  · rw [if_neg c_8] at h
    refine lv_iload_n hx hb dX10_fix_11 rfl (lv_at hl 2 rfl) ?_
    obtain ⟨r_12, hc_12, h⟩ := bi_el h
    refine is_X10_121 B hR hl.1 (mX10_isKind fu _  hc_12) (Nat.le_of_ble_eq_true rfl) dX10_fix_12 (fun H locs hR => ?_)
    refine lv_if_ne (tgt := 20) hx hb dX10_fix_15 (by decide) (fun c_15 => ?_) (fun c_15 => ?_)
    · rw [if_neg c_15] at h
      refine lv_aload_n hx hb dX10_fix_20 rfl (lv_at hl 0 rfl) ?_
      refine gf_X10_19 B hR (h0.at0 rfl) dX10_fix_21 ?_
      refine gf_X10_141 B hR ((sb_10_1 h0).at0 rfl) dX10_fix_24 ?_
      refine lv_iload_n hx hb dX10_fix_27 rfl (lv_at hl 1 rfl) ?_
      obtain ⟨hi_28, h⟩ := ifn_el h
      refine r_iald B hR ((sb_10_1 h0).at 4 rfl) hi_28 dX10_fix_28 ?_
      obtain ⟨x3_29, ex3_29, h⟩ := lt_el h
      refine r_nmI ex3_29 ?_
      refine lv_istore_n (lv' := [(3, .int x3_29), (0, .ref a0), (1, .int x1), (2, .int x2)]) hx hb dX10_fix_29 rfl hl (by decide) rfl (fun ls hl => ?_)
      refine lv_aload_n hx hb dX10_fix_30 rfl (lv_at hl 1 rfl) ?_
      refine gf_X10_19 B hR (h0.at0 rfl) dX10_fix_31 ?_
      refine gf_X10_141 B hR ((sb_10_1 h0).at0 rfl) dX10_fix_34 ?_
      refine lv_iload_n hx hb dX10_fix_37 rfl (lv_at hl 2 rfl) ?_
      refine lv_iload_n hx hb dX10_fix_38 rfl (lv_at hl 3 rfl) ?_
      obtain ⟨M_39, eM_39, h⟩ := lt_el h
      refine r_iast B hR ((sb_10_1 h0).at 4 rfl) hi_28 dX10_fix_39 (fun H locs hR => ?_)
      rw [← eM_39] at hR
      refine lv_aload_n hx hb dX10_fix_40 rfl (lv_at hl 1 rfl) ?_
      obtain ⟨M_41, hc_41, h⟩ := bm_el h
      refine iv_X10_144 B hR (h0.at0 rfl) hl.1 (mX10_kindsDone fu _ h0 hc_41) (Nat.le_of_ble_eq_true rfl) dX10_fix_41 (fun H locs hR => ?_)
      refine lv_iload_n hx hb dX10_fix_44 rfl (lv_at hl 0 rfl) ?_
      exact r_iretW B hR hr hlk h dX10_fix_45
    · rw [if_pos c_15] at h
      exact wX10_fix_j18 B hr hlk  h hR (lv_sub hl [] rfl)
def fX10_set_j31 (fu : Nat) (M : Mm) : Option (Int32 × Mm) :=
  some (0, M)
set_option maxRecDepth 100000 in
set_option maxHeartbeats 4000000 in
theorem wX10_set_j31 {r : Int32} {M' : Mm}    {M : Mm} (B : Bx p s m args c cX10_set 6 RX10 E L) (hr : meth.sig.returnType = (some .boolean)) (hlk : meth.locks = false)   (h : fX10_set_j31 fu M = some (r, M')) (hR : Rx s E L M H locs) (hl : lv_has ls 6 []) : W p l e (rmD (d + 4)) s m args below meth c H locs 0 0 (MQ below (QcM E L (some (.int r)) M') args s 0 0 E.2.2.2) (F0 m 31 ls []) := by
  have hx := B.1
  have hb := B.2.1
  unfold fX10_set_j31 at h
  refine lv_iconst (v := 0) hx hb dX10_set_31 (by decide) ?_
  exact r_zretW B hR hr hlk (Or.inl rfl) h dX10_set_32
def fX10_set_j58 (fu : Nat) (a0 : Nat) (x1 : Int32) (x2 : Int32) (x3 : Int32) (x4 : Int32) (M : Mm) : Option (Int32 × Mm) :=
  bm (fX8_put fu (a0 + 12) x1 x2 x3 x4 M) fun M_67 =>
  bm (fX10_kindsDone fu a0 M_67) fun M_71 =>
  some (1, M_71)
set_option maxRecDepth 100000 in
set_option maxHeartbeats 4000000 in
theorem wX10_set_j58 {r : Int32} {M' : Mm}   {a0 : Nat} {x1 : Int32} {x2 : Int32} {x3 : Int32} {x4 : Int32} {M : Mm} (B : Bx p s m args c cX10_set 6 RX10 E L) (hr : meth.sig.returnType = (some .boolean)) (hlk : meth.locks = false)  (h0 : At L a0 T10) (h : fX10_set_j58 fu a0 x1 x2 x3 x4 M = some (r, M')) (hR : Rx s E L M H locs) (hl : lv_has ls 6 [(0, .ref a0), (1, .int x1), (2, .int x2), (3, .int x3), (4, .int x4)]) : W p l e (rmD (d + 4)) s m args below meth c H locs 0 0 (MQ below (QcM E L (some (.int r)) M') args s 0 0 E.2.2.2) (F0 m 58 ls []) := by
  have hx := B.1
  have hb := B.2.1
  unfold fX10_set_j58 at h
  refine lv_aload_n hx hb dX10_set_58 rfl (lv_at hl 0 rfl) ?_
  refine gf_X10_19 B hR (h0.at0 rfl) dX10_set_59 ?_
  refine lv_iload_n hx hb dX10_set_62 rfl (lv_at hl 1 rfl) ?_
  refine lv_iload_n hx hb dX10_set_63 rfl (lv_at hl 2 rfl) ?_
  refine lv_iload_n hx hb dX10_set_64 rfl (lv_at hl 3 rfl) ?_
  refine lv_iload hx hb dX10_set_65 (lv_at hl 4 rfl) ?_
  obtain ⟨M_67, hc_67, h⟩ := bm_el h
  refine iv_X10_158 B hR ((sb_10_1 h0).at0 rfl) hl.1 (mX8_put fu _ (sb_10_1 h0) hc_67) (Nat.le_of_ble_eq_true rfl) dX10_set_67 (fun H locs hR => ?_)
  refine lv_aload_n hx hb dX10_set_70 rfl (lv_at hl 0 rfl) ?_
  obtain ⟨M_71, hc_71, h⟩ := bm_el h
  refine iv_X10_144 B hR (h0.at0 rfl) hl.1 (mX10_kindsDone fu _ h0 hc_71) (Nat.le_of_ble_eq_true rfl) dX10_set_71 (fun H locs hR => ?_)
  refine lv_iconst (v := 1) hx hb dX10_set_74 (by decide) ?_
  exact r_zretW B hR hr hlk (Or.inr rfl) h dX10_set_75
def fX10_set (fu : Nat) (a0 : Nat) (x1 : Int32) (x2 : Int32) (x3 : Int32) (x4 : Int32) (M : Mm) : Option (Int32 × Mm) :=
  bi (fX8_hasRegister fu (a0 + 12) x1 M) fun r_5 =>
  if r_5 = 0 then
    fX10_set_j31 fu M
  else
    bi (fX8_fits fu (a0 + 12) x2 x3 M) fun r_17 =>
    if r_17 = 0 then
      fX10_set_j31 fu M
    else
      bi (fX10_isKind fu x4) fun r_25 =>
      if r_25 = 0 then
        fX10_set_j31 fu M
      else
        bi (fX8_holderOf fu (a0 + 12) x2 x3 M) fun r_39 =>
        if r_39 = (-1) then
          fX10_set_j58 fu a0 x1 x2 x3 x4 M
        else
          if r_39 = x1 then
            fX10_set_j58 fu a0 x1 x2 x3 x4 M
          else
            some (0, M)
set_option maxRecDepth 100000 in
set_option maxHeartbeats 4000000 in
theorem mX10_set {l : Launch} {E : Ge} {L : Lay} (fu d : Nat) {a0 : Nat} {x1 : Int32} {x2 : Int32} {x3 : Int32} {x4 : Int32} {M : Mm} {r : Int32} {M' : Mm}  (h0 : At L a0 T10) (h : fX10_set fu a0 x1 x2 x3 x4 M = some (r, M')) : Ct l E L yX10_set cX10_set 6 (some .boolean) (d + 4) [.ref a0, .int x1, .int x2, .int x3, .int x4] M (some (.int r)) M' := by
  refine Ct.of (by decide) ?_
  intro p e s m below meth c hr hlk B hR
  have B : Bx p s m _ c cX10_set 6 RX10 E L := B
  have hx := B.1
  have hb := B.2.1
  have hl := lv_entry ([.ref a0, .int x1, .int x2, .int x3, .int x4]) (n := 6) (Nat.le_of_ble_eq_true rfl)
  rw [lg_entry_eq]
  generalize (lg_sl ([.ref a0, .int x1, .int x2, .int x3, .int x4]) ++ List.replicate (6 - (lg_sl ([.ref a0, .int x1, .int x2, .int x3, .int x4])).length) Slot.unset).toArray = ls at hl ⊢
  have hl : lv_has ls 6 [(0, .ref a0), (1, .int x1), (2, .int x2), (3, .int x3), (4, .int x4)] := hl
  unfold fX10_set at h
  refine lv_aload_n hx hb dX10_set_0 rfl (lv_at hl 0 rfl) ?_
  refine gf_X10_19 B hR (h0.at0 rfl) dX10_set_1 ?_
  refine lv_iload_n hx hb dX10_set_4 rfl (lv_at hl 1 rfl) ?_
  obtain ⟨r_5, hc_5, h⟩ := bi_el h
  refine iv_X10_147 B hR ((sb_10_1 h0).at0 rfl) hl.1 (mX8_hasRegister fu _ (sb_10_1 h0) hc_5) (Nat.le_of_ble_eq_true rfl) dX10_set_5 (fun H locs hR => ?_)
  refine lv_if_eq (tgt := 31) hx hb dX10_set_8 (by decide) (fun c_8 => ?_) (fun c_8 => ?_)
  · rw [if_pos c_8] at h
    exact wX10_set_j31 B hr hlk  h hR (lv_sub hl [] rfl)
  · rw [if_neg c_8] at h
    refine lv_aload_n hx hb dX10_set_11 rfl (lv_at hl 0 rfl) ?_
    refine gf_X10_19 B hR (h0.at0 rfl) dX10_set_12 ?_
    refine lv_iload_n hx hb dX10_set_15 rfl (lv_at hl 2 rfl) ?_
    refine lv_iload_n hx hb dX10_set_16 rfl (lv_at hl 3 rfl) ?_
    obtain ⟨r_17, hc_17, h⟩ := bi_el h
    refine iv_X10_150 B hR ((sb_10_1 h0).at0 rfl) hl.1 (mX8_fits fu _ (sb_10_1 h0) hc_17) (Nat.le_of_ble_eq_true rfl) dX10_set_17 (fun H locs hR => ?_)
    refine lv_if_eq (tgt := 31) hx hb dX10_set_20 (by decide) (fun c_20 => ?_) (fun c_20 => ?_)
    · rw [if_pos c_20] at h
      exact wX10_set_j31 B hr hlk  h hR (lv_sub hl [] rfl)
    · rw [if_neg c_20] at h
      refine lv_iload hx hb dX10_set_23 (lv_at hl 4 rfl) ?_
      obtain ⟨r_25, hc_25, h⟩ := bi_el h
      refine is_X10_121 B hR hl.1 (mX10_isKind fu _  hc_25) (Nat.le_of_ble_eq_true rfl) dX10_set_25 (fun H locs hR => ?_)
      refine lv_if_ne (tgt := 33) hx hb dX10_set_28 (by decide) (fun c_28 => ?_) (fun c_28 => ?_)
      · rw [if_neg c_28] at h
        refine lv_aload_n hx hb dX10_set_33 rfl (lv_at hl 0 rfl) ?_
        refine gf_X10_19 B hR (h0.at0 rfl) dX10_set_34 ?_
        refine lv_iload_n hx hb dX10_set_37 rfl (lv_at hl 2 rfl) ?_
        refine lv_iload_n hx hb dX10_set_38 rfl (lv_at hl 3 rfl) ?_
        obtain ⟨r_39, hc_39, h⟩ := bi_el h
        refine iv_X10_154 B hR ((sb_10_1 h0).at0 rfl) hl.1 (mX8_holderOf fu _ (sb_10_1 h0) hc_39) (Nat.le_of_ble_eq_true rfl) dX10_set_39 (fun H locs hR => ?_)
        refine lv_istore (lv' := [(5, .int r_39), (0, .ref a0), (1, .int x1), (2, .int x2), (3, .int x3), (4, .int x4)]) hx hb dX10_set_42 hl (by decide) rfl (fun ls hl => ?_)
        refine lv_iload hx hb dX10_set_44 (lv_at hl 0 rfl) ?_
        refine lv_iconst (v := (-1)) hx hb dX10_set_46 (by decide) ?_
        refine lv_icmp_eq (tgt := 58) hx hb dX10_set_47 (by decide) (fun c_47 => ?_) (fun c_47 => ?_)
        · rw [if_pos c_47] at h
          exact wX10_set_j58 B hr hlk h0 h hR (lv_sub hl [1, 2, 3, 4, 5] rfl)
        · rw [if_neg c_47] at h
          refine lv_iload hx hb dX10_set_50 (lv_at hl 0 rfl) ?_
          refine lv_iload_n hx hb dX10_set_52 rfl (lv_at hl 2 rfl) ?_
          refine lv_icmp_eq (tgt := 58) hx hb dX10_set_53 (by decide) (fun c_53 => ?_) (fun c_53 => ?_)
          · rw [if_pos c_53] at h
            exact wX10_set_j58 B hr hlk h0 h hR (lv_sub hl [1, 2, 3, 4, 5] rfl)
          · rw [if_neg c_53] at h
            refine lv_iconst (v := 0) hx hb dX10_set_56 (by decide) ?_
            exact r_zretW B hR hr hlk (Or.inl rfl) h dX10_set_57
      · rw [if_pos c_28] at h
        exact wX10_set_j31 B hr hlk  h hR (lv_sub hl [] rfl)
def fX10_clear (fu : Nat) (a0 : Nat) (x1 : Int32) (M : Mm) : Option (Int32 × Mm) :=
  bi (fX8_isSet fu (a0 + 12) x1 M) fun r_5 =>
  if r_5 = 0 then
    some (0, M)
  else
    bm (fX8_put fu (a0 + 12) x1 0 0 0 M) fun M_21 =>
    bm (fX10_kindsDone fu a0 M_21) fun M_25 =>
    some (1, M_25)
set_option maxRecDepth 100000 in
set_option maxHeartbeats 4000000 in
theorem mX10_clear {l : Launch} {E : Ge} {L : Lay} (fu d : Nat) {a0 : Nat} {x1 : Int32} {M : Mm} {r : Int32} {M' : Mm}  (h0 : At L a0 T10) (h : fX10_clear fu a0 x1 M = some (r, M')) : Ct l E L yX10_clear cX10_clear 2 (some .boolean) (d + 4) [.ref a0, .int x1] M (some (.int r)) M' := by
  refine Ct.of (by decide) ?_
  intro p e s m below meth c hr hlk B hR
  have B : Bx p s m _ c cX10_clear 2 RX10 E L := B
  have hx := B.1
  have hb := B.2.1
  have hl := lv_entry ([.ref a0, .int x1]) (n := 2) (Nat.le_of_ble_eq_true rfl)
  rw [lg_entry_eq]
  generalize (lg_sl ([.ref a0, .int x1]) ++ List.replicate (2 - (lg_sl ([.ref a0, .int x1])).length) Slot.unset).toArray = ls at hl ⊢
  have hl : lv_has ls 2 [(0, .ref a0), (1, .int x1)] := hl
  unfold fX10_clear at h
  refine lv_aload_n hx hb dX10_clear_0 rfl (lv_at hl 0 rfl) ?_
  refine gf_X10_19 B hR (h0.at0 rfl) dX10_clear_1 ?_
  refine lv_iload_n hx hb dX10_clear_4 rfl (lv_at hl 1 rfl) ?_
  obtain ⟨r_5, hc_5, h⟩ := bi_el h
  refine iv_X10_162 B hR ((sb_10_1 h0).at0 rfl) hl.1 (mX8_isSet fu _ (sb_10_1 h0) hc_5) (Nat.le_of_ble_eq_true rfl) dX10_clear_5 (fun H locs hR => ?_)
  refine lv_if_ne (tgt := 13) hx hb dX10_clear_8 (by decide) (fun c_8 => ?_) (fun c_8 => ?_)
  · rw [if_neg c_8] at h
    refine lv_aload_n hx hb dX10_clear_13 rfl (lv_at hl 0 rfl) ?_
    refine gf_X10_19 B hR (h0.at0 rfl) dX10_clear_14 ?_
    refine lv_iload_n hx hb dX10_clear_17 rfl (lv_at hl 1 rfl) ?_
    refine lv_iconst (v := 0) hx hb dX10_clear_18 (by decide) ?_
    refine lv_iconst (v := 0) hx hb dX10_clear_19 (by decide) ?_
    refine lv_iconst (v := 0) hx hb dX10_clear_20 (by decide) ?_
    obtain ⟨M_21, hc_21, h⟩ := bm_el h
    refine iv_X10_158 B hR ((sb_10_1 h0).at0 rfl) hl.1 (mX8_put fu _ (sb_10_1 h0) hc_21) (Nat.le_of_ble_eq_true rfl) dX10_clear_21 (fun H locs hR => ?_)
    refine lv_aload_n hx hb dX10_clear_24 rfl (lv_at hl 0 rfl) ?_
    obtain ⟨M_25, hc_25, h⟩ := bm_el h
    refine iv_X10_144 B hR (h0.at0 rfl) hl.1 (mX10_kindsDone fu _ h0 hc_25) (Nat.le_of_ble_eq_true rfl) dX10_clear_25 (fun H locs hR => ?_)
    refine lv_iconst (v := 1) hx hb dX10_clear_28 (by decide) ?_
    exact r_zretW B hR hr hlk (Or.inr rfl) h dX10_clear_29
  · rw [if_pos c_8] at h
    refine lv_iconst (v := 0) hx hb dX10_clear_11 (by decide) ?_
    exact r_zretW B hR hr hlk (Or.inl rfl) h dX10_clear_12
def fX10_planNow_j27 (fu : Nat) (L : Lay) (a0 : Nat) (M : Mm) : Option Mm :=
  some M
set_option maxRecDepth 100000 in
set_option maxHeartbeats 4000000 in
theorem wX10_planNow_j27 {M' : Mm}   {a0 : Nat} {M : Mm} (B : Bx p s m args c cX10_planNow 1 RX10 E L) (hr : meth.sig.returnType = (some (.object "SpanKinds$Blocks"))) (hlk : meth.locks = false)  (h0 : At L a0 T10) (h : fX10_planNow_j27 fu L a0 M = some M') (hR : Rx s E L M H locs) (hl : lv_has ls 1 [(0, .ref a0)]) : W p l e (rmD (d + 20)) s m args below meth c H locs 0 0 (MQ below (QcM E L (some (.ref (a0 + 220))) M') args s 0 0 E.2.2.2) (F0 m 27 ls []) := by
  have hx := B.1
  have hb := B.2.1
  unfold fX10_planNow_j27 at h
  refine lv_aload_n hx hb dX10_planNow_27 rfl (lv_at hl 0 rfl) ?_
  refine gf_X10_68 B hR (h0.at0 rfl) dX10_planNow_28 ?_
  exact r_aretW B hR hr hlk h dX10_planNow_31
def fX10_planNow (fu : Nat) (L : Lay) (a0 : Nat) (M : Mm) : Option Mm :=
  if (M.1 a0 15) = 0 then
    bm (fX6_layPlan fu L (a0 + 206) (a0 + 12) (a0 + 220) M) fun M_19 =>
    lt (wI M_19 a0 15 1) fun M_24 =>
    fX10_planNow_j27 fu L a0 M_24
  else
    fX10_planNow_j27 fu L a0 M
set_option maxRecDepth 100000 in
set_option maxHeartbeats 4000000 in
theorem mX10_planNow {l : Launch} {E : Ge} {L : Lay} (fu d : Nat) {a0 : Nat} {M : Mm} {M' : Mm}  (h0 : At L a0 T10) (h : fX10_planNow fu L a0 M = some M') : Ct l E L yX10_planNow cX10_planNow 1 (some (.object "SpanKinds$Blocks")) (d + 20) [.ref a0] M (some (.ref (a0 + 220))) M' := by
  refine Ct.of (by decide) ?_
  intro p e s m below meth c hr hlk B hR
  have B : Bx p s m _ c cX10_planNow 1 RX10 E L := B
  have hx := B.1
  have hb := B.2.1
  have hl := lv_entry ([.ref a0]) (n := 1) (Nat.le_of_ble_eq_true rfl)
  rw [lg_entry_eq]
  generalize (lg_sl ([.ref a0]) ++ List.replicate (1 - (lg_sl ([.ref a0])).length) Slot.unset).toArray = ls at hl ⊢
  have hl : lv_has ls 1 [(0, .ref a0)] := hl
  unfold fX10_planNow at h
  refine lv_aload_n hx hb dX10_planNow_0 rfl (lv_at hl 0 rfl) ?_
  refine gf_X10_380 B hR (h0.at0 rfl) dX10_planNow_1 ?_
  refine lv_if_ne (tgt := 27) hx hb dX10_planNow_4 (by decide) (fun c_4 => ?_) (fun c_4 => ?_)
  · rw [if_neg c_4] at h
    exact wX10_planNow_j27 B hr hlk h0 h hR hl
  · rw [if_pos c_4] at h
    refine lv_aload_n hx hb dX10_planNow_7 rfl (lv_at hl 0 rfl) ?_
    refine gf_X10_61 B hR (h0.at0 rfl) dX10_planNow_8 ?_
    refine lv_aload_n hx hb dX10_planNow_11 rfl (lv_at hl 0 rfl) ?_
    refine gf_X10_19 B hR (h0.at0 rfl) dX10_planNow_12 ?_
    refine lv_aload_n hx hb dX10_planNow_15 rfl (lv_at hl 0 rfl) ?_
    refine gf_X10_68 B hR (h0.at0 rfl) dX10_planNow_16 ?_
    obtain ⟨M_19, hc_19, h⟩ := bm_el h
    refine iv_X10_398 B hR ((sb_10_7 h0).at0 rfl) hl.1 (mX6_layPlan fu _ (sb_10_7 h0) (sb_10_1 h0) (sb_10_8 h0) hc_19) (Nat.le_of_ble_eq_true rfl) dX10_planNow_19 (fun H locs hR => ?_)
    refine lv_aload_n hx hb dX10_planNow_22 rfl (lv_at hl 0 rfl) ?_
    refine lv_iconst (v := 1) hx hb dX10_planNow_23 (by decide) ?_
    obtain ⟨M_24, eM_24, h⟩ := lt_el h
    refine pz_X10_380 B hR (h0.at0 rfl) (Or.inr rfl) dX10_planNow_24 (fun H locs hR => ?_)
    rw [← eM_24] at hR
    exact wX10_planNow_j27 B hr hlk h0 h hR hl
def fX10_lay (fu : Nat) (L : Lay) (a0 : Nat) (M : Mm) : Option (Int32 × Mm) :=
  bm (fX10_planNow fu L a0 M) fun M_1 =>
  if (M_1.1 (a0 + 220) 3) ≤ (M_1.1 (a0 + 12) 1) then
    bm (fX8_putAll fu (a0 + 12) 160 (a0 + 220) M_1) fun M_26 =>
    bm (fX10_kindsDone fu a0 M_26) fun M_30 =>
    some ((M_30.1 (a0 + 220) 3), M_30)
  else
    some ((-1), M_1)
set_option maxRecDepth 100000 in
set_option maxHeartbeats 4000000 in
theorem mX10_lay {l : Launch} {E : Ge} {L : Lay} (fu d : Nat) {a0 : Nat} {M : Mm} {r : Int32} {M' : Mm}  (h0 : At L a0 T10) (h : fX10_lay fu L a0 M = some (r, M')) : Ct l E L yX10_lay cX10_lay 2 (some .int) (d + 21) [.ref a0] M (some (.int r)) M' := by
  refine Ct.of (by decide) ?_
  intro p e s m below meth c hr hlk B hR
  have B : Bx p s m _ c cX10_lay 2 RX10 E L := B
  have hx := B.1
  have hb := B.2.1
  have hl := lv_entry ([.ref a0]) (n := 2) (Nat.le_of_ble_eq_true rfl)
  rw [lg_entry_eq]
  generalize (lg_sl ([.ref a0]) ++ List.replicate (2 - (lg_sl ([.ref a0])).length) Slot.unset).toArray = ls at hl ⊢
  have hl : lv_has ls 2 [(0, .ref a0)] := hl
  unfold fX10_lay at h
  refine lv_aload_n hx hb dX10_lay_0 rfl (lv_at hl 0 rfl) ?_
  obtain ⟨M_1, hc_1, h⟩ := bm_el h
  refine iv_X10_165 B hR (h0.at0 rfl) hl.1 (mX10_planNow fu _ h0 hc_1) (Nat.le_of_ble_eq_true rfl) dX10_lay_1 (fun H locs hR => ?_)
  refine lv_astore_n (lv' := [(1, .ref (a0 + 220)), (0, .ref a0)]) hx hb dX10_lay_4 rfl hl (by decide) rfl (fun ls hl => ?_)
  refine lv_aload_n hx hb dX10_lay_5 rfl (lv_at hl 0 rfl) ?_
  refine gf_X10_169 B hR ((sb_10_8 h0).at0 rfl) dX10_lay_6 ?_
  refine lv_aload_n hx hb dX10_lay_9 rfl (lv_at hl 1 rfl) ?_
  refine gf_X10_19 B hR (h0.at0 rfl) dX10_lay_10 ?_
  refine gf_X10_172 B hR ((sb_10_1 h0).at0 rfl) dX10_lay_13 ?_
  refine lv_icmp_le (tgt := 21) hx hb dX10_lay_16 (by decide) (fun c_16 => ?_) (fun c_16 => ?_)
  · rw [if_pos c_16] at h
    refine lv_aload_n hx hb dX10_lay_21 rfl (lv_at hl 1 rfl) ?_
    refine gf_X10_19 B hR (h0.at0 rfl) dX10_lay_22 ?_
    refine lv_aload_n hx hb dX10_lay_25 rfl (lv_at hl 0 rfl) ?_
    obtain ⟨M_26, hc_26, h⟩ := bm_el h
    refine iv_X10_175 B hR ((sb_10_1 h0).at0 rfl) hl.1 (mX8_putAll fu _ (sb_10_1 h0) (sb_10_8 h0) hc_26) (Nat.le_of_ble_eq_true rfl) dX10_lay_26 (fun H locs hR => ?_)
    refine lv_aload_n hx hb dX10_lay_29 rfl (lv_at hl 1 rfl) ?_
    obtain ⟨M_30, hc_30, h⟩ := bm_el h
    refine iv_X10_144 B hR (h0.at0 rfl) hl.1 (mX10_kindsDone fu _ h0 hc_30) (Nat.le_of_ble_eq_true rfl) dX10_lay_30 (fun H locs hR => ?_)
    refine lv_aload_n hx hb dX10_lay_33 rfl (lv_at hl 0 rfl) ?_
    refine gf_X10_169 B hR ((sb_10_8 h0).at0 rfl) dX10_lay_34 ?_
    exact r_iretW B hR hr hlk h dX10_lay_37
  · rw [if_neg c_16] at h
    refine lv_iconst (v := (-1)) hx hb dX10_lay_19 (by decide) ?_
    exact r_iretW B hR hr hlk h dX10_lay_20
def fX10_page_j20 (fu : Nat) (M : Mm) : Option (Int32 × Mm) :=
  some ((-1), M)
set_option maxRecDepth 100000 in
set_option maxHeartbeats 4000000 in
theorem wX10_page_j20 {r : Int32} {M' : Mm}    {M : Mm} (B : Bx p s m args c cX10_page 4 RX10 E L) (hr : meth.sig.returnType = (some .int)) (hlk : meth.locks = false)   (h : fX10_page_j20 fu M = some (r, M')) (hR : Rx s E L M H locs) (hl : lv_has ls 4 []) : W p l e (rmD (d + 4)) s m args below meth c H locs 0 0 (MQ below (QcM E L (some (.int r)) M') args s 0 0 E.2.2.2) (F0 m 20 ls []) := by
  have hx := B.1
  have hb := B.2.1
  unfold fX10_page_j20 at h
  refine lv_iconst (v := (-1)) hx hb dX10_page_20 (by decide) ?_
  exact r_iretW B hR hr hlk h dX10_page_21
def fX10_page (fu : Nat) (a0 : Nat) (x1 : Int32) (x2 : Int32) (M : Mm) : Option (Int32 × Mm) :=
  bi (fX8_hasPage fu (a0 + 12) x1 M) fun r_5 =>
  if r_5 = 0 then
    fX10_page_j20 fu M
  else
    if x2 < 0 then
      fX10_page_j20 fu M
    else
      if x2 ≤ 5 then
        if x1 < 0 ∨ 64 ≤ ix x1 then none else
        lt ((M.1 ((a0 + 12) + 8) (ix x1))) fun x3_31 =>
        lt (wI M ((a0 + 12) + 8) (ix x1) x2) fun M_41 =>
        bm (fX10_kindsDone fu a0 M_41) fun M_43 =>
        some (x3_31, M_43)
      else
        fX10_page_j20 fu M
set_option maxRecDepth 100000 in
set_option maxHeartbeats 4000000 in
theorem mX10_page {l : Launch} {E : Ge} {L : Lay} (fu d : Nat) {a0 : Nat} {x1 : Int32} {x2 : Int32} {M : Mm} {r : Int32} {M' : Mm}  (h0 : At L a0 T10) (h : fX10_page fu a0 x1 x2 M = some (r, M')) : Ct l E L yX10_page cX10_page 4 (some .int) (d + 4) [.ref a0, .int x1, .int x2] M (some (.int r)) M' := by
  refine Ct.of (by decide) ?_
  intro p e s m below meth c hr hlk B hR
  have B : Bx p s m _ c cX10_page 4 RX10 E L := B
  have hx := B.1
  have hb := B.2.1
  have hl := lv_entry ([.ref a0, .int x1, .int x2]) (n := 4) (Nat.le_of_ble_eq_true rfl)
  rw [lg_entry_eq]
  generalize (lg_sl ([.ref a0, .int x1, .int x2]) ++ List.replicate (4 - (lg_sl ([.ref a0, .int x1, .int x2])).length) Slot.unset).toArray = ls at hl ⊢
  have hl : lv_has ls 4 [(0, .ref a0), (1, .int x1), (2, .int x2)] := hl
  unfold fX10_page at h
  refine lv_aload_n hx hb dX10_page_0 rfl (lv_at hl 0 rfl) ?_
  refine gf_X10_19 B hR (h0.at0 rfl) dX10_page_1 ?_
  refine lv_iload_n hx hb dX10_page_4 rfl (lv_at hl 1 rfl) ?_
  obtain ⟨r_5, hc_5, h⟩ := bi_el h
  refine iv_X10_179 B hR ((sb_10_1 h0).at0 rfl) hl.1 (mX8_hasPage fu _ (sb_10_1 h0) hc_5) (Nat.le_of_ble_eq_true rfl) dX10_page_5 (fun H locs hR => ?_)
  refine lv_if_eq (tgt := 20) hx hb dX10_page_8 (by decide) (fun c_8 => ?_) (fun c_8 => ?_)
  · rw [if_pos c_8] at h
    exact wX10_page_j20 B hr hlk  h hR (lv_sub hl [] rfl)
  · rw [if_neg c_8] at h
    refine lv_iload_n hx hb dX10_page_11 rfl (lv_at hl 2 rfl) ?_
    refine lv_if_lt (tgt := 20) hx hb dX10_page_12 (by decide) (fun c_12 => ?_) (fun c_12 => ?_)
    · rw [if_pos c_12] at h
      exact wX10_page_j20 B hr hlk  h hR (lv_sub hl [] rfl)
    · rw [if_neg c_12] at h
      refine lv_iload_n hx hb dX10_page_15 rfl (lv_at hl 2 rfl) ?_
      refine lv_iconst (v := 5) hx hb dX10_page_16 (by decide) ?_
      refine lv_icmp_le (tgt := 22) hx hb dX10_page_17 (by decide) (fun c_17 => ?_) (fun c_17 => ?_)
      · rw [if_pos c_17] at h
        refine lv_aload_n hx hb dX10_page_22 rfl (lv_at hl 0 rfl) ?_
        refine gf_X10_19 B hR (h0.at0 rfl) dX10_page_23 ?_
        refine gf_X10_182 B hR ((sb_10_1 h0).at0 rfl) dX10_page_26 ?_
        refine lv_iload_n hx hb dX10_page_29 rfl (lv_at hl 1 rfl) ?_
        obtain ⟨hi_30, h⟩ := ifn_el h
        refine r_iald B hR ((sb_10_1 h0).at 8 rfl) hi_30 dX10_page_30 ?_
        obtain ⟨x3_31, ex3_31, h⟩ := lt_el h
        refine r_nmI ex3_31 ?_
        refine lv_istore_n (lv' := [(3, .int x3_31), (0, .ref a0), (1, .int x1), (2, .int x2)]) hx hb dX10_page_31 rfl hl (by decide) rfl (fun ls hl => ?_)
        refine lv_aload_n hx hb dX10_page_32 rfl (lv_at hl 1 rfl) ?_
        refine gf_X10_19 B hR (h0.at0 rfl) dX10_page_33 ?_
        refine gf_X10_182 B hR ((sb_10_1 h0).at0 rfl) dX10_page_36 ?_
        refine lv_iload_n hx hb dX10_page_39 rfl (lv_at hl 2 rfl) ?_
        refine lv_iload_n hx hb dX10_page_40 rfl (lv_at hl 3 rfl) ?_
        obtain ⟨M_41, eM_41, h⟩ := lt_el h
        refine r_iast B hR ((sb_10_1 h0).at 8 rfl) hi_30 dX10_page_41 (fun H locs hR => ?_)
        rw [← eM_41] at hR
        refine lv_aload_n hx hb dX10_page_42 rfl (lv_at hl 1 rfl) ?_
        obtain ⟨M_43, hc_43, h⟩ := bm_el h
        refine iv_X10_144 B hR (h0.at0 rfl) hl.1 (mX10_kindsDone fu _ h0 hc_43) (Nat.le_of_ble_eq_true rfl) dX10_page_43 (fun H locs hR => ?_)
        refine lv_iload_n hx hb dX10_page_46 rfl (lv_at hl 0 rfl) ?_
        exact r_iretW B hR hr hlk h dX10_page_47
      · rw [if_neg c_17] at h
        exact wX10_page_j20 B hr hlk  h hR (lv_sub hl [] rfl)
def fX10_piecesNow_j23 (fu : Nat) (a0 : Nat) (M : Mm) : Option Mm :=
  some M
set_option maxRecDepth 100000 in
set_option maxHeartbeats 4000000 in
theorem wX10_piecesNow_j23 {M' : Mm}   {a0 : Nat} {M : Mm} (B : Bx p s m args c cX10_piecesNow 1 RX10 E L) (hr : meth.sig.returnType = (some (.object "SpanKinds$Pieces"))) (hlk : meth.locks = false)  (h0 : At L a0 T10) (h : fX10_piecesNow_j23 fu a0 M = some M') (hR : Rx s E L M H locs) (hl : lv_has ls 1 [(0, .ref a0)]) : W p l e (rmD (d + 4)) s m args below meth c H locs 0 0 (MQ below (QcM E L (some (.ref (a0 + 198))) M') args s 0 0 E.2.2.2) (F0 m 23 ls []) := by
  have hx := B.1
  have hb := B.2.1
  unfold fX10_piecesNow_j23 at h
  refine lv_aload_n hx hb dX10_piecesNow_23 rfl (lv_at hl 0 rfl) ?_
  refine gf_X10_54 B hR (h0.at0 rfl) dX10_piecesNow_24 ?_
  exact r_aretW B hR hr hlk h dX10_piecesNow_27
def fX10_piecesNow (fu : Nat) (a0 : Nat) (M : Mm) : Option Mm :=
  if (M.1 a0 14) = 0 then
    bm (fX5_make fu (a0 + 198) (a0 + 12) M) fun M_15 =>
    lt (wI M_15 a0 14 1) fun M_20 =>
    fX10_piecesNow_j23 fu a0 M_20
  else
    fX10_piecesNow_j23 fu a0 M
set_option maxRecDepth 100000 in
set_option maxHeartbeats 4000000 in
theorem mX10_piecesNow {l : Launch} {E : Ge} {L : Lay} (fu d : Nat) {a0 : Nat} {M : Mm} {M' : Mm}  (h0 : At L a0 T10) (h : fX10_piecesNow fu a0 M = some M') : Ct l E L yX10_piecesNow cX10_piecesNow 1 (some (.object "SpanKinds$Pieces")) (d + 4) [.ref a0] M (some (.ref (a0 + 198))) M' := by
  refine Ct.of (by decide) ?_
  intro p e s m below meth c hr hlk B hR
  have B : Bx p s m _ c cX10_piecesNow 1 RX10 E L := B
  have hx := B.1
  have hb := B.2.1
  have hl := lv_entry ([.ref a0]) (n := 1) (Nat.le_of_ble_eq_true rfl)
  rw [lg_entry_eq]
  generalize (lg_sl ([.ref a0]) ++ List.replicate (1 - (lg_sl ([.ref a0])).length) Slot.unset).toArray = ls at hl ⊢
  have hl : lv_has ls 1 [(0, .ref a0)] := hl
  unfold fX10_piecesNow at h
  refine lv_aload_n hx hb dX10_piecesNow_0 rfl (lv_at hl 0 rfl) ?_
  refine gf_X10_389 B hR (h0.at0 rfl) dX10_piecesNow_1 ?_
  refine lv_if_ne (tgt := 23) hx hb dX10_piecesNow_4 (by decide) (fun c_4 => ?_) (fun c_4 => ?_)
  · rw [if_neg c_4] at h
    exact wX10_piecesNow_j23 B hr hlk h0 h hR hl
  · rw [if_pos c_4] at h
    refine lv_aload_n hx hb dX10_piecesNow_7 rfl (lv_at hl 0 rfl) ?_
    refine gf_X10_54 B hR (h0.at0 rfl) dX10_piecesNow_8 ?_
    refine lv_aload_n hx hb dX10_piecesNow_11 rfl (lv_at hl 0 rfl) ?_
    refine gf_X10_19 B hR (h0.at0 rfl) dX10_piecesNow_12 ?_
    obtain ⟨M_15, hc_15, h⟩ := bm_el h
    refine iv_X10_395 B hR ((sb_10_6 h0).at0 rfl) hl.1 (mX5_make fu _ (sb_10_6 h0) (sb_10_1 h0) hc_15) (Nat.le_of_ble_eq_true rfl) dX10_piecesNow_15 (fun H locs hR => ?_)
    refine lv_aload_n hx hb dX10_piecesNow_18 rfl (lv_at hl 0 rfl) ?_
    refine lv_iconst (v := 1) hx hb dX10_piecesNow_19 (by decide) ?_
    obtain ⟨M_20, eM_20, h⟩ := lt_el h
    refine pz_X10_389 B hR (h0.at0 rfl) (Or.inr rfl) dX10_piecesNow_20 (fun H locs hR => ?_)
    rw [← eM_20] at hR
    exact wX10_piecesNow_j23 B hr hlk h0 h hR hl
def fX10_mend_j67 (fu : Nat) (a0 : Nat) (x2 : Int32) (M : Mm) : Option (Int32 × Mm) :=
  bm (fX10_kindsDone fu a0 M) fun M_68 =>
  some (x2, M_68)
set_option maxRecDepth 100000 in
set_option maxHeartbeats 4000000 in
theorem wX10_mend_j67 {r : Int32} {M' : Mm}   {a0 : Nat} {x2 : Int32} {M : Mm} (B : Bx p s m args c cX10_mend 5 RX10 E L) (hr : meth.sig.returnType = (some .int)) (hlk : meth.locks = false)  (h0 : At L a0 T10) (h : fX10_mend_j67 fu a0 x2 M = some (r, M')) (hR : Rx s E L M H locs) (hl : lv_has ls 5 [(0, .ref a0), (2, .int x2)]) : W p l e (rmD (d + 5)) s m args below meth c H locs 0 0 (MQ below (QcM E L (some (.int r)) M') args s 0 0 E.2.2.2) (F0 m 67 ls []) := by
  have hx := B.1
  have hb := B.2.1
  unfold fX10_mend_j67 at h
  refine lv_aload_n hx hb dX10_mend_67 rfl (lv_at hl 0 rfl) ?_
  obtain ⟨M_68, hc_68, h⟩ := bm_el h
  refine iv_X10_144 B hR (h0.at0 rfl) hl.1 (mX10_kindsDone fu _ h0 hc_68) (Nat.le_of_ble_eq_true rfl) dX10_mend_68 (fun H locs hR => ?_)
  refine lv_iload_n hx hb dX10_mend_71 rfl (lv_at hl 1 rfl) ?_
  exact r_iretW B hR hr hlk h dX10_mend_72
def fX10_mend_j61 (fu : Nat) (k9 : Int32 → Int32 → Mm → Option (Int32 × Mm)) (a0 : Nat) (a1 : Nat) (x2 : Int32) (x3 : Int32) (M : Mm) : Option (Int32 × Mm) :=
  lt (x3 + 1) fun x3_61 =>
  k9 x2 x3_61 M
set_option maxRecDepth 100000 in
set_option maxHeartbeats 4000000 in
theorem wX10_mend_j61 {r : Int32} {M' : Mm}  {k9 : Int32 → Int32 → Mm → Option (Int32 × Mm)} {a0 : Nat} {a1 : Nat} {x2 : Int32} {x3 : Int32} {M : Mm} (B : Bx p s m args c cX10_mend 5 RX10 E L) (hr : meth.sig.returnType = (some .int)) (hlk : meth.locks = false) (ih9 : ∀ (x2 : Int32) (x3 : Int32) (M : Mm), k9 x2 x3 M = some (r, M') → ∀ (H : Heap) (locs : List Loc) (ls : Array Slot), Rx s E L M H locs → lv_has ls 5 [(0, .ref a0), (1, .ref a1), (2, .int x2), (3, .int x3)] → W p l e (rmD (d + 5)) s m args below meth c H locs 0 0 (MQ below (QcM E L (some (.int r)) M') args s 0 0 E.2.2.2) (F0 m 9 ls [])) (h0 : At L a0 T10) (h1 : At L a1 T5) (h : fX10_mend_j61 fu k9 a0 a1 x2 x3 M = some (r, M')) (hR : Rx s E L M H locs) (hl : lv_has ls 5 [(0, .ref a0), (1, .ref a1), (2, .int x2), (3, .int x3)]) : W p l e (rmD (d + 5)) s m args below meth c H locs 0 0 (MQ below (QcM E L (some (.int r)) M') args s 0 0 E.2.2.2) (F0 m 61 ls []) := by
  have hx := B.1
  have hb := B.2.1
  unfold fX10_mend_j61 at h
  obtain ⟨x3_61, ex3_61, h⟩ := lt_el h
  refine lv_iinc (v := x3_61) (lv' := [(3, .int x3_61), (0, .ref a0), (1, .ref a1), (2, .int x2)]) hx hb dX10_mend_61 hl (k := 3) rfl (by rw [ex3_61]; rfl) (by decide) rfl (fun ls hl => ?_)
  refine lv_goto (tgt := 9) hx hb dX10_mend_64 (by decide) ?_
  exact ih9 x2 x3_61 M h _ _ _ hR (lv_sub hl [1, 2, 3, 0] rfl)
def fX10_mend_b9 (fu : Nat) (k9 : Int32 → Int32 → Mm → Option (Int32 × Mm)) (a0 : Nat) (a1 : Nat) (x2 : Int32) (x3 : Int32) (M : Mm) : Option (Int32 × Mm) :=
  bi (fX8_pages fu (a0 + 12) M) fun r_14 =>
  if r_14 ≤ x3 then
    fX10_mend_j67 fu a0 x2 M
  else
    bi (fX5_mendingKind fu a1 x3 M) fun r_22 =>
    if r_22 = (-1) then
      fX10_mend_j61 fu k9 a0 a1 x2 x3 M
    else
      if x3 < 0 ∨ 64 ≤ ix x3 then none else
      if r_22 = (M.1 ((a0 + 12) + 8) (ix x3)) then
        fX10_mend_j61 fu k9 a0 a1 x2 x3 M
      else
        lt (wI M ((a0 + 12) + 8) (ix x3) r_22) fun M_57 =>
        lt (x2 + 1) fun x2_58 =>
        fX10_mend_j61 fu k9 a0 a1 x2_58 x3 M_57
set_option maxRecDepth 100000 in
set_option maxHeartbeats 4000000 in
theorem wX10_mend_b9 {r : Int32} {M' : Mm}   {k9 : Int32 → Int32 → Mm → Option (Int32 × Mm)} {a0 : Nat} {a1 : Nat} {x2 : Int32} {x3 : Int32} {M : Mm} (B : Bx p s m args c cX10_mend 5 RX10 E L) (hr : meth.sig.returnType = (some .int)) (hlk : meth.locks = false)  (ih9 : ∀ (x2 : Int32) (x3 : Int32) (M : Mm), k9 x2 x3 M = some (r, M') → ∀ (H : Heap) (locs : List Loc) (ls : Array Slot), Rx s E L M H locs → lv_has ls 5 [(0, .ref a0), (1, .ref a1), (2, .int x2), (3, .int x3)] → W p l e (rmD (d + 5)) s m args below meth c H locs 0 0 (MQ below (QcM E L (some (.int r)) M') args s 0 0 E.2.2.2) (F0 m 9 ls [])) (h0 : At L a0 T10) (h1 : At L a1 T5) (h : fX10_mend_b9 fu k9 a0 a1 x2 x3 M = some (r, M')) (hR : Rx s E L M H locs) (hl : lv_has ls 5 [(0, .ref a0), (1, .ref a1), (2, .int x2), (3, .int x3)]) : W p l e (rmD (d + 5)) s m args below meth c H locs 0 0 (MQ below (QcM E L (some (.int r)) M') args s 0 0 E.2.2.2) (F0 m 9 ls []) := by
  have hx := B.1
  have hb := B.2.1
  unfold fX10_mend_b9 at h
  refine lv_iload_n hx hb dX10_mend_9 rfl (lv_at hl 3 rfl) ?_
  refine lv_aload_n hx hb dX10_mend_10 rfl (lv_at hl 0 rfl) ?_
  refine gf_X10_19 B hR (h0.at0 rfl) dX10_mend_11 ?_
  obtain ⟨r_14, hc_14, h⟩ := bi_el h
  refine iv_X10_189 B hR ((sb_10_1 h0).at0 rfl) hl.1 (mX8_pages fu _ (sb_10_1 h0) hc_14) (Nat.le_of_ble_eq_true rfl) dX10_mend_14 (fun H locs hR => ?_)
  refine lv_icmp_ge (tgt := 67) hx hb dX10_mend_17 (by decide) (fun c_17 => ?_) (fun c_17 => ?_)
  · rw [if_pos c_17] at h
    exact wX10_mend_j67 B hr hlk h0 h hR (lv_sub hl [0, 2] rfl)
  · rw [if_neg c_17] at h
    refine lv_aload_n hx hb dX10_mend_20 rfl (lv_at hl 1 rfl) ?_
    refine lv_iload_n hx hb dX10_mend_21 rfl (lv_at hl 3 rfl) ?_
    obtain ⟨r_22, hc_22, h⟩ := bi_el h
    refine iv_X10_193 B hR (h1.at0 rfl) hl.1 (mX5_mendingKind fu _ h1 hc_22) (Nat.le_of_ble_eq_true rfl) dX10_mend_22 (fun H locs hR => ?_)
    refine lv_istore (lv' := [(4, .int r_22), (0, .ref a0), (1, .ref a1), (2, .int x2), (3, .int x3)]) hx hb dX10_mend_25 hl (by decide) rfl (fun ls hl => ?_)
    refine lv_iload hx hb dX10_mend_27 (lv_at hl 0 rfl) ?_
    refine lv_iconst (v := (-1)) hx hb dX10_mend_29 (by decide) ?_
    refine lv_icmp_eq (tgt := 61) hx hb dX10_mend_30 (by decide) (fun c_30 => ?_) (fun c_30 => ?_)
    · rw [if_pos c_30] at h
      exact wX10_mend_j61 B hr hlk ih9 h0 h1 h hR (lv_sub hl [1, 2, 3, 4] rfl)
    · rw [if_neg c_30] at h
      refine lv_iload hx hb dX10_mend_33 (lv_at hl 0 rfl) ?_
      refine lv_aload_n hx hb dX10_mend_35 rfl (lv_at hl 1 rfl) ?_
      refine gf_X10_19 B hR (h0.at0 rfl) dX10_mend_36 ?_
      refine gf_X10_182 B hR ((sb_10_1 h0).at0 rfl) dX10_mend_39 ?_
      refine lv_iload_n hx hb dX10_mend_42 rfl (lv_at hl 4 rfl) ?_
      obtain ⟨hi_43, h⟩ := ifn_el h
      refine r_iald B hR ((sb_10_1 h0).at 8 rfl) hi_43 dX10_mend_43 ?_
      refine lv_icmp_eq (tgt := 61) hx hb dX10_mend_44 (by decide) (fun c_44 => ?_) (fun c_44 => ?_)
      · rw [if_pos c_44] at h
        exact wX10_mend_j61 B hr hlk ih9 h0 h1 h hR (lv_sub hl [1, 2, 3, 4] rfl)
      · rw [if_neg c_44] at h
        refine lv_aload_n hx hb dX10_mend_47 rfl (lv_at hl 1 rfl) ?_
        refine gf_X10_19 B hR (h0.at0 rfl) dX10_mend_48 ?_
        refine gf_X10_182 B hR ((sb_10_1 h0).at0 rfl) dX10_mend_51 ?_
        refine lv_iload_n hx hb dX10_mend_54 rfl (lv_at hl 4 rfl) ?_
        refine lv_iload hx hb dX10_mend_55 (lv_at hl 0 rfl) ?_
        obtain ⟨M_57, eM_57, h⟩ := lt_el h
        refine r_iast B hR ((sb_10_1 h0).at 8 rfl) hi_43 dX10_mend_57 (fun H locs hR => ?_)
        rw [← eM_57] at hR
        obtain ⟨x2_58, ex2_58, h⟩ := lt_el h
        refine lv_iinc (v := x2_58) (lv' := [(2, .int x2_58), (4, .int r_22), (0, .ref a0), (1, .ref a1), (3, .int x3)]) hx hb dX10_mend_58 hl (k := 3) rfl (by rw [ex2_58]; rfl) (by decide) rfl (fun ls hl => ?_)
        exact wX10_mend_j61 B hr hlk ih9 h0 h1 h hR (lv_sub hl [2, 3, 0, 4] rfl)
def fX10_mend_l9 (fu : Nat) (a0 : Nat) (a1 : Nat) (x2 : Int32) (x3 : Int32) (M : Mm) : Option (Int32 × Mm) := lp (fun (rec : (Int32 × Int32 × Mm) → Option (Int32 × Mm)) (s : Int32 × Int32 × Mm) => fX10_mend_b9 fu  (fun x2 x3 M => rec (x2, x3, M)) a0 a1 s.1 s.2.1 s.2.2) fu (x2, x3, M)
set_option maxRecDepth 100000 in
set_option maxHeartbeats 4000000 in
theorem wX10_mend_l9 {r : Int32} {M' : Mm}   {a0 : Nat} {a1 : Nat} {x2 : Int32} {x3 : Int32} {M : Mm} (B : Bx p s m args c cX10_mend 5 RX10 E L) (hr : meth.sig.returnType = (some .int)) (hlk : meth.locks = false)  (h0 : At L a0 T10) (h1 : At L a1 T5) (h : fX10_mend_l9 fu a0 a1 x2 x3 M = some (r, M')) (hR : Rx s E L M H locs) (hl : lv_has ls 5 [(0, .ref a0), (1, .ref a1), (2, .int x2), (3, .int x3)]) : W p l e (rmD (d + 5)) s m args below meth c H locs 0 0 (MQ below (QcM E L (some (.int r)) M') args s 0 0 E.2.2.2) (F0 m 9 ls []) := by
  refine lp_G (G := fun z : Int32 × Int32 × Mm => ∀ (H : Heap) (locs : List Loc) (ls : Array Slot), Rx s E L z.2.2 H locs → lv_has ls 5 [(0, .ref a0), (1, .ref a1), (2, .int z.1), (3, .int z.2.1)] → W p l e (rmD (d + 5)) s m args below meth c H locs 0 0 (MQ below (QcM E L (some (.int r)) M') args s 0 0 E.2.2.2) (F0 m 9 ls [])) (fun rec ih z h H locs ls hR hl => ?_) fu _ h H locs ls hR hl
  exact wX10_mend_b9 B hr hlk  (fun x2 x3 M h => ih (x2, x3, M) h) h0 h1 h hR hl
def fX10_mend (fu : Nat) (a0 : Nat) (M : Mm) : Option (Int32 × Mm) :=
  bm (fX10_piecesNow fu a0 M) fun M_1 =>
  fX10_mend_l9 fu a0 (a0 + 198) 0 0 M_1
set_option maxRecDepth 100000 in
set_option maxHeartbeats 4000000 in
theorem mX10_mend {l : Launch} {E : Ge} {L : Lay} (fu d : Nat) {a0 : Nat} {M : Mm} {r : Int32} {M' : Mm}  (h0 : At L a0 T10) (h : fX10_mend fu a0 M = some (r, M')) : Ct l E L yX10_mend cX10_mend 5 (some .int) (d + 5) [.ref a0] M (some (.int r)) M' := by
  refine Ct.of (by decide) ?_
  intro p e s m below meth c hr hlk B hR
  have B : Bx p s m _ c cX10_mend 5 RX10 E L := B
  have hx := B.1
  have hb := B.2.1
  have hl := lv_entry ([.ref a0]) (n := 5) (Nat.le_of_ble_eq_true rfl)
  rw [lg_entry_eq]
  generalize (lg_sl ([.ref a0]) ++ List.replicate (5 - (lg_sl ([.ref a0])).length) Slot.unset).toArray = ls at hl ⊢
  have hl : lv_has ls 5 [(0, .ref a0)] := hl
  unfold fX10_mend at h
  refine lv_aload_n hx hb dX10_mend_0 rfl (lv_at hl 0 rfl) ?_
  obtain ⟨M_1, hc_1, h⟩ := bm_el h
  refine iv_X10_185 B hR (h0.at0 rfl) hl.1 (mX10_piecesNow fu _ h0 hc_1) (Nat.le_of_ble_eq_true rfl) dX10_mend_1 (fun H locs hR => ?_)
  refine lv_astore_n (lv' := [(1, .ref (a0 + 198)), (0, .ref a0)]) hx hb dX10_mend_4 rfl hl (by decide) rfl (fun ls hl => ?_)
  refine lv_iconst (v := 0) hx hb dX10_mend_5 (by decide) ?_
  refine lv_istore_n (lv' := [(2, .int 0), (1, .ref (a0 + 198)), (0, .ref a0)]) hx hb dX10_mend_6 rfl hl (by decide) rfl (fun ls hl => ?_)
  refine lv_iconst (v := 0) hx hb dX10_mend_7 (by decide) ?_
  refine lv_istore_n (lv' := [(3, .int 0), (2, .int 0), (1, .ref (a0 + 198)), (0, .ref a0)]) hx hb dX10_mend_8 rfl hl (by decide) rfl (fun ls hl => ?_)
  exact wX10_mend_l9 B hr hlk h0 (sb_10_6 h0) h hR (lv_sub hl [3, 2, 1, 0] rfl)
def fX10_pagedNow_j31 (fu : Nat) (L : Lay) (a0 : Nat) (M : Mm) : Option Mm :=
  some M
set_option maxRecDepth 100000 in
set_option maxHeartbeats 4000000 in
theorem wX10_pagedNow_j31 {M' : Mm}   {a0 : Nat} {M : Mm} (B : Bx p s m args c cX10_pagedNow 1 RX10 E L) (hr : meth.sig.returnType = (some (.object "SpanKinds$Blocks"))) (hlk : meth.locks = false)  (h0 : At L a0 T10) (h : fX10_pagedNow_j31 fu L a0 M = some M') (hR : Rx s E L M H locs) (hl : lv_has ls 1 [(0, .ref a0)]) : W p l e (rmD (d + 54)) s m args below meth c H locs 0 0 (MQ below (QcM E L (some (.ref (a0 + 224))) M') args s 0 0 E.2.2.2) (F0 m 31 ls []) := by
  have hx := B.1
  have hb := B.2.1
  unfold fX10_pagedNow_j31 at h
  refine lv_aload_n hx hb dX10_pagedNow_31 rfl (lv_at hl 0 rfl) ?_
  refine gf_X10_72 B hR (h0.at0 rfl) dX10_pagedNow_32 ?_
  exact r_aretW B hR hr hlk h dX10_pagedNow_35
def fX10_pagedNow (fu : Nat) (L : Lay) (a0 : Nat) (M : Mm) : Option Mm :=
  if (M.1 a0 16) = 0 then
    bm (fX6_layPagedPlan fu L (a0 + 206) (a0 + 12) (a0 + 224) (a0 + 228) M) fun M_23 =>
    lt (wI M_23 a0 16 1) fun M_28 =>
    fX10_pagedNow_j31 fu L a0 M_28
  else
    fX10_pagedNow_j31 fu L a0 M
set_option maxRecDepth 100000 in
set_option maxHeartbeats 4000000 in
theorem mX10_pagedNow {l : Launch} {E : Ge} {L : Lay} (fu d : Nat) {a0 : Nat} {M : Mm} {M' : Mm}  (h0 : At L a0 T10) (h : fX10_pagedNow fu L a0 M = some M') : Ct l E L yX10_pagedNow cX10_pagedNow 1 (some (.object "SpanKinds$Blocks")) (d + 54) [.ref a0] M (some (.ref (a0 + 224))) M' := by
  refine Ct.of (by decide) ?_
  intro p e s m below meth c hr hlk B hR
  have B : Bx p s m _ c cX10_pagedNow 1 RX10 E L := B
  have hx := B.1
  have hb := B.2.1
  have hl := lv_entry ([.ref a0]) (n := 1) (Nat.le_of_ble_eq_true rfl)
  rw [lg_entry_eq]
  generalize (lg_sl ([.ref a0]) ++ List.replicate (1 - (lg_sl ([.ref a0])).length) Slot.unset).toArray = ls at hl ⊢
  have hl : lv_has ls 1 [(0, .ref a0)] := hl
  unfold fX10_pagedNow at h
  refine lv_aload_n hx hb dX10_pagedNow_0 rfl (lv_at hl 0 rfl) ?_
  refine gf_X10_383 B hR (h0.at0 rfl) dX10_pagedNow_1 ?_
  refine lv_if_ne (tgt := 31) hx hb dX10_pagedNow_4 (by decide) (fun c_4 => ?_) (fun c_4 => ?_)
  · rw [if_neg c_4] at h
    exact wX10_pagedNow_j31 B hr hlk h0 h hR hl
  · rw [if_pos c_4] at h
    refine lv_aload_n hx hb dX10_pagedNow_7 rfl (lv_at hl 0 rfl) ?_
    refine gf_X10_61 B hR (h0.at0 rfl) dX10_pagedNow_8 ?_
    refine lv_aload_n hx hb dX10_pagedNow_11 rfl (lv_at hl 0 rfl) ?_
    refine gf_X10_19 B hR (h0.at0 rfl) dX10_pagedNow_12 ?_
    refine lv_aload_n hx hb dX10_pagedNow_15 rfl (lv_at hl 0 rfl) ?_
    refine gf_X10_72 B hR (h0.at0 rfl) dX10_pagedNow_16 ?_
    refine lv_aload_n hx hb dX10_pagedNow_19 rfl (lv_at hl 0 rfl) ?_
    refine gf_X10_75 B hR (h0.at0 rfl) dX10_pagedNow_20 ?_
    obtain ⟨M_23, hc_23, h⟩ := bm_el h
    refine iv_X10_402 B hR ((sb_10_7 h0).at0 rfl) hl.1 (mX6_layPagedPlan fu _ (sb_10_7 h0) (sb_10_1 h0) (sb_10_9 h0) (h0.at 228 rfl) hc_23) (Nat.le_of_ble_eq_true rfl) dX10_pagedNow_23 (fun H locs hR => ?_)
    refine lv_aload_n hx hb dX10_pagedNow_26 rfl (lv_at hl 0 rfl) ?_
    refine lv_iconst (v := 1) hx hb dX10_pagedNow_27 (by decide) ?_
    obtain ⟨M_28, eM_28, h⟩ := lt_el h
    refine pz_X10_383 B hR (h0.at0 rfl) (Or.inr rfl) dX10_pagedNow_28 (fun H locs hR => ?_)
    rw [← eM_28] at hR
    exact wX10_pagedNow_j31 B hr hlk h0 h hR hl
def fX10_layAll_j63 (fu : Nat) (L : Lay) (a0 : Nat) (a1 : Nat) (M : Mm) : Option (Int32 × Mm) :=
  bm (fX10_kindsDone fu a0 M) fun M_64 =>
  some ((M_64.1 a1 3), M_64)
set_option maxRecDepth 100000 in
set_option maxHeartbeats 4000000 in
theorem wX10_layAll_j63 {r : Int32} {M' : Mm}   {a0 : Nat} {a1 : Nat} {M : Mm} (B : Bx p s m args c cX10_layAll 3 RX10 E L) (hr : meth.sig.returnType = (some .int)) (hlk : meth.locks = false)  (h0 : At L a0 T10) (h1 : At L a1 (T0 160)) (h : fX10_layAll_j63 fu L a0 a1 M = some (r, M')) (hR : Rx s E L M H locs) (hl : lv_has ls 3 [(0, .ref a0), (1, .ref a1)]) : W p l e (rmD (d + 55)) s m args below meth c H locs 0 0 (MQ below (QcM E L (some (.int r)) M') args s 0 0 E.2.2.2) (F0 m 63 ls []) := by
  have hx := B.1
  have hb := B.2.1
  unfold fX10_layAll_j63 at h
  refine lv_aload_n hx hb dX10_layAll_63 rfl (lv_at hl 0 rfl) ?_
  obtain ⟨M_64, hc_64, h⟩ := bm_el h
  refine iv_X10_144 B hR (h0.at0 rfl) hl.1 (mX10_kindsDone fu _ h0 hc_64) (Nat.le_of_ble_eq_true rfl) dX10_layAll_64 (fun H locs hR => ?_)
  refine lv_aload_n hx hb dX10_layAll_67 rfl (lv_at hl 1 rfl) ?_
  refine gf_X10_169 B hR (h1.at0 rfl) dX10_layAll_68 ?_
  exact r_iretW B hR hr hlk h dX10_layAll_71
def fX10_layAll_b31 (fu : Nat) (L : Lay) (k31 : Int32 → Mm → Option (Int32 × Mm)) (a0 : Nat) (a1 : Nat) (x2 : Int32) (M : Mm) : Option (Int32 × Mm) :=
  bi (fX8_pages fu (a0 + 12) M) fun r_36 =>
  if r_36 ≤ x2 then
    fX10_layAll_j63 fu L a0 a1 M
  else
    if x2 < 0 ∨ 64 ≤ ix x2 then none else
    lt (wI M ((a0 + 12) + 8) (ix x2) (M.1 (a0 + 228) (ix x2))) fun M_56 =>
    lt (x2 + 1) fun x2_57 =>
    k31 x2_57 M_56
set_option maxRecDepth 100000 in
set_option maxHeartbeats 4000000 in
theorem wX10_layAll_b31 {r : Int32} {M' : Mm}   {k31 : Int32 → Mm → Option (Int32 × Mm)} {a0 : Nat} {a1 : Nat} {x2 : Int32} {M : Mm} (B : Bx p s m args c cX10_layAll 3 RX10 E L) (hr : meth.sig.returnType = (some .int)) (hlk : meth.locks = false)  (ih31 : ∀ (x2 : Int32) (M : Mm), k31 x2 M = some (r, M') → ∀ (H : Heap) (locs : List Loc) (ls : Array Slot), Rx s E L M H locs → lv_has ls 3 [(0, .ref a0), (1, .ref a1), (2, .int x2)] → W p l e (rmD (d + 55)) s m args below meth c H locs 0 0 (MQ below (QcM E L (some (.int r)) M') args s 0 0 E.2.2.2) (F0 m 31 ls [])) (h0 : At L a0 T10) (h1 : At L a1 (T0 160)) (h : fX10_layAll_b31 fu L k31 a0 a1 x2 M = some (r, M')) (hR : Rx s E L M H locs) (hl : lv_has ls 3 [(0, .ref a0), (1, .ref a1), (2, .int x2)]) : W p l e (rmD (d + 55)) s m args below meth c H locs 0 0 (MQ below (QcM E L (some (.int r)) M') args s 0 0 E.2.2.2) (F0 m 31 ls []) := by
  have hx := B.1
  have hb := B.2.1
  unfold fX10_layAll_b31 at h
  refine lv_iload_n hx hb dX10_layAll_31 rfl (lv_at hl 2 rfl) ?_
  refine lv_aload_n hx hb dX10_layAll_32 rfl (lv_at hl 0 rfl) ?_
  refine gf_X10_19 B hR (h0.at0 rfl) dX10_layAll_33 ?_
  obtain ⟨r_36, hc_36, h⟩ := bi_el h
  refine iv_X10_189 B hR ((sb_10_1 h0).at0 rfl) hl.1 (mX8_pages fu _ (sb_10_1 h0) hc_36) (Nat.le_of_ble_eq_true rfl) dX10_layAll_36 (fun H locs hR => ?_)
  refine lv_icmp_ge (tgt := 63) hx hb dX10_layAll_39 (by decide) (fun c_39 => ?_) (fun c_39 => ?_)
  · rw [if_pos c_39] at h
    exact wX10_layAll_j63 B hr hlk h0 h1 h hR (lv_sub hl [0, 1] rfl)
  · rw [if_neg c_39] at h
    refine lv_aload_n hx hb dX10_layAll_42 rfl (lv_at hl 0 rfl) ?_
    refine gf_X10_19 B hR (h0.at0 rfl) dX10_layAll_43 ?_
    refine gf_X10_182 B hR ((sb_10_1 h0).at0 rfl) dX10_layAll_46 ?_
    refine lv_iload_n hx hb dX10_layAll_49 rfl (lv_at hl 2 rfl) ?_
    refine lv_aload_n hx hb dX10_layAll_50 rfl (lv_at hl 0 rfl) ?_
    refine gf_X10_75 B hR (h0.at0 rfl) dX10_layAll_51 ?_
    refine lv_iload_n hx hb dX10_layAll_54 rfl (lv_at hl 2 rfl) ?_
    obtain ⟨hi_55, h⟩ := ifn_el h
    refine r_iald B hR (h0.at 228 rfl) hi_55 dX10_layAll_55 ?_
    obtain ⟨M_56, eM_56, h⟩ := lt_el h
    refine r_iast B hR ((sb_10_1 h0).at 8 rfl) hi_55 dX10_layAll_56 (fun H locs hR => ?_)
    rw [← eM_56] at hR
    obtain ⟨x2_57, ex2_57, h⟩ := lt_el h
    refine lv_iinc (v := x2_57) (lv' := [(2, .int x2_57), (0, .ref a0), (1, .ref a1)]) hx hb dX10_layAll_57 hl (k := 2) rfl (by rw [ex2_57]; rfl) (by decide) rfl (fun ls hl => ?_)
    refine lv_goto (tgt := 31) hx hb dX10_layAll_60 (by decide) ?_
    exact ih31 x2_57 M_56 h _ _ _ hR (lv_sub hl [1, 2, 0] rfl)
def fX10_layAll_l31 (fu : Nat) (L : Lay) (a0 : Nat) (a1 : Nat) (x2 : Int32) (M : Mm) : Option (Int32 × Mm) := lp (fun (rec : (Int32 × Mm) → Option (Int32 × Mm)) (s : Int32 × Mm) => fX10_layAll_b31 fu L  (fun x2 M => rec (x2, M)) a0 a1 s.1 s.2) fu (x2, M)
set_option maxRecDepth 100000 in
set_option maxHeartbeats 4000000 in
theorem wX10_layAll_l31 {r : Int32} {M' : Mm}   {a0 : Nat} {a1 : Nat} {x2 : Int32} {M : Mm} (B : Bx p s m args c cX10_layAll 3 RX10 E L) (hr : meth.sig.returnType = (some .int)) (hlk : meth.locks = false)  (h0 : At L a0 T10) (h1 : At L a1 (T0 160)) (h : fX10_layAll_l31 fu L a0 a1 x2 M = some (r, M')) (hR : Rx s E L M H locs) (hl : lv_has ls 3 [(0, .ref a0), (1, .ref a1), (2, .int x2)]) : W p l e (rmD (d + 55)) s m args below meth c H locs 0 0 (MQ below (QcM E L (some (.int r)) M') args s 0 0 E.2.2.2) (F0 m 31 ls []) := by
  refine lp_G (G := fun z : Int32 × Mm => ∀ (H : Heap) (locs : List Loc) (ls : Array Slot), Rx s E L z.2 H locs → lv_has ls 3 [(0, .ref a0), (1, .ref a1), (2, .int z.1)] → W p l e (rmD (d + 55)) s m args below meth c H locs 0 0 (MQ below (QcM E L (some (.int r)) M') args s 0 0 E.2.2.2) (F0 m 31 ls [])) (fun rec ih z h H locs ls hR hl => ?_) fu _ h H locs ls hR hl
  exact wX10_layAll_b31 B hr hlk  (fun x2 M h => ih (x2, M) h) h0 h1 h hR hl
def fX10_layAll (fu : Nat) (L : Lay) (a0 : Nat) (M : Mm) : Option (Int32 × Mm) :=
  bm (fX10_pagedNow fu L a0 M) fun M_1 =>
  if (M_1.1 (a0 + 224) 3) ≤ (M_1.1 (a0 + 12) 1) then
    bm (fX8_putAll fu (a0 + 12) 160 (a0 + 224) M_1) fun M_26 =>
    fX10_layAll_l31 fu L a0 (a0 + 224) 0 M_26
  else
    some ((-1), M_1)
set_option maxRecDepth 100000 in
set_option maxHeartbeats 4000000 in
theorem mX10_layAll {l : Launch} {E : Ge} {L : Lay} (fu d : Nat) {a0 : Nat} {M : Mm} {r : Int32} {M' : Mm}  (h0 : At L a0 T10) (h : fX10_layAll fu L a0 M = some (r, M')) : Ct l E L yX10_layAll cX10_layAll 3 (some .int) (d + 55) [.ref a0] M (some (.int r)) M' := by
  refine Ct.of (by decide) ?_
  intro p e s m below meth c hr hlk B hR
  have B : Bx p s m _ c cX10_layAll 3 RX10 E L := B
  have hx := B.1
  have hb := B.2.1
  have hl := lv_entry ([.ref a0]) (n := 3) (Nat.le_of_ble_eq_true rfl)
  rw [lg_entry_eq]
  generalize (lg_sl ([.ref a0]) ++ List.replicate (3 - (lg_sl ([.ref a0])).length) Slot.unset).toArray = ls at hl ⊢
  have hl : lv_has ls 3 [(0, .ref a0)] := hl
  unfold fX10_layAll at h
  refine lv_aload_n hx hb dX10_layAll_0 rfl (lv_at hl 0 rfl) ?_
  obtain ⟨M_1, hc_1, h⟩ := bm_el h
  refine iv_X10_197 B hR (h0.at0 rfl) hl.1 (mX10_pagedNow fu _ h0 hc_1) (Nat.le_of_ble_eq_true rfl) dX10_layAll_1 (fun H locs hR => ?_)
  refine lv_astore_n (lv' := [(1, .ref (a0 + 224)), (0, .ref a0)]) hx hb dX10_layAll_4 rfl hl (by decide) rfl (fun ls hl => ?_)
  refine lv_aload_n hx hb dX10_layAll_5 rfl (lv_at hl 0 rfl) ?_
  refine gf_X10_169 B hR ((sb_10_9 h0).at0 rfl) dX10_layAll_6 ?_
  refine lv_aload_n hx hb dX10_layAll_9 rfl (lv_at hl 1 rfl) ?_
  refine gf_X10_19 B hR (h0.at0 rfl) dX10_layAll_10 ?_
  refine gf_X10_172 B hR ((sb_10_1 h0).at0 rfl) dX10_layAll_13 ?_
  refine lv_icmp_le (tgt := 21) hx hb dX10_layAll_16 (by decide) (fun c_16 => ?_) (fun c_16 => ?_)
  · rw [if_pos c_16] at h
    refine lv_aload_n hx hb dX10_layAll_21 rfl (lv_at hl 1 rfl) ?_
    refine gf_X10_19 B hR (h0.at0 rfl) dX10_layAll_22 ?_
    refine lv_aload_n hx hb dX10_layAll_25 rfl (lv_at hl 0 rfl) ?_
    obtain ⟨M_26, hc_26, h⟩ := bm_el h
    refine iv_X10_175 B hR ((sb_10_1 h0).at0 rfl) hl.1 (mX8_putAll fu _ (sb_10_1 h0) (sb_10_9 h0) hc_26) (Nat.le_of_ble_eq_true rfl) dX10_layAll_26 (fun H locs hR => ?_)
    refine lv_iconst (v := 0) hx hb dX10_layAll_29 (by decide) ?_
    refine lv_istore_n (lv' := [(2, .int 0), (1, .ref (a0 + 224)), (0, .ref a0)]) hx hb dX10_layAll_30 rfl hl (by decide) rfl (fun ls hl => ?_)
    exact wX10_layAll_l31 B hr hlk h0 (sb_10_9 h0) h hR (lv_sub hl [2, 1, 0] rfl)
  · rw [if_neg c_16] at h
    refine lv_iconst (v := (-1)) hx hb dX10_layAll_19 (by decide) ?_
    exact r_iretW B hR hr hlk h dX10_layAll_20
def fX10_tidy_j124 (fu : Nat) (a0 : Nat) (M : Mm) : Option (Int32 × Mm) :=
  bm (fX10_wantedDone fu a0 M) fun M_125 =>
  some ((M_125.1 (a0 + 12) 3), M_125)
set_option maxRecDepth 100000 in
set_option maxHeartbeats 4000000 in
theorem wX10_tidy_j124 {r : Int32} {M' : Mm}   {a0 : Nat} {M : Mm} (B : Bx p s m args c cX10_tidy 4 RX10 E L) (hr : meth.sig.returnType = (some .int)) (hlk : meth.locks = false)  (h0 : At L a0 T10) (h : fX10_tidy_j124 fu a0 M = some (r, M')) (hR : Rx s E L M H locs) (hl : lv_has ls 4 [(0, .ref a0)]) : W p l e (rmD (d + 5)) s m args below meth c H locs 0 0 (MQ below (QcM E L (some (.int r)) M') args s 0 0 E.2.2.2) (F0 m 124 ls []) := by
  have hx := B.1
  have hb := B.2.1
  unfold fX10_tidy_j124 at h
  refine lv_aload_n hx hb dX10_tidy_124 rfl (lv_at hl 0 rfl) ?_
  obtain ⟨M_125, hc_125, h⟩ := bm_el h
  refine iv_X10_129 B hR (h0.at0 rfl) hl.1 (mX10_wantedDone fu _ h0 hc_125) (Nat.le_of_ble_eq_true rfl) dX10_tidy_125 (fun H locs hR => ?_)
  refine lv_aload_n hx hb dX10_tidy_128 rfl (lv_at hl 0 rfl) ?_
  refine gf_X10_19 B hR (h0.at0 rfl) dX10_tidy_129 ?_
  refine gf_X10_109 B hR ((sb_10_1 h0).at0 rfl) dX10_tidy_132 ?_
  exact r_iretW B hR hr hlk h dX10_tidy_135
def fX10_tidy_j118 (fu : Nat) (k65 : Int32 → Mm → Option (Int32 × Mm)) (a0 : Nat) (a1 : Nat) (x3 : Int32) (M : Mm) : Option (Int32 × Mm) :=
  lt (x3 + 1) fun x3_118 =>
  k65 x3_118 M
set_option maxRecDepth 100000 in
set_option maxHeartbeats 4000000 in
theorem wX10_tidy_j118 {r : Int32} {M' : Mm}  {k65 : Int32 → Mm → Option (Int32 × Mm)} {a0 : Nat} {a1 : Nat} {x3 : Int32} {M : Mm} (B : Bx p s m args c cX10_tidy 4 RX10 E L) (hr : meth.sig.returnType = (some .int)) (hlk : meth.locks = false) (ih65 : ∀ (x3 : Int32) (M : Mm), k65 x3 M = some (r, M') → ∀ (H : Heap) (locs : List Loc) (ls : Array Slot), Rx s E L M H locs → lv_has ls 4 [(0, .ref a0), (1, .ref a1), (3, .int x3)] → W p l e (rmD (d + 5)) s m args below meth c H locs 0 0 (MQ below (QcM E L (some (.int r)) M') args s 0 0 E.2.2.2) (F0 m 65 ls [])) (h0 : At L a0 T10) (h1 : At L a1 T5) (h : fX10_tidy_j118 fu k65 a0 a1 x3 M = some (r, M')) (hR : Rx s E L M H locs) (hl : lv_has ls 4 [(0, .ref a0), (1, .ref a1), (3, .int x3)]) : W p l e (rmD (d + 5)) s m args below meth c H locs 0 0 (MQ below (QcM E L (some (.int r)) M') args s 0 0 E.2.2.2) (F0 m 118 ls []) := by
  have hx := B.1
  have hb := B.2.1
  unfold fX10_tidy_j118 at h
  obtain ⟨x3_118, ex3_118, h⟩ := lt_el h
  refine lv_iinc (v := x3_118) (lv' := [(3, .int x3_118), (0, .ref a0), (1, .ref a1)]) hx hb dX10_tidy_118 hl (k := 2) rfl (by rw [ex3_118]; rfl) (by decide) rfl (fun ls hl => ?_)
  refine lv_goto (tgt := 65) hx hb dX10_tidy_121 (by decide) ?_
  exact ih65 x3_118 M h _ _ _ hR (lv_sub hl [1, 2, 0] rfl)
def fX10_tidy_b65 (fu : Nat) (k65 : Int32 → Mm → Option (Int32 × Mm)) (a0 : Nat) (a1 : Nat) (x3 : Int32) (M : Mm) : Option (Int32 × Mm) :=
  if (M.1 a1 7) ≤ x3 then
    fX10_tidy_j124 fu a0 M
  else
    if x3 < 0 ∨ 26 ≤ ix x3 then none else
    if (M.1 (a1 + 7) (ix x3)) = (M.1 (a0 + 12) 2) then
      fX10_tidy_j118 fu k65 a0 a1 x3 M
    else
      if (x3 + 1) < 0 ∨ 26 ≤ ix (x3 + 1) then none else
      bm (fX8_addSpan fu (a0 + 12) (M.1 (a1 + 6) (ix x3)) ((M.1 (a1 + 6) (ix (x3 + 1))) - 1) (M.1 (a1 + 7) (ix x3)) M) fun M_115 =>
      fX10_tidy_j118 fu k65 a0 a1 x3 M_115
set_option maxRecDepth 100000 in
set_option maxHeartbeats 4000000 in
theorem wX10_tidy_b65 {r : Int32} {M' : Mm}   {k65 : Int32 → Mm → Option (Int32 × Mm)} {a0 : Nat} {a1 : Nat} {x3 : Int32} {M : Mm} (B : Bx p s m args c cX10_tidy 4 RX10 E L) (hr : meth.sig.returnType = (some .int)) (hlk : meth.locks = false)  (ih65 : ∀ (x3 : Int32) (M : Mm), k65 x3 M = some (r, M') → ∀ (H : Heap) (locs : List Loc) (ls : Array Slot), Rx s E L M H locs → lv_has ls 4 [(0, .ref a0), (1, .ref a1), (3, .int x3)] → W p l e (rmD (d + 5)) s m args below meth c H locs 0 0 (MQ below (QcM E L (some (.int r)) M') args s 0 0 E.2.2.2) (F0 m 65 ls [])) (h0 : At L a0 T10) (h1 : At L a1 T5) (h : fX10_tidy_b65 fu k65 a0 a1 x3 M = some (r, M')) (hR : Rx s E L M H locs) (hl : lv_has ls 4 [(0, .ref a0), (1, .ref a1), (3, .int x3)]) : W p l e (rmD (d + 5)) s m args below meth c H locs 0 0 (MQ below (QcM E L (some (.int r)) M') args s 0 0 E.2.2.2) (F0 m 65 ls []) := by
  have hx := B.1
  have hb := B.2.1
  unfold fX10_tidy_b65 at h
  refine lv_iload_n hx hb dX10_tidy_65 rfl (lv_at hl 2 rfl) ?_
  refine lv_aload_n hx hb dX10_tidy_66 rfl (lv_at hl 1 rfl) ?_
  refine gf_X10_200 B hR (h1.at0 rfl) dX10_tidy_67 ?_
  refine lv_icmp_ge (tgt := 124) hx hb dX10_tidy_70 (by decide) (fun c_70 => ?_) (fun c_70 => ?_)
  · rw [if_pos c_70] at h
    exact wX10_tidy_j124 B hr hlk h0 h hR (lv_sub hl [0] rfl)
  · rw [if_neg c_70] at h
    refine lv_aload_n hx hb dX10_tidy_73 rfl (lv_at hl 1 rfl) ?_
    refine gf_X10_203 B hR (h1.at0 rfl) dX10_tidy_74 ?_
    refine lv_iload_n hx hb dX10_tidy_77 rfl (lv_at hl 2 rfl) ?_
    obtain ⟨hi_78, h⟩ := ifn_el h
    refine r_iald B hR (h1.at 7 rfl) hi_78 dX10_tidy_78 ?_
    refine lv_aload_n hx hb dX10_tidy_79 rfl (lv_at hl 0 rfl) ?_
    refine gf_X10_19 B hR (h0.at0 rfl) dX10_tidy_80 ?_
    refine gf_X10_135 B hR ((sb_10_1 h0).at0 rfl) dX10_tidy_83 ?_
    refine lv_icmp_eq (tgt := 118) hx hb dX10_tidy_86 (by decide) (fun c_86 => ?_) (fun c_86 => ?_)
    · rw [if_pos c_86] at h
      exact wX10_tidy_j118 B hr hlk ih65 h0 h1 h hR hl
    · rw [if_neg c_86] at h
      refine lv_aload_n hx hb dX10_tidy_89 rfl (lv_at hl 0 rfl) ?_
      refine gf_X10_19 B hR (h0.at0 rfl) dX10_tidy_90 ?_
      refine lv_aload_n hx hb dX10_tidy_93 rfl (lv_at hl 1 rfl) ?_
      refine gf_X10_206 B hR (h1.at0 rfl) dX10_tidy_94 ?_
      refine lv_iload_n hx hb dX10_tidy_97 rfl (lv_at hl 2 rfl) ?_
      refine r_iald B hR (h1.at 6 rfl) hi_78 dX10_tidy_98 ?_
      refine lv_aload_n hx hb dX10_tidy_99 rfl (lv_at hl 1 rfl) ?_
      refine gf_X10_206 B hR (h1.at0 rfl) dX10_tidy_100 ?_
      refine lv_iload_n hx hb dX10_tidy_103 rfl (lv_at hl 2 rfl) ?_
      refine lv_iconst (v := 1) hx hb dX10_tidy_104 (by decide) ?_
      refine lv_iadd hx hb dX10_tidy_105 ?_
      obtain ⟨hi_106, h⟩ := ifn_el h
      refine r_iald B hR (h1.at 6 rfl) hi_106 dX10_tidy_106 ?_
      refine lv_iconst (v := 1) hx hb dX10_tidy_107 (by decide) ?_
      refine lv_isub hx hb dX10_tidy_108 ?_
      refine lv_aload_n hx hb dX10_tidy_109 rfl (lv_at hl 1 rfl) ?_
      refine gf_X10_203 B hR (h1.at0 rfl) dX10_tidy_110 ?_
      refine lv_iload_n hx hb dX10_tidy_113 rfl (lv_at hl 2 rfl) ?_
      refine r_iald B hR (h1.at 7 rfl) hi_78 dX10_tidy_114 ?_
      obtain ⟨M_115, hc_115, h⟩ := bm_el h
      refine iv_X10_125 B hR ((sb_10_1 h0).at0 rfl) hl.1 (mX8_addSpan fu _ (sb_10_1 h0) hc_115) (Nat.le_of_ble_eq_true rfl) dX10_tidy_115 (fun H locs hR => ?_)
      exact wX10_tidy_j118 B hr hlk ih65 h0 h1 h hR hl
def fX10_tidy_l65 (fu : Nat) (a0 : Nat) (a1 : Nat) (x3 : Int32) (M : Mm) : Option (Int32 × Mm) := lp (fun (rec : (Int32 × Mm) → Option (Int32 × Mm)) (s : Int32 × Mm) => fX10_tidy_b65 fu  (fun x3 M => rec (x3, M)) a0 a1 s.1 s.2) fu (x3, M)
set_option maxRecDepth 100000 in
set_option maxHeartbeats 4000000 in
theorem wX10_tidy_l65 {r : Int32} {M' : Mm}   {a0 : Nat} {a1 : Nat} {x3 : Int32} {M : Mm} (B : Bx p s m args c cX10_tidy 4 RX10 E L) (hr : meth.sig.returnType = (some .int)) (hlk : meth.locks = false)  (h0 : At L a0 T10) (h1 : At L a1 T5) (h : fX10_tidy_l65 fu a0 a1 x3 M = some (r, M')) (hR : Rx s E L M H locs) (hl : lv_has ls 4 [(0, .ref a0), (1, .ref a1), (3, .int x3)]) : W p l e (rmD (d + 5)) s m args below meth c H locs 0 0 (MQ below (QcM E L (some (.int r)) M') args s 0 0 E.2.2.2) (F0 m 65 ls []) := by
  refine lp_G (G := fun z : Int32 × Mm => ∀ (H : Heap) (locs : List Loc) (ls : Array Slot), Rx s E L z.2 H locs → lv_has ls 4 [(0, .ref a0), (1, .ref a1), (3, .int z.1)] → W p l e (rmD (d + 5)) s m args below meth c H locs 0 0 (MQ below (QcM E L (some (.int r)) M') args s 0 0 E.2.2.2) (F0 m 65 ls [])) (fun rec ih z h H locs ls hR hl => ?_) fu _ h H locs ls hR hl
  exact wX10_tidy_b65 B hr hlk  (fun x3 M h => ih (x3, M) h) h0 h1 h hR hl
def fX10_tidy_j47 (fu : Nat) (a0 : Nat) (a1 : Nat) (x2 : Int32) (M : Mm) : Option (Int32 × Mm) :=
  if x2 ≤ 12 then
    lt (wI M (a0 + 12) 3 0) fun M_60 =>
    fX10_tidy_l65 fu a0 a1 0 M_60
  else
    some ((-1), M)
set_option maxRecDepth 100000 in
set_option maxHeartbeats 4000000 in
theorem wX10_tidy_j47 {r : Int32} {M' : Mm}   {a0 : Nat} {a1 : Nat} {x2 : Int32} {M : Mm} (B : Bx p s m args c cX10_tidy 4 RX10 E L) (hr : meth.sig.returnType = (some .int)) (hlk : meth.locks = false)  (h0 : At L a0 T10) (h1 : At L a1 T5) (h : fX10_tidy_j47 fu a0 a1 x2 M = some (r, M')) (hR : Rx s E L M H locs) (hl : lv_has ls 4 [(0, .ref a0), (1, .ref a1), (2, .int x2)]) : W p l e (rmD (d + 5)) s m args below meth c H locs 0 0 (MQ below (QcM E L (some (.int r)) M') args s 0 0 E.2.2.2) (F0 m 47 ls []) := by
  have hx := B.1
  have hb := B.2.1
  unfold fX10_tidy_j47 at h
  refine lv_iload_n hx hb dX10_tidy_47 rfl (lv_at hl 2 rfl) ?_
  refine lv_bipush (v := 12) hx hb dX10_tidy_48 (by decide) ?_
  refine lv_icmp_le (tgt := 55) hx hb dX10_tidy_50 (by decide) (fun c_50 => ?_) (fun c_50 => ?_)
  · rw [if_pos c_50] at h
    refine lv_aload_n hx hb dX10_tidy_55 rfl (lv_at hl 0 rfl) ?_
    refine gf_X10_19 B hR (h0.at0 rfl) dX10_tidy_56 ?_
    refine lv_iconst (v := 0) hx hb dX10_tidy_59 (by decide) ?_
    obtain ⟨M_60, eM_60, h⟩ := lt_el h
    refine pf_X10_109 B hR ((sb_10_1 h0).at0 rfl) dX10_tidy_60 (fun H locs hR => ?_)
    rw [← eM_60] at hR
    refine lv_iconst (v := 0) hx hb dX10_tidy_63 (by decide) ?_
    refine lv_istore_n (lv' := [(3, .int 0), (0, .ref a0), (1, .ref a1), (2, .int x2)]) hx hb dX10_tidy_64 rfl hl (by decide) rfl (fun ls hl => ?_)
    exact wX10_tidy_l65 B hr hlk h0 h1 h hR (lv_sub hl [1, 2, 0] rfl)
  · rw [if_neg c_50] at h
    refine lv_iconst (v := (-1)) hx hb dX10_tidy_53 (by decide) ?_
    exact r_iretW B hR hr hlk h dX10_tidy_54
def fX10_tidy_j39 (fu : Nat) (k9 : Int32 → Int32 → Option (Int32 × Mm)) (a0 : Nat) (a1 : Nat) (x3 : Int32) (t0 : Int32) (t1 : Int32) (M : Mm) : Option (Int32 × Mm) :=
  lt ((t0 + t1)) fun x2_40 =>
  lt (x3 + 1) fun x3_41 =>
  k9 x2_40 x3_41
set_option maxRecDepth 100000 in
set_option maxHeartbeats 4000000 in
theorem wX10_tidy_j39 {r : Int32} {M' : Mm}  {k9 : Int32 → Int32 → Option (Int32 × Mm)} {a0 : Nat} {a1 : Nat} {x3 : Int32} {t0 : Int32} {t1 : Int32} {M : Mm} (B : Bx p s m args c cX10_tidy 4 RX10 E L) (hr : meth.sig.returnType = (some .int)) (hlk : meth.locks = false) (ih9 : ∀ (x2 : Int32) (x3 : Int32), k9 x2 x3 = some (r, M') → ∀ (H : Heap) (locs : List Loc) (ls : Array Slot), Rx s E L M H locs → lv_has ls 4 [(0, .ref a0), (1, .ref a1), (2, .int x2), (3, .int x3)] → W p l e (rmD (d + 5)) s m args below meth c H locs 0 0 (MQ below (QcM E L (some (.int r)) M') args s 0 0 E.2.2.2) (F0 m 9 ls [])) (h0 : At L a0 T10) (h1 : At L a1 T5) (h : fX10_tidy_j39 fu k9 a0 a1 x3 t0 t1 M = some (r, M')) (hR : Rx s E L M H locs) (hl : lv_has ls 4 [(0, .ref a0), (1, .ref a1), (3, .int x3)]) : W p l e (rmD (d + 5)) s m args below meth c H locs 0 0 (MQ below (QcM E L (some (.int r)) M') args s 0 0 E.2.2.2) (F0 m 39 ls [.int t1, .int t0]) := by
  have hx := B.1
  have hb := B.2.1
  unfold fX10_tidy_j39 at h
  refine lv_iadd hx hb dX10_tidy_39 ?_
  obtain ⟨x2_40, ex2_40, h⟩ := lt_el h
  refine r_nmI ex2_40 ?_
  refine lv_istore_n (lv' := [(2, .int x2_40), (0, .ref a0), (1, .ref a1), (3, .int x3)]) hx hb dX10_tidy_40 rfl hl (by decide) rfl (fun ls hl => ?_)
  obtain ⟨x3_41, ex3_41, h⟩ := lt_el h
  refine lv_iinc (v := x3_41) (lv' := [(3, .int x3_41), (2, .int x2_40), (0, .ref a0), (1, .ref a1)]) hx hb dX10_tidy_41 hl (k := 3) rfl (by rw [ex3_41]; rfl) (by decide) rfl (fun ls hl => ?_)
  refine lv_goto (tgt := 9) hx hb dX10_tidy_44 (by decide) ?_
  exact ih9 x2_40 x3_41 h _ _ _ hR (lv_sub hl [2, 3, 1, 0] rfl)
def fX10_tidy_b9 (fu : Nat) (k9 : Int32 → Int32 → Option (Int32 × Mm)) (a0 : Nat) (a1 : Nat) (x2 : Int32) (x3 : Int32) (M : Mm) : Option (Int32 × Mm) :=
  if (M.1 a1 7) ≤ x3 then
    fX10_tidy_j47 fu a0 a1 x2 M
  else
    if x3 < 0 ∨ 26 ≤ ix x3 then none else
    if (M.1 (a1 + 7) (ix x3)) = (M.1 (a0 + 12) 2) then
      fX10_tidy_j39 fu k9 a0 a1 x3 x2 0 M
    else
      fX10_tidy_j39 fu k9 a0 a1 x3 x2 1 M
set_option maxRecDepth 100000 in
set_option maxHeartbeats 4000000 in
theorem wX10_tidy_b9 {r : Int32} {M' : Mm}   {k9 : Int32 → Int32 → Option (Int32 × Mm)} {a0 : Nat} {a1 : Nat} {x2 : Int32} {x3 : Int32} {M : Mm} (B : Bx p s m args c cX10_tidy 4 RX10 E L) (hr : meth.sig.returnType = (some .int)) (hlk : meth.locks = false)  (ih9 : ∀ (x2 : Int32) (x3 : Int32), k9 x2 x3 = some (r, M') → ∀ (H : Heap) (locs : List Loc) (ls : Array Slot), Rx s E L M H locs → lv_has ls 4 [(0, .ref a0), (1, .ref a1), (2, .int x2), (3, .int x3)] → W p l e (rmD (d + 5)) s m args below meth c H locs 0 0 (MQ below (QcM E L (some (.int r)) M') args s 0 0 E.2.2.2) (F0 m 9 ls [])) (h0 : At L a0 T10) (h1 : At L a1 T5) (h : fX10_tidy_b9 fu k9 a0 a1 x2 x3 M = some (r, M')) (hR : Rx s E L M H locs) (hl : lv_has ls 4 [(0, .ref a0), (1, .ref a1), (2, .int x2), (3, .int x3)]) : W p l e (rmD (d + 5)) s m args below meth c H locs 0 0 (MQ below (QcM E L (some (.int r)) M') args s 0 0 E.2.2.2) (F0 m 9 ls []) := by
  have hx := B.1
  have hb := B.2.1
  unfold fX10_tidy_b9 at h
  refine lv_iload_n hx hb dX10_tidy_9 rfl (lv_at hl 3 rfl) ?_
  refine lv_aload_n hx hb dX10_tidy_10 rfl (lv_at hl 1 rfl) ?_
  refine gf_X10_200 B hR (h1.at0 rfl) dX10_tidy_11 ?_
  refine lv_icmp_ge (tgt := 47) hx hb dX10_tidy_14 (by decide) (fun c_14 => ?_) (fun c_14 => ?_)
  · rw [if_pos c_14] at h
    exact wX10_tidy_j47 B hr hlk h0 h1 h hR (lv_sub hl [0, 1, 2] rfl)
  · rw [if_neg c_14] at h
    refine lv_iload_n hx hb dX10_tidy_17 rfl (lv_at hl 2 rfl) ?_
    refine lv_aload_n hx hb dX10_tidy_18 rfl (lv_at hl 1 rfl) ?_
    refine gf_X10_203 B hR (h1.at0 rfl) dX10_tidy_19 ?_
    refine lv_iload_n hx hb dX10_tidy_22 rfl (lv_at hl 3 rfl) ?_
    obtain ⟨hi_23, h⟩ := ifn_el h
    refine r_iald B hR (h1.at 7 rfl) hi_23 dX10_tidy_23 ?_
    refine lv_aload_n hx hb dX10_tidy_24 rfl (lv_at hl 0 rfl) ?_
    refine gf_X10_19 B hR (h0.at0 rfl) dX10_tidy_25 ?_
    refine gf_X10_135 B hR ((sb_10_1 h0).at0 rfl) dX10_tidy_28 ?_
    refine lv_icmp_eq (tgt := 38) hx hb dX10_tidy_31 (by decide) (fun c_31 => ?_) (fun c_31 => ?_)
    · rw [if_pos c_31] at h
      refine lv_iconst (v := 0) hx hb dX10_tidy_38 (by decide) ?_
      exact wX10_tidy_j39 B hr hlk ih9 h0 h1 h hR (lv_sub hl [0, 1, 3] rfl)
    · rw [if_neg c_31] at h
      refine lv_iconst (v := 1) hx hb dX10_tidy_34 (by decide) ?_
      refine lv_goto (tgt := 39) hx hb dX10_tidy_35 (by decide) ?_
      exact wX10_tidy_j39 B hr hlk ih9 h0 h1 h hR (lv_sub hl [0, 1, 3] rfl)
def fX10_tidy_l9 (fu : Nat) (a0 : Nat) (a1 : Nat) (M : Mm) (x2 : Int32) (x3 : Int32) : Option (Int32 × Mm) := lp (fun (rec : (Int32 × Int32) → Option (Int32 × Mm)) (s : Int32 × Int32) => fX10_tidy_b9 fu  (fun x2 x3 => rec (x2, x3)) a0 a1 s.1 s.2 M) fu (x2, x3)
set_option maxRecDepth 100000 in
set_option maxHeartbeats 4000000 in
theorem wX10_tidy_l9 {r : Int32} {M' : Mm}   {a0 : Nat} {a1 : Nat} {x2 : Int32} {x3 : Int32} {M : Mm} (B : Bx p s m args c cX10_tidy 4 RX10 E L) (hr : meth.sig.returnType = (some .int)) (hlk : meth.locks = false)  (h0 : At L a0 T10) (h1 : At L a1 T5) (h : fX10_tidy_l9 fu a0 a1 M x2 x3 = some (r, M')) (hR : Rx s E L M H locs) (hl : lv_has ls 4 [(0, .ref a0), (1, .ref a1), (2, .int x2), (3, .int x3)]) : W p l e (rmD (d + 5)) s m args below meth c H locs 0 0 (MQ below (QcM E L (some (.int r)) M') args s 0 0 E.2.2.2) (F0 m 9 ls []) := by
  refine lp_G (G := fun z : Int32 × Int32 => ∀ (H : Heap) (locs : List Loc) (ls : Array Slot), Rx s E L M H locs → lv_has ls 4 [(0, .ref a0), (1, .ref a1), (2, .int z.1), (3, .int z.2)] → W p l e (rmD (d + 5)) s m args below meth c H locs 0 0 (MQ below (QcM E L (some (.int r)) M') args s 0 0 E.2.2.2) (F0 m 9 ls [])) (fun rec ih z h H locs ls hR hl => ?_) fu _ h H locs ls hR hl
  exact wX10_tidy_b9 B hr hlk  (fun x2 x3 h => ih (x2, x3) h) h0 h1 h hR hl
def fX10_tidy (fu : Nat) (a0 : Nat) (M : Mm) : Option (Int32 × Mm) :=
  bm (fX10_piecesNow fu a0 M) fun M_1 =>
  fX10_tidy_l9 fu a0 (a0 + 198) M_1 0 0
set_option maxRecDepth 100000 in
set_option maxHeartbeats 4000000 in
theorem mX10_tidy {l : Launch} {E : Ge} {L : Lay} (fu d : Nat) {a0 : Nat} {M : Mm} {r : Int32} {M' : Mm}  (h0 : At L a0 T10) (h : fX10_tidy fu a0 M = some (r, M')) : Ct l E L yX10_tidy cX10_tidy 4 (some .int) (d + 5) [.ref a0] M (some (.int r)) M' := by
  refine Ct.of (by decide) ?_
  intro p e s m below meth c hr hlk B hR
  have B : Bx p s m _ c cX10_tidy 4 RX10 E L := B
  have hx := B.1
  have hb := B.2.1
  have hl := lv_entry ([.ref a0]) (n := 4) (Nat.le_of_ble_eq_true rfl)
  rw [lg_entry_eq]
  generalize (lg_sl ([.ref a0]) ++ List.replicate (4 - (lg_sl ([.ref a0])).length) Slot.unset).toArray = ls at hl ⊢
  have hl : lv_has ls 4 [(0, .ref a0)] := hl
  unfold fX10_tidy at h
  refine lv_aload_n hx hb dX10_tidy_0 rfl (lv_at hl 0 rfl) ?_
  obtain ⟨M_1, hc_1, h⟩ := bm_el h
  refine iv_X10_185 B hR (h0.at0 rfl) hl.1 (mX10_piecesNow fu _ h0 hc_1) (Nat.le_of_ble_eq_true rfl) dX10_tidy_1 (fun H locs hR => ?_)
  refine lv_astore_n (lv' := [(1, .ref (a0 + 198)), (0, .ref a0)]) hx hb dX10_tidy_4 rfl hl (by decide) rfl (fun ls hl => ?_)
  refine lv_iconst (v := 0) hx hb dX10_tidy_5 (by decide) ?_
  refine lv_istore_n (lv' := [(2, .int 0), (1, .ref (a0 + 198)), (0, .ref a0)]) hx hb dX10_tidy_6 rfl hl (by decide) rfl (fun ls hl => ?_)
  refine lv_iconst (v := 0) hx hb dX10_tidy_7 (by decide) ?_
  refine lv_istore_n (lv' := [(3, .int 0), (2, .int 0), (1, .ref (a0 + 198)), (0, .ref a0)]) hx hb dX10_tidy_8 rfl hl (by decide) rfl (fun ls hl => ?_)
  exact wX10_tidy_l9 B hr hlk h0 (sb_10_6 h0) h hR (lv_sub hl [3, 2, 1, 0] rfl)
def fX10_undo (fu : Nat) (a0 : Nat) (M : Mm) : Option (Int32 × Mm) :=
  bw (fX4_goBack fu (a0 + 21) (a0 + 12) M) fun r_8 M_8 =>
  if r_8 = 0 then
    some (0, M_8)
  else
    bm (fX10_forgetAll fu a0 M_8) fun M_17 =>
    some (1, M_17)
set_option maxRecDepth 100000 in
set_option maxHeartbeats 4000000 in
theorem mX10_undo {l : Launch} {E : Ge} {L : Lay} (fu d : Nat) {a0 : Nat} {M : Mm} {r : Int32} {M' : Mm}  (h0 : At L a0 T10) (h : fX10_undo fu a0 M = some (r, M')) : Ct l E L yX10_undo cX10_undo 1 (some .boolean) (d + 3) [.ref a0] M (some (.int r)) M' := by
  refine Ct.of (by decide) ?_
  intro p e s m below meth c hr hlk B hR
  have B : Bx p s m _ c cX10_undo 1 RX10 E L := B
  have hx := B.1
  have hb := B.2.1
  have hl := lv_entry ([.ref a0]) (n := 1) (Nat.le_of_ble_eq_true rfl)
  rw [lg_entry_eq]
  generalize (lg_sl ([.ref a0]) ++ List.replicate (1 - (lg_sl ([.ref a0])).length) Slot.unset).toArray = ls at hl ⊢
  have hl : lv_has ls 1 [(0, .ref a0)] := hl
  unfold fX10_undo at h
  refine lv_aload_n hx hb dX10_undo_0 rfl (lv_at hl 0 rfl) ?_
  refine gf_X10_26 B hR (h0.at0 rfl) dX10_undo_1 ?_
  refine lv_aload_n hx hb dX10_undo_4 rfl (lv_at hl 0 rfl) ?_
  refine gf_X10_19 B hR (h0.at0 rfl) dX10_undo_5 ?_
  obtain ⟨r_8, M_8, hc_8, h⟩ := bw_el h
  refine iv_X10_209 B hR ((sb_10_2 h0).at0 rfl) hl.1 (mX4_goBack fu _ (sb_10_2 h0) (sb_10_1 h0) hc_8) (Nat.le_of_ble_eq_true rfl) dX10_undo_8 (fun H locs hR => ?_)
  refine lv_if_ne (tgt := 16) hx hb dX10_undo_11 (by decide) (fun c_11 => ?_) (fun c_11 => ?_)
  · rw [if_neg c_11] at h
    refine lv_aload_n hx hb dX10_undo_16 rfl (lv_at hl 0 rfl) ?_
    obtain ⟨M_17, hc_17, h⟩ := bm_el h
    refine iv_X10_213 B hR (h0.at0 rfl) hl.1 (mX10_forgetAll fu _ h0 hc_17) (Nat.le_of_ble_eq_true rfl) dX10_undo_17 (fun H locs hR => ?_)
    refine lv_iconst (v := 1) hx hb dX10_undo_20 (by decide) ?_
    exact r_zretW B hR hr hlk (Or.inr rfl) h dX10_undo_21
  · rw [if_pos c_11] at h
    refine lv_iconst (v := 0) hx hb dX10_undo_14 (by decide) ?_
    exact r_zretW B hR hr hlk (Or.inl rfl) h dX10_undo_15
def fX10_redo (fu : Nat) (a0 : Nat) (M : Mm) : Option (Int32 × Mm) :=
  bw (fX4_goOn fu (a0 + 21) (a0 + 12) M) fun r_8 M_8 =>
  if r_8 = 0 then
    some (0, M_8)
  else
    bm (fX10_forgetAll fu a0 M_8) fun M_17 =>
    some (1, M_17)
set_option maxRecDepth 100000 in
set_option maxHeartbeats 4000000 in
theorem mX10_redo {l : Launch} {E : Ge} {L : Lay} (fu d : Nat) {a0 : Nat} {M : Mm} {r : Int32} {M' : Mm}  (h0 : At L a0 T10) (h : fX10_redo fu a0 M = some (r, M')) : Ct l E L yX10_redo cX10_redo 1 (some .boolean) (d + 3) [.ref a0] M (some (.int r)) M' := by
  refine Ct.of (by decide) ?_
  intro p e s m below meth c hr hlk B hR
  have B : Bx p s m _ c cX10_redo 1 RX10 E L := B
  have hx := B.1
  have hb := B.2.1
  have hl := lv_entry ([.ref a0]) (n := 1) (Nat.le_of_ble_eq_true rfl)
  rw [lg_entry_eq]
  generalize (lg_sl ([.ref a0]) ++ List.replicate (1 - (lg_sl ([.ref a0])).length) Slot.unset).toArray = ls at hl ⊢
  have hl : lv_has ls 1 [(0, .ref a0)] := hl
  unfold fX10_redo at h
  refine lv_aload_n hx hb dX10_redo_0 rfl (lv_at hl 0 rfl) ?_
  refine gf_X10_26 B hR (h0.at0 rfl) dX10_redo_1 ?_
  refine lv_aload_n hx hb dX10_redo_4 rfl (lv_at hl 0 rfl) ?_
  refine gf_X10_19 B hR (h0.at0 rfl) dX10_redo_5 ?_
  obtain ⟨r_8, M_8, hc_8, h⟩ := bw_el h
  refine iv_X10_216 B hR ((sb_10_2 h0).at0 rfl) hl.1 (mX4_goOn fu _ (sb_10_2 h0) (sb_10_1 h0) hc_8) (Nat.le_of_ble_eq_true rfl) dX10_redo_8 (fun H locs hR => ?_)
  refine lv_if_ne (tgt := 16) hx hb dX10_redo_11 (by decide) (fun c_11 => ?_) (fun c_11 => ?_)
  · rw [if_neg c_11] at h
    refine lv_aload_n hx hb dX10_redo_16 rfl (lv_at hl 0 rfl) ?_
    obtain ⟨M_17, hc_17, h⟩ := bm_el h
    refine iv_X10_213 B hR (h0.at0 rfl) hl.1 (mX10_forgetAll fu _ h0 hc_17) (Nat.le_of_ble_eq_true rfl) dX10_redo_17 (fun H locs hR => ?_)
    refine lv_iconst (v := 1) hx hb dX10_redo_20 (by decide) ?_
    exact r_zretW B hR hr hlk (Or.inr rfl) h dX10_redo_21
  · rw [if_pos c_11] at h
    refine lv_iconst (v := 0) hx hb dX10_redo_14 (by decide) ?_
    exact r_zretW B hR hr hlk (Or.inl rfl) h dX10_redo_15
def fX10_told_j15 (fu : Nat) (M : Mm) : Option Int32 :=
  some (-1)
set_option maxRecDepth 100000 in
set_option maxHeartbeats 4000000 in
theorem wX10_told_j15 {r : Int32}    {M : Mm} (B : Bx p s m args c cX10_told 3 RX10 E L) (hr : meth.sig.returnType = (some .int)) (hlk : meth.locks = false)   (h : fX10_told_j15 fu M = some r) (hR : Rx s E L M H locs) (hl : lv_has ls 3 []) : W p l e (rmD (d + 1)) s m args below meth c H locs 0 0 (MQ below (QcM E L (some (.int r)) M) args s 0 0 E.2.2.2) (F0 m 15 ls []) := by
  have hx := B.1
  have hb := B.2.1
  unfold fX10_told_j15 at h
  refine lv_iconst (v := (-1)) hx hb dX10_told_15 (by decide) ?_
  exact r_iretP B hR hr hlk h dX10_told_16
def fX10_told (fu : Nat) (a0 : Nat) (x1 : Int32) (x2 : Int32) (M : Mm) : Option Int32 :=
  if x1 < 0 then
    fX10_told_j15 fu M
  else
    if x1 < (M.1 (a0 + 12) 3) then
      if x1 < 0 ∨ 12 ≤ ix x1 then none else
      bi (fX10_pick fu x2 (M.1 ((a0 + 12) + 1) (ix x1)) (M.1 ((a0 + 12) + 2) (ix x1)) (M.1 ((a0 + 12) + 3) (ix x1))) fun r_45 =>
      some r_45
    else
      fX10_told_j15 fu M
set_option maxRecDepth 100000 in
set_option maxHeartbeats 4000000 in
theorem mX10_told {l : Launch} {E : Ge} {L : Lay} (fu d : Nat) {a0 : Nat} {x1 : Int32} {x2 : Int32} {M : Mm} {r : Int32}  (h0 : At L a0 T10) (h : fX10_told fu a0 x1 x2 M = some r) : Ct l E L yX10_told cX10_told 3 (some .int) (d + 1) [.ref a0, .int x1, .int x2] M (some (.int r)) M := by
  refine Ct.of (by decide) ?_
  intro p e s m below meth c hr hlk B hR
  have B : Bx p s m _ c cX10_told 3 RX10 E L := B
  have hx := B.1
  have hb := B.2.1
  have hl := lv_entry ([.ref a0, .int x1, .int x2]) (n := 3) (Nat.le_of_ble_eq_true rfl)
  rw [lg_entry_eq]
  generalize (lg_sl ([.ref a0, .int x1, .int x2]) ++ List.replicate (3 - (lg_sl ([.ref a0, .int x1, .int x2])).length) Slot.unset).toArray = ls at hl ⊢
  have hl : lv_has ls 3 [(0, .ref a0), (1, .int x1), (2, .int x2)] := hl
  unfold fX10_told at h
  refine lv_iload_n hx hb dX10_told_0 rfl (lv_at hl 1 rfl) ?_
  refine lv_if_lt (tgt := 15) hx hb dX10_told_1 (by decide) (fun c_1 => ?_) (fun c_1 => ?_)
  · rw [if_pos c_1] at h
    exact wX10_told_j15 B hr hlk  h hR (lv_sub hl [] rfl)
  · rw [if_neg c_1] at h
    refine lv_iload_n hx hb dX10_told_4 rfl (lv_at hl 1 rfl) ?_
    refine lv_aload_n hx hb dX10_told_5 rfl (lv_at hl 0 rfl) ?_
    refine gf_X10_19 B hR (h0.at0 rfl) dX10_told_6 ?_
    refine gf_X10_109 B hR ((sb_10_1 h0).at0 rfl) dX10_told_9 ?_
    refine lv_icmp_lt (tgt := 17) hx hb dX10_told_12 (by decide) (fun c_12 => ?_) (fun c_12 => ?_)
    · rw [if_pos c_12] at h
      refine lv_iload_n hx hb dX10_told_17 rfl (lv_at hl 2 rfl) ?_
      refine lv_aload_n hx hb dX10_told_18 rfl (lv_at hl 0 rfl) ?_
      refine gf_X10_19 B hR (h0.at0 rfl) dX10_told_19 ?_
      refine gf_X10_219 B hR ((sb_10_1 h0).at0 rfl) dX10_told_22 ?_
      refine lv_iload_n hx hb dX10_told_25 rfl (lv_at hl 1 rfl) ?_
      obtain ⟨hi_26, h⟩ := ifn_el h
      refine r_iald B hR ((sb_10_1 h0).at 1 rfl) hi_26 dX10_told_26 ?_
      refine lv_aload_n hx hb dX10_told_27 rfl (lv_at hl 0 rfl) ?_
      refine gf_X10_19 B hR (h0.at0 rfl) dX10_told_28 ?_
      refine gf_X10_222 B hR ((sb_10_1 h0).at0 rfl) dX10_told_31 ?_
      refine lv_iload_n hx hb dX10_told_34 rfl (lv_at hl 1 rfl) ?_
      refine r_iald B hR ((sb_10_1 h0).at 2 rfl) hi_26 dX10_told_35 ?_
      refine lv_aload_n hx hb dX10_told_36 rfl (lv_at hl 0 rfl) ?_
      refine gf_X10_19 B hR (h0.at0 rfl) dX10_told_37 ?_
      refine gf_X10_225 B hR ((sb_10_1 h0).at0 rfl) dX10_told_40 ?_
      refine lv_iload_n hx hb dX10_told_43 rfl (lv_at hl 1 rfl) ?_
      refine r_iald B hR ((sb_10_1 h0).at 3 rfl) hi_26 dX10_told_44 ?_
      obtain ⟨r_45, hc_45, h⟩ := bi_el h
      refine is_X10_228 B hR hl.1 (mX10_pick fu _  hc_45) (Nat.le_of_ble_eq_true rfl) dX10_told_45 (fun H locs hR => ?_)
      exact r_iretP B hR hr hlk h dX10_told_48
    · rw [if_neg c_12] at h
      exact wX10_told_j15 B hr hlk  h hR (lv_sub hl [] rfl)
def fX10_register (fu : Nat) (a0 : Nat) (x1 : Int32) (x2 : Int32) (M : Mm) : Option Int32 :=
  bi (fX8_isSet fu (a0 + 12) x1 M) fun r_5 =>
  if r_5 = 0 then
    some (-1)
  else
    if x1 < 0 ∨ 10 ≤ ix x1 then none else
    bi (fX10_pick fu x2 (M.1 ((a0 + 12) + 5) (ix x1)) (M.1 ((a0 + 12) + 6) (ix x1)) (M.1 ((a0 + 12) + 7) (ix x1))) fun r_41 =>
    some r_41
set_option maxRecDepth 100000 in
set_option maxHeartbeats 4000000 in
theorem mX10_register {l : Launch} {E : Ge} {L : Lay} (fu d : Nat) {a0 : Nat} {x1 : Int32} {x2 : Int32} {M : Mm} {r : Int32}  (h0 : At L a0 T10) (h : fX10_register fu a0 x1 x2 M = some r) : Ct l E L yX10_register cX10_register 3 (some .int) (d + 2) [.ref a0, .int x1, .int x2] M (some (.int r)) M := by
  refine Ct.of (by decide) ?_
  intro p e s m below meth c hr hlk B hR
  have B : Bx p s m _ c cX10_register 3 RX10 E L := B
  have hx := B.1
  have hb := B.2.1
  have hl := lv_entry ([.ref a0, .int x1, .int x2]) (n := 3) (Nat.le_of_ble_eq_true rfl)
  rw [lg_entry_eq]
  generalize (lg_sl ([.ref a0, .int x1, .int x2]) ++ List.replicate (3 - (lg_sl ([.ref a0, .int x1, .int x2])).length) Slot.unset).toArray = ls at hl ⊢
  have hl : lv_has ls 3 [(0, .ref a0), (1, .int x1), (2, .int x2)] := hl
  unfold fX10_register at h
  refine lv_aload_n hx hb dX10_register_0 rfl (lv_at hl 0 rfl) ?_
  refine gf_X10_19 B hR (h0.at0 rfl) dX10_register_1 ?_
  refine lv_iload_n hx hb dX10_register_4 rfl (lv_at hl 1 rfl) ?_
  obtain ⟨r_5, hc_5, h⟩ := bi_el h
  refine iv_X10_162 B hR ((sb_10_1 h0).at0 rfl) hl.1 (mX8_isSet fu _ (sb_10_1 h0) hc_5) (Nat.le_of_ble_eq_true rfl) dX10_register_5 (fun H locs hR => ?_)
  refine lv_if_ne (tgt := 13) hx hb dX10_register_8 (by decide) (fun c_8 => ?_) (fun c_8 => ?_)
  · rw [if_neg c_8] at h
    refine lv_iload_n hx hb dX10_register_13 rfl (lv_at hl 2 rfl) ?_
    refine lv_aload_n hx hb dX10_register_14 rfl (lv_at hl 0 rfl) ?_
    refine gf_X10_19 B hR (h0.at0 rfl) dX10_register_15 ?_
    refine gf_X10_232 B hR ((sb_10_1 h0).at0 rfl) dX10_register_18 ?_
    refine lv_iload_n hx hb dX10_register_21 rfl (lv_at hl 1 rfl) ?_
    obtain ⟨hi_22, h⟩ := ifn_el h
    refine r_iald B hR ((sb_10_1 h0).at 5 rfl) hi_22 dX10_register_22 ?_
    refine lv_aload_n hx hb dX10_register_23 rfl (lv_at hl 0 rfl) ?_
    refine gf_X10_19 B hR (h0.at0 rfl) dX10_register_24 ?_
    refine gf_X10_235 B hR ((sb_10_1 h0).at0 rfl) dX10_register_27 ?_
    refine lv_iload_n hx hb dX10_register_30 rfl (lv_at hl 1 rfl) ?_
    refine r_iald B hR ((sb_10_1 h0).at 6 rfl) hi_22 dX10_register_31 ?_
    refine lv_aload_n hx hb dX10_register_32 rfl (lv_at hl 0 rfl) ?_
    refine gf_X10_19 B hR (h0.at0 rfl) dX10_register_33 ?_
    refine gf_X10_238 B hR ((sb_10_1 h0).at0 rfl) dX10_register_36 ?_
    refine lv_iload_n hx hb dX10_register_39 rfl (lv_at hl 1 rfl) ?_
    refine r_iald B hR ((sb_10_1 h0).at 7 rfl) hi_22 dX10_register_40 ?_
    obtain ⟨r_41, hc_41, h⟩ := bi_el h
    refine is_X10_228 B hR hl.1 (mX10_pick fu _  hc_41) (Nat.le_of_ble_eq_true rfl) dX10_register_41 (fun H locs hR => ?_)
    exact r_iretP B hR hr hlk h dX10_register_44
  · rw [if_pos c_8] at h
    refine lv_iconst (v := (-1)) hx hb dX10_register_11 (by decide) ?_
    exact r_iretP B hR hr hlk h dX10_register_12
def fX10_part_j24 (fu : Nat) (t0 : Int32) (M : Mm) : Option Int32 :=
  some t0
set_option maxRecDepth 100000 in
set_option maxHeartbeats 4000000 in
theorem wX10_part_j24 {r : Int32}   {t0 : Int32} {M : Mm} (B : Bx p s m args c cX10_part 2 RX10 E L) (hr : meth.sig.returnType = (some .int)) (hlk : meth.locks = false)   (h : fX10_part_j24 fu t0 M = some r) (hR : Rx s E L M H locs) (hl : lv_has ls 2 []) : W p l e (rmD (d + 1)) s m args below meth c H locs 0 0 (MQ below (QcM E L (some (.int r)) M) args s 0 0 E.2.2.2) (F0 m 24 ls [.int t0]) := by
  have hx := B.1
  have hb := B.2.1
  unfold fX10_part_j24 at h
  exact r_iretP B hR hr hlk h dX10_part_24
def fX10_part (fu : Nat) (a0 : Nat) (x1 : Int32) (M : Mm) : Option Int32 :=
  bi (fX8_hasPart fu (a0 + 12) x1 M) fun r_5 =>
  if r_5 = 0 then
    fX10_part_j24 fu (-1) M
  else
    if x1 < 0 ∨ 8 ≤ ix x1 then none else
    fX10_part_j24 fu (M.1 ((a0 + 12) + 4) (ix x1)) M
set_option maxRecDepth 100000 in
set_option maxHeartbeats 4000000 in
theorem mX10_part {l : Launch} {E : Ge} {L : Lay} (fu d : Nat) {a0 : Nat} {x1 : Int32} {M : Mm} {r : Int32}  (h0 : At L a0 T10) (h : fX10_part fu a0 x1 M = some r) : Ct l E L yX10_part cX10_part 2 (some .int) (d + 1) [.ref a0, .int x1] M (some (.int r)) M := by
  refine Ct.of (by decide) ?_
  intro p e s m below meth c hr hlk B hR
  have B : Bx p s m _ c cX10_part 2 RX10 E L := B
  have hx := B.1
  have hb := B.2.1
  have hl := lv_entry ([.ref a0, .int x1]) (n := 2) (Nat.le_of_ble_eq_true rfl)
  rw [lg_entry_eq]
  generalize (lg_sl ([.ref a0, .int x1]) ++ List.replicate (2 - (lg_sl ([.ref a0, .int x1])).length) Slot.unset).toArray = ls at hl ⊢
  have hl : lv_has ls 2 [(0, .ref a0), (1, .int x1)] := hl
  unfold fX10_part at h
  refine lv_aload_n hx hb dX10_part_0 rfl (lv_at hl 0 rfl) ?_
  refine gf_X10_19 B hR (h0.at0 rfl) dX10_part_1 ?_
  refine lv_iload_n hx hb dX10_part_4 rfl (lv_at hl 1 rfl) ?_
  obtain ⟨r_5, hc_5, h⟩ := bi_el h
  refine iv_X10_138 B hR ((sb_10_1 h0).at0 rfl) hl.1 (mX8_hasPart fu _ (sb_10_1 h0) hc_5) (Nat.le_of_ble_eq_true rfl) dX10_part_5 (fun H locs hR => ?_)
  refine lv_if_eq (tgt := 23) hx hb dX10_part_8 (by decide) (fun c_8 => ?_) (fun c_8 => ?_)
  · rw [if_pos c_8] at h
    refine lv_iconst (v := (-1)) hx hb dX10_part_23 (by decide) ?_
    exact wX10_part_j24 B hr hlk  h hR (lv_sub hl [] rfl)
  · rw [if_neg c_8] at h
    refine lv_aload_n hx hb dX10_part_11 rfl (lv_at hl 0 rfl) ?_
    refine gf_X10_19 B hR (h0.at0 rfl) dX10_part_12 ?_
    refine gf_X10_141 B hR ((sb_10_1 h0).at0 rfl) dX10_part_15 ?_
    refine lv_iload_n hx hb dX10_part_18 rfl (lv_at hl 1 rfl) ?_
    obtain ⟨hi_19, h⟩ := ifn_el h
    refine r_iald B hR ((sb_10_1 h0).at 4 rfl) hi_19 dX10_part_19 ?_
    refine lv_goto (tgt := 24) hx hb dX10_part_20 (by decide) ?_
    exact wX10_part_j24 B hr hlk  h hR (lv_sub hl [] rfl)
def fX10_wanted_j30 (fu : Nat) (t0 : Int32) (M : Mm) : Option Int32 :=
  some t0
set_option maxRecDepth 100000 in
set_option maxHeartbeats 4000000 in
theorem wX10_wanted_j30 {r : Int32}   {t0 : Int32} {M : Mm} (B : Bx p s m args c cX10_wanted 2 RX10 E L) (hr : meth.sig.returnType = (some .int)) (hlk : meth.locks = false)   (h : fX10_wanted_j30 fu t0 M = some r) (hR : Rx s E L M H locs) (hl : lv_has ls 2 []) : W p l e (rmD (d + 1)) s m args below meth c H locs 0 0 (MQ below (QcM E L (some (.int r)) M) args s 0 0 E.2.2.2) (F0 m 30 ls [.int t0]) := by
  have hx := B.1
  have hb := B.2.1
  unfold fX10_wanted_j30 at h
  exact r_iretP B hR hr hlk h dX10_wanted_30
def fX10_wanted (fu : Nat) (a0 : Nat) (x1 : Int32) (M : Mm) : Option Int32 :=
  bi (fX8_hasAddress fu (a0 + 12) x1 M) fun r_5 =>
  if r_5 = 0 then
    fX10_wanted_j30 fu (-1) M
  else
    bi (fX8_wantedAt fu (a0 + 12) x1 (M.1 (a0 + 12) 2) M) fun r_23 =>
    fX10_wanted_j30 fu r_23 M
set_option maxRecDepth 100000 in
set_option maxHeartbeats 4000000 in
theorem mX10_wanted {l : Launch} {E : Ge} {L : Lay} (fu d : Nat) {a0 : Nat} {x1 : Int32} {M : Mm} {r : Int32}  (h0 : At L a0 T10) (h : fX10_wanted fu a0 x1 M = some r) : Ct l E L yX10_wanted cX10_wanted 2 (some .int) (d + 1) [.ref a0, .int x1] M (some (.int r)) M := by
  refine Ct.of (by decide) ?_
  intro p e s m below meth c hr hlk B hR
  have B : Bx p s m _ c cX10_wanted 2 RX10 E L := B
  have hx := B.1
  have hb := B.2.1
  have hl := lv_entry ([.ref a0, .int x1]) (n := 2) (Nat.le_of_ble_eq_true rfl)
  rw [lg_entry_eq]
  generalize (lg_sl ([.ref a0, .int x1]) ++ List.replicate (2 - (lg_sl ([.ref a0, .int x1])).length) Slot.unset).toArray = ls at hl ⊢
  have hl : lv_has ls 2 [(0, .ref a0), (1, .int x1)] := hl
  unfold fX10_wanted at h
  refine lv_aload_n hx hb dX10_wanted_0 rfl (lv_at hl 0 rfl) ?_
  refine gf_X10_19 B hR (h0.at0 rfl) dX10_wanted_1 ?_
  refine lv_iload_n hx hb dX10_wanted_4 rfl (lv_at hl 1 rfl) ?_
  obtain ⟨r_5, hc_5, h⟩ := bi_el h
  refine iv_X10_241 B hR ((sb_10_1 h0).at0 rfl) hl.1 (mX8_hasAddress fu _ (sb_10_1 h0) hc_5) (Nat.le_of_ble_eq_true rfl) dX10_wanted_5 (fun H locs hR => ?_)
  refine lv_if_eq (tgt := 29) hx hb dX10_wanted_8 (by decide) (fun c_8 => ?_) (fun c_8 => ?_)
  · rw [if_pos c_8] at h
    refine lv_iconst (v := (-1)) hx hb dX10_wanted_29 (by decide) ?_
    exact wX10_wanted_j30 B hr hlk  h hR (lv_sub hl [] rfl)
  · rw [if_neg c_8] at h
    refine lv_aload_n hx hb dX10_wanted_11 rfl (lv_at hl 0 rfl) ?_
    refine gf_X10_19 B hR (h0.at0 rfl) dX10_wanted_12 ?_
    refine lv_iload_n hx hb dX10_wanted_15 rfl (lv_at hl 1 rfl) ?_
    refine lv_aload_n hx hb dX10_wanted_16 rfl (lv_at hl 0 rfl) ?_
    refine gf_X10_19 B hR (h0.at0 rfl) dX10_wanted_17 ?_
    refine gf_X10_135 B hR ((sb_10_1 h0).at0 rfl) dX10_wanted_20 ?_
    obtain ⟨r_23, hc_23, h⟩ := bi_el h
    refine iv_X10_244 B hR ((sb_10_1 h0).at0 rfl) hl.1 (mX8_wantedAt fu _ (sb_10_1 h0) hc_23) (Nat.le_of_ble_eq_true rfl) dX10_wanted_23 (fun H locs hR => ?_)
    refine lv_goto (tgt := 30) hx hb dX10_wanted_26 (by decide) ?_
    exact wX10_wanted_j30 B hr hlk  h hR (lv_sub hl [] rfl)
def fX10_kind_j24 (fu : Nat) (t0 : Int32) (M : Mm) : Option Int32 :=
  some t0
set_option maxRecDepth 100000 in
set_option maxHeartbeats 4000000 in
theorem wX10_kind_j24 {r : Int32}   {t0 : Int32} {M : Mm} (B : Bx p s m args c cX10_kind 2 RX10 E L) (hr : meth.sig.returnType = (some .int)) (hlk : meth.locks = false)   (h : fX10_kind_j24 fu t0 M = some r) (hR : Rx s E L M H locs) (hl : lv_has ls 2 []) : W p l e (rmD (d + 3)) s m args below meth c H locs 0 0 (MQ below (QcM E L (some (.int r)) M) args s 0 0 E.2.2.2) (F0 m 24 ls [.int t0]) := by
  have hx := B.1
  have hb := B.2.1
  unfold fX10_kind_j24 at h
  exact r_iretP B hR hr hlk h dX10_kind_24
def fX10_kind (fu : Nat) (a0 : Nat) (x1 : Int32) (M : Mm) : Option Int32 :=
  bi (fX8_hasAddress fu (a0 + 12) x1 M) fun r_5 =>
  if r_5 = 0 then
    fX10_kind_j24 fu (-1) M
  else
    bi (fX8_kindAt fu (a0 + 12) x1 (-1) M) fun r_17 =>
    fX10_kind_j24 fu r_17 M
set_option maxRecDepth 100000 in
set_option maxHeartbeats 4000000 in
theorem mX10_kind {l : Launch} {E : Ge} {L : Lay} (fu d : Nat) {a0 : Nat} {x1 : Int32} {M : Mm} {r : Int32}  (h0 : At L a0 T10) (h : fX10_kind fu a0 x1 M = some r) : Ct l E L yX10_kind cX10_kind 2 (some .int) (d + 3) [.ref a0, .int x1] M (some (.int r)) M := by
  refine Ct.of (by decide) ?_
  intro p e s m below meth c hr hlk B hR
  have B : Bx p s m _ c cX10_kind 2 RX10 E L := B
  have hx := B.1
  have hb := B.2.1
  have hl := lv_entry ([.ref a0, .int x1]) (n := 2) (Nat.le_of_ble_eq_true rfl)
  rw [lg_entry_eq]
  generalize (lg_sl ([.ref a0, .int x1]) ++ List.replicate (2 - (lg_sl ([.ref a0, .int x1])).length) Slot.unset).toArray = ls at hl ⊢
  have hl : lv_has ls 2 [(0, .ref a0), (1, .int x1)] := hl
  unfold fX10_kind at h
  refine lv_aload_n hx hb dX10_kind_0 rfl (lv_at hl 0 rfl) ?_
  refine gf_X10_19 B hR (h0.at0 rfl) dX10_kind_1 ?_
  refine lv_iload_n hx hb dX10_kind_4 rfl (lv_at hl 1 rfl) ?_
  obtain ⟨r_5, hc_5, h⟩ := bi_el h
  refine iv_X10_241 B hR ((sb_10_1 h0).at0 rfl) hl.1 (mX8_hasAddress fu _ (sb_10_1 h0) hc_5) (Nat.le_of_ble_eq_true rfl) dX10_kind_5 (fun H locs hR => ?_)
  refine lv_if_eq (tgt := 23) hx hb dX10_kind_8 (by decide) (fun c_8 => ?_) (fun c_8 => ?_)
  · rw [if_pos c_8] at h
    refine lv_iconst (v := (-1)) hx hb dX10_kind_23 (by decide) ?_
    exact wX10_kind_j24 B hr hlk  h hR (lv_sub hl [] rfl)
  · rw [if_neg c_8] at h
    refine lv_aload_n hx hb dX10_kind_11 rfl (lv_at hl 0 rfl) ?_
    refine gf_X10_19 B hR (h0.at0 rfl) dX10_kind_12 ?_
    refine lv_iload_n hx hb dX10_kind_15 rfl (lv_at hl 1 rfl) ?_
    refine lv_iconst (v := (-1)) hx hb dX10_kind_16 (by decide) ?_
    obtain ⟨r_17, hc_17, h⟩ := bi_el h
    refine iv_X10_247 B hR ((sb_10_1 h0).at0 rfl) hl.1 (mX8_kindAt fu _ (sb_10_1 h0) hc_17) (Nat.le_of_ble_eq_true rfl) dX10_kind_17 (fun H locs hR => ?_)
    refine lv_goto (tgt := 24) hx hb dX10_kind_20 (by decide) ?_
    exact wX10_kind_j24 B hr hlk  h hR (lv_sub hl [] rfl)
def fX10_run_j27 (fu : Nat) (M : Mm) : Option (Int32 × Mm) :=
  some ((-1), M)
set_option maxRecDepth 100000 in
set_option maxHeartbeats 4000000 in
theorem wX10_run_j27 {r : Int32} {M' : Mm}    {M : Mm} (B : Bx p s m args c cX10_run 4 RX10 E L) (hr : meth.sig.returnType = (some .int)) (hlk : meth.locks = false)   (h : fX10_run_j27 fu M = some (r, M')) (hR : Rx s E L M H locs) (hl : lv_has ls 4 []) : W p l e (rmD (d + 5)) s m args below meth c H locs 0 0 (MQ below (QcM E L (some (.int r)) M') args s 0 0 E.2.2.2) (F0 m 27 ls []) := by
  have hx := B.1
  have hb := B.2.1
  unfold fX10_run_j27 at h
  refine lv_iconst (v := (-1)) hx hb dX10_run_27 (by decide) ?_
  exact r_iretW B hR hr hlk h dX10_run_28
def fX10_run (fu : Nat) (a0 : Nat) (x1 : Int32) (x2 : Int32) (M : Mm) : Option (Int32 × Mm) :=
  bm (fX10_piecesNow fu a0 M) fun M_1 =>
  if x1 = (-1) then
    some ((M_1.1 (a0 + 198) 7), M_1)
  else
    if x1 < 0 then
      fX10_run_j27 fu M_1
    else
      if x1 < (M_1.1 (a0 + 198) 7) then
        if x1 < 0 ∨ 26 ≤ ix x1 then none else
        if (x1 + 1) < 0 ∨ 26 ≤ ix (x1 + 1) then none else
        bi (fX10_pick fu x2 (M_1.1 ((a0 + 198) + 6) (ix x1)) ((M_1.1 ((a0 + 198) + 6) (ix (x1 + 1))) - 1) (M_1.1 ((a0 + 198) + 7) (ix x1))) fun r_52 =>
        some (r_52, M_1)
      else
        fX10_run_j27 fu M_1
set_option maxRecDepth 100000 in
set_option maxHeartbeats 4000000 in
theorem mX10_run {l : Launch} {E : Ge} {L : Lay} (fu d : Nat) {a0 : Nat} {x1 : Int32} {x2 : Int32} {M : Mm} {r : Int32} {M' : Mm}  (h0 : At L a0 T10) (h : fX10_run fu a0 x1 x2 M = some (r, M')) : Ct l E L yX10_run cX10_run 4 (some .int) (d + 5) [.ref a0, .int x1, .int x2] M (some (.int r)) M' := by
  refine Ct.of (by decide) ?_
  intro p e s m below meth c hr hlk B hR
  have B : Bx p s m _ c cX10_run 4 RX10 E L := B
  have hx := B.1
  have hb := B.2.1
  have hl := lv_entry ([.ref a0, .int x1, .int x2]) (n := 4) (Nat.le_of_ble_eq_true rfl)
  rw [lg_entry_eq]
  generalize (lg_sl ([.ref a0, .int x1, .int x2]) ++ List.replicate (4 - (lg_sl ([.ref a0, .int x1, .int x2])).length) Slot.unset).toArray = ls at hl ⊢
  have hl : lv_has ls 4 [(0, .ref a0), (1, .int x1), (2, .int x2)] := hl
  unfold fX10_run at h
  refine lv_aload_n hx hb dX10_run_0 rfl (lv_at hl 0 rfl) ?_
  obtain ⟨M_1, hc_1, h⟩ := bm_el h
  refine iv_X10_185 B hR (h0.at0 rfl) hl.1 (mX10_piecesNow fu _ h0 hc_1) (Nat.le_of_ble_eq_true rfl) dX10_run_1 (fun H locs hR => ?_)
  refine lv_astore_n (lv' := [(3, .ref (a0 + 198)), (0, .ref a0), (1, .int x1), (2, .int x2)]) hx hb dX10_run_4 rfl hl (by decide) rfl (fun ls hl => ?_)
  refine lv_iload_n hx hb dX10_run_5 rfl (lv_at hl 2 rfl) ?_
  refine lv_iconst (v := (-1)) hx hb dX10_run_6 (by decide) ?_
  refine lv_icmp_ne (tgt := 15) hx hb dX10_run_7 (by decide) (fun c_7 => ?_) (fun c_7 => ?_)
  · rw [if_neg c_7] at h
    refine lv_iload_n hx hb dX10_run_15 rfl (lv_at hl 2 rfl) ?_
    refine lv_if_lt (tgt := 27) hx hb dX10_run_16 (by decide) (fun c_16 => ?_) (fun c_16 => ?_)
    · rw [if_pos c_16] at h
      exact wX10_run_j27 B hr hlk  h hR (lv_sub hl [] rfl)
    · rw [if_neg c_16] at h
      refine lv_iload_n hx hb dX10_run_19 rfl (lv_at hl 2 rfl) ?_
      refine lv_aload_n hx hb dX10_run_20 rfl (lv_at hl 0 rfl) ?_
      refine gf_X10_200 B hR ((sb_10_6 h0).at0 rfl) dX10_run_21 ?_
      refine lv_icmp_lt (tgt := 29) hx hb dX10_run_24 (by decide) (fun c_24 => ?_) (fun c_24 => ?_)
      · rw [if_pos c_24] at h
        refine lv_iload_n hx hb dX10_run_29 rfl (lv_at hl 3 rfl) ?_
        refine lv_aload_n hx hb dX10_run_30 rfl (lv_at hl 0 rfl) ?_
        refine gf_X10_206 B hR ((sb_10_6 h0).at0 rfl) dX10_run_31 ?_
        refine lv_iload_n hx hb dX10_run_34 rfl (lv_at hl 2 rfl) ?_
        obtain ⟨hi_35, h⟩ := ifn_el h
        refine r_iald B hR ((sb_10_6 h0).at 6 rfl) hi_35 dX10_run_35 ?_
        refine lv_aload_n hx hb dX10_run_36 rfl (lv_at hl 0 rfl) ?_
        refine gf_X10_206 B hR ((sb_10_6 h0).at0 rfl) dX10_run_37 ?_
        refine lv_iload_n hx hb dX10_run_40 rfl (lv_at hl 2 rfl) ?_
        refine lv_iconst (v := 1) hx hb dX10_run_41 (by decide) ?_
        refine lv_iadd hx hb dX10_run_42 ?_
        obtain ⟨hi_43, h⟩ := ifn_el h
        refine r_iald B hR ((sb_10_6 h0).at 6 rfl) hi_43 dX10_run_43 ?_
        refine lv_iconst (v := 1) hx hb dX10_run_44 (by decide) ?_
        refine lv_isub hx hb dX10_run_45 ?_
        refine lv_aload_n hx hb dX10_run_46 rfl (lv_at hl 0 rfl) ?_
        refine gf_X10_203 B hR ((sb_10_6 h0).at0 rfl) dX10_run_47 ?_
        refine lv_iload_n hx hb dX10_run_50 rfl (lv_at hl 2 rfl) ?_
        refine r_iald B hR ((sb_10_6 h0).at 7 rfl) hi_35 dX10_run_51 ?_
        obtain ⟨r_52, hc_52, h⟩ := bi_el h
        refine is_X10_228 B hR hl.1 (mX10_pick fu _  hc_52) (Nat.le_of_ble_eq_true rfl) dX10_run_52 (fun H locs hR => ?_)
        exact r_iretW B hR hr hlk h dX10_run_55
      · rw [if_neg c_24] at h
        exact wX10_run_j27 B hr hlk  h hR (lv_sub hl [] rfl)
  · rw [if_pos c_7] at h
    refine lv_aload_n hx hb dX10_run_10 rfl (lv_at hl 0 rfl) ?_
    refine gf_X10_200 B hR ((sb_10_6 h0).at0 rfl) dX10_run_11 ?_
    exact r_iretW B hR hr hlk h dX10_run_14
def fX10_paged_j24 (fu : Nat) (t0 : Int32) (M : Mm) : Option Int32 :=
  some t0
set_option maxRecDepth 100000 in
set_option maxHeartbeats 4000000 in
theorem wX10_paged_j24 {r : Int32}   {t0 : Int32} {M : Mm} (B : Bx p s m args c cX10_paged 2 RX10 E L) (hr : meth.sig.returnType = (some .int)) (hlk : meth.locks = false)   (h : fX10_paged_j24 fu t0 M = some r) (hR : Rx s E L M H locs) (hl : lv_has ls 2 []) : W p l e (rmD (d + 2)) s m args below meth c H locs 0 0 (MQ below (QcM E L (some (.int r)) M) args s 0 0 E.2.2.2) (F0 m 24 ls [.int t0]) := by
  have hx := B.1
  have hb := B.2.1
  unfold fX10_paged_j24 at h
  exact r_iretP B hR hr hlk h dX10_paged_24
def fX10_paged (fu : Nat) (a0 : Nat) (x1 : Int32) (M : Mm) : Option Int32 :=
  bi (fX8_hasPage fu (a0 + 12) x1 M) fun r_5 =>
  if r_5 = 0 then
    fX10_paged_j24 fu (-1) M
  else
    if x1 < 0 ∨ 64 ≤ ix x1 then none else
    fX10_paged_j24 fu (M.1 ((a0 + 12) + 8) (ix x1)) M
set_option maxRecDepth 100000 in
set_option maxHeartbeats 4000000 in
theorem mX10_paged {l : Launch} {E : Ge} {L : Lay} (fu d : Nat) {a0 : Nat} {x1 : Int32} {M : Mm} {r : Int32}  (h0 : At L a0 T10) (h : fX10_paged fu a0 x1 M = some r) : Ct l E L yX10_paged cX10_paged 2 (some .int) (d + 2) [.ref a0, .int x1] M (some (.int r)) M := by
  refine Ct.of (by decide) ?_
  intro p e s m below meth c hr hlk B hR
  have B : Bx p s m _ c cX10_paged 2 RX10 E L := B
  have hx := B.1
  have hb := B.2.1
  have hl := lv_entry ([.ref a0, .int x1]) (n := 2) (Nat.le_of_ble_eq_true rfl)
  rw [lg_entry_eq]
  generalize (lg_sl ([.ref a0, .int x1]) ++ List.replicate (2 - (lg_sl ([.ref a0, .int x1])).length) Slot.unset).toArray = ls at hl ⊢
  have hl : lv_has ls 2 [(0, .ref a0), (1, .int x1)] := hl
  unfold fX10_paged at h
  refine lv_aload_n hx hb dX10_paged_0 rfl (lv_at hl 0 rfl) ?_
  refine gf_X10_19 B hR (h0.at0 rfl) dX10_paged_1 ?_
  refine lv_iload_n hx hb dX10_paged_4 rfl (lv_at hl 1 rfl) ?_
  obtain ⟨r_5, hc_5, h⟩ := bi_el h
  refine iv_X10_179 B hR ((sb_10_1 h0).at0 rfl) hl.1 (mX8_hasPage fu _ (sb_10_1 h0) hc_5) (Nat.le_of_ble_eq_true rfl) dX10_paged_5 (fun H locs hR => ?_)
  refine lv_if_eq (tgt := 23) hx hb dX10_paged_8 (by decide) (fun c_8 => ?_) (fun c_8 => ?_)
  · rw [if_pos c_8] at h
    refine lv_iconst (v := (-1)) hx hb dX10_paged_23 (by decide) ?_
    exact wX10_paged_j24 B hr hlk  h hR (lv_sub hl [] rfl)
  · rw [if_neg c_8] at h
    refine lv_aload_n hx hb dX10_paged_11 rfl (lv_at hl 0 rfl) ?_
    refine gf_X10_19 B hR (h0.at0 rfl) dX10_paged_12 ?_
    refine gf_X10_182 B hR ((sb_10_1 h0).at0 rfl) dX10_paged_15 ?_
    refine lv_iload_n hx hb dX10_paged_18 rfl (lv_at hl 1 rfl) ?_
    obtain ⟨hi_19, h⟩ := ifn_el h
    refine r_iald B hR ((sb_10_1 h0).at 8 rfl) hi_19 dX10_paged_19 ?_
    refine lv_goto (tgt := 24) hx hb dX10_paged_20 (by decide) ?_
    exact wX10_paged_j24 B hr hlk  h hR (lv_sub hl [] rfl)
def fX10_seen_j32 (fu : Nat) (t0 : Int32) (M : Mm) : Option Int32 :=
  some t0
set_option maxRecDepth 100000 in
set_option maxHeartbeats 4000000 in
theorem wX10_seen_j32 {r : Int32}   {t0 : Int32} {M : Mm} (B : Bx p s m args c cX10_seen 2 RX10 E L) (hr : meth.sig.returnType = (some .int)) (hlk : meth.locks = false)   (h : fX10_seen_j32 fu t0 M = some r) (hR : Rx s E L M H locs) (hl : lv_has ls 2 []) : W p l e (rmD (d + 3)) s m args below meth c H locs 0 0 (MQ below (QcM E L (some (.int r)) M) args s 0 0 E.2.2.2) (F0 m 32 ls [.int t0]) := by
  have hx := B.1
  have hb := B.2.1
  unfold fX10_seen_j32 at h
  exact r_iretP B hR hr hlk h dX10_seen_32
def fX10_seen (fu : Nat) (a0 : Nat) (x1 : Int32) (M : Mm) : Option Int32 :=
  bi (fX8_hasAddress fu (a0 + 12) x1 M) fun r_5 =>
  if r_5 = 0 then
    fX10_seen_j32 fu (-1) M
  else
    bi (fX8_kindAt fu (a0 + 12) x1 (-1) M) fun r_22 =>
    bi (fX8_seenAs fu (a0 + 12) x1 r_22 M) fun r_25 =>
    fX10_seen_j32 fu r_25 M
set_option maxRecDepth 100000 in
set_option maxHeartbeats 4000000 in
theorem mX10_seen {l : Launch} {E : Ge} {L : Lay} (fu d : Nat) {a0 : Nat} {x1 : Int32} {M : Mm} {r : Int32}  (h0 : At L a0 T10) (h : fX10_seen fu a0 x1 M = some r) : Ct l E L yX10_seen cX10_seen 2 (some .int) (d + 3) [.ref a0, .int x1] M (some (.int r)) M := by
  refine Ct.of (by decide) ?_
  intro p e s m below meth c hr hlk B hR
  have B : Bx p s m _ c cX10_seen 2 RX10 E L := B
  have hx := B.1
  have hb := B.2.1
  have hl := lv_entry ([.ref a0, .int x1]) (n := 2) (Nat.le_of_ble_eq_true rfl)
  rw [lg_entry_eq]
  generalize (lg_sl ([.ref a0, .int x1]) ++ List.replicate (2 - (lg_sl ([.ref a0, .int x1])).length) Slot.unset).toArray = ls at hl ⊢
  have hl : lv_has ls 2 [(0, .ref a0), (1, .int x1)] := hl
  unfold fX10_seen at h
  refine lv_aload_n hx hb dX10_seen_0 rfl (lv_at hl 0 rfl) ?_
  refine gf_X10_19 B hR (h0.at0 rfl) dX10_seen_1 ?_
  refine lv_iload_n hx hb dX10_seen_4 rfl (lv_at hl 1 rfl) ?_
  obtain ⟨r_5, hc_5, h⟩ := bi_el h
  refine iv_X10_241 B hR ((sb_10_1 h0).at0 rfl) hl.1 (mX8_hasAddress fu _ (sb_10_1 h0) hc_5) (Nat.le_of_ble_eq_true rfl) dX10_seen_5 (fun H locs hR => ?_)
  refine lv_if_eq (tgt := 31) hx hb dX10_seen_8 (by decide) (fun c_8 => ?_) (fun c_8 => ?_)
  · rw [if_pos c_8] at h
    refine lv_iconst (v := (-1)) hx hb dX10_seen_31 (by decide) ?_
    exact wX10_seen_j32 B hr hlk  h hR (lv_sub hl [] rfl)
  · rw [if_neg c_8] at h
    refine lv_aload_n hx hb dX10_seen_11 rfl (lv_at hl 0 rfl) ?_
    refine gf_X10_19 B hR (h0.at0 rfl) dX10_seen_12 ?_
    refine lv_iload_n hx hb dX10_seen_15 rfl (lv_at hl 1 rfl) ?_
    refine lv_aload_n hx hb dX10_seen_16 rfl (lv_at hl 0 rfl) ?_
    refine gf_X10_19 B hR (h0.at0 rfl) dX10_seen_17 ?_
    refine lv_iload_n hx hb dX10_seen_20 rfl (lv_at hl 1 rfl) ?_
    refine lv_iconst (v := (-1)) hx hb dX10_seen_21 (by decide) ?_
    obtain ⟨r_22, hc_22, h⟩ := bi_el h
    refine iv_X10_247 B hR ((sb_10_1 h0).at0 rfl) hl.1 (mX8_kindAt fu _ (sb_10_1 h0) hc_22) (Nat.le_of_ble_eq_true rfl) dX10_seen_22 (fun H locs hR => ?_)
    obtain ⟨r_25, hc_25, h⟩ := bi_el h
    refine iv_X10_250 B hR ((sb_10_1 h0).at0 rfl) hl.1 (mX8_seenAs fu _ (sb_10_1 h0) hc_25) (Nat.le_of_ble_eq_true rfl) dX10_seen_25 (fun H locs hR => ?_)
    refine lv_goto (tgt := 32) hx hb dX10_seen_28 (by decide) ?_
    exact wX10_seen_j32 B hr hlk  h hR (lv_sub hl [] rfl)
def fX10_strange_j84 (fu : Nat) (x1 : Int32) (x3 : Int32) (x4 : Int32) (M : Mm) : Option (Int32 × Mm) :=
  if x1 = 0 then
    some (x3, M)
  else
    if x1 = 1 then
      some (x4, M)
    else
      some ((-1), M)
set_option maxRecDepth 100000 in
set_option maxHeartbeats 4000000 in
theorem wX10_strange_j84 {r : Int32} {M' : Mm}   {x1 : Int32} {x3 : Int32} {x4 : Int32} {M : Mm} (B : Bx p s m args c cX10_strange 6 RX10 E L) (hr : meth.sig.returnType = (some .int)) (hlk : meth.locks = false)   (h : fX10_strange_j84 fu x1 x3 x4 M = some (r, M')) (hR : Rx s E L M H locs) (hl : lv_has ls 6 [(1, .int x1), (3, .int x3), (4, .int x4)]) : W p l e (rmD (d + 5)) s m args below meth c H locs 0 0 (MQ below (QcM E L (some (.int r)) M') args s 0 0 E.2.2.2) (F0 m 84 ls []) := by
  have hx := B.1
  have hb := B.2.1
  unfold fX10_strange_j84 at h
  refine lv_iload_n hx hb dX10_strange_84 rfl (lv_at hl 0 rfl) ?_
  by_cases s_85_0 : x1 = 0
  · rw [if_pos s_85_0] at h
    refine lv_lookup (tgt := 112) (off := 27) hx hb dX10_strange_85 (by decide +kernel) (by rw [s_85_0]; try rfl) (by decide) ?_
    refine lv_iload_n hx hb dX10_strange_112 rfl (lv_at hl 1 rfl) ?_
    exact r_iretW B hR hr hlk h dX10_strange_113
  · rw [if_neg s_85_0] at h
    by_cases s_85_1 : x1 = 1
    · rw [if_pos s_85_1] at h
      refine lv_lookup (tgt := 114) (off := 29) hx hb dX10_strange_85 (by decide +kernel) (by rw [s_85_1]; try rfl) (by decide) ?_
      refine lv_iload hx hb dX10_strange_114 (lv_at hl 2 rfl) ?_
      exact r_iretW B hR hr hlk h dX10_strange_116
    · rw [if_neg s_85_1] at h
      refine lv_lookup (tgt := 117) (off := 32) hx hb dX10_strange_85 (by decide +kernel) (by show Op.lookupswitch.offset [(0, 27), (1, 29)] 32 (x1 : Int32).toInt = 32; rw [lv_osw s_85_0 (by decide), lv_osw s_85_1 (by decide)]; try rfl) (by decide) ?_
      refine lv_iconst (v := (-1)) hx hb dX10_strange_117 (by decide) ?_
      exact r_iretW B hR hr hlk h dX10_strange_118
def fX10_strange_j78 (fu : Nat) (k13 : Int32 → Int32 → Int32 → Option (Int32 × Mm)) (a0 : Nat) (x1 : Int32) (a2 : Nat) (x3 : Int32) (x4 : Int32) (x5 : Int32) (M : Mm) : Option (Int32 × Mm) :=
  lt (x5 + 1) fun x5_78 =>
  k13 x3 x4 x5_78
set_option maxRecDepth 100000 in
set_option maxHeartbeats 4000000 in
theorem wX10_strange_j78 {r : Int32} {M' : Mm}  {k13 : Int32 → Int32 → Int32 → Option (Int32 × Mm)} {a0 : Nat} {x1 : Int32} {a2 : Nat} {x3 : Int32} {x4 : Int32} {x5 : Int32} {M : Mm} (B : Bx p s m args c cX10_strange 6 RX10 E L) (hr : meth.sig.returnType = (some .int)) (hlk : meth.locks = false) (ih13 : ∀ (x3 : Int32) (x4 : Int32) (x5 : Int32), k13 x3 x4 x5 = some (r, M') → ∀ (H : Heap) (locs : List Loc) (ls : Array Slot), Rx s E L M H locs → lv_has ls 6 [(0, .ref a0), (1, .int x1), (2, .ref a2), (3, .int x3), (4, .int x4), (5, .int x5)] → W p l e (rmD (d + 5)) s m args below meth c H locs 0 0 (MQ below (QcM E L (some (.int r)) M') args s 0 0 E.2.2.2) (F0 m 13 ls [])) (h0 : At L a0 T10) (h2 : At L a2 T5) (h : fX10_strange_j78 fu k13 a0 x1 a2 x3 x4 x5 M = some (r, M')) (hR : Rx s E L M H locs) (hl : lv_has ls 6 [(0, .ref a0), (1, .int x1), (2, .ref a2), (3, .int x3), (4, .int x4), (5, .int x5)]) : W p l e (rmD (d + 5)) s m args below meth c H locs 0 0 (MQ below (QcM E L (some (.int r)) M') args s 0 0 E.2.2.2) (F0 m 78 ls []) := by
  have hx := B.1
  have hb := B.2.1
  unfold fX10_strange_j78 at h
  obtain ⟨x5_78, ex5_78, h⟩ := lt_el h
  refine lv_iinc (v := x5_78) (lv' := [(5, .int x5_78), (0, .ref a0), (1, .int x1), (2, .ref a2), (3, .int x3), (4, .int x4)]) hx hb dX10_strange_78 hl (k := 5) rfl (by rw [ex5_78]; rfl) (by decide) rfl (fun ls hl => ?_)
  refine lv_goto (tgt := 13) hx hb dX10_strange_81 (by decide) ?_
  exact ih13 x3 x4 x5_78 h _ _ _ hR (lv_sub hl [1, 2, 3, 4, 5, 0] rfl)
def fX10_strange_j67 (fu : Nat) (k13 : Int32 → Int32 → Int32 → Option (Int32 × Mm)) (a0 : Nat) (x1 : Int32) (a2 : Nat) (x3 : Int32) (x5 : Int32) (t0 : Int32) (M : Mm) : Option (Int32 × Mm) :=
  bi (fX5_lengthOf fu a2 x5 M) fun r_73 =>
  lt ((x3 + r_73)) fun x3_77 =>
  fX10_strange_j78 fu k13 a0 x1 a2 x3_77 t0 x5 M
set_option maxRecDepth 100000 in
set_option maxHeartbeats 4000000 in
theorem wX10_strange_j67 {r : Int32} {M' : Mm}  {k13 : Int32 → Int32 → Int32 → Option (Int32 × Mm)} {a0 : Nat} {x1 : Int32} {a2 : Nat} {x3 : Int32} {x5 : Int32} {t0 : Int32} {M : Mm} (B : Bx p s m args c cX10_strange 6 RX10 E L) (hr : meth.sig.returnType = (some .int)) (hlk : meth.locks = false) (ih13 : ∀ (x3 : Int32) (x4 : Int32) (x5 : Int32), k13 x3 x4 x5 = some (r, M') → ∀ (H : Heap) (locs : List Loc) (ls : Array Slot), Rx s E L M H locs → lv_has ls 6 [(0, .ref a0), (1, .int x1), (2, .ref a2), (3, .int x3), (4, .int x4), (5, .int x5)] → W p l e (rmD (d + 5)) s m args below meth c H locs 0 0 (MQ below (QcM E L (some (.int r)) M') args s 0 0 E.2.2.2) (F0 m 13 ls [])) (h0 : At L a0 T10) (h2 : At L a2 T5) (h : fX10_strange_j67 fu k13 a0 x1 a2 x3 x5 t0 M = some (r, M')) (hR : Rx s E L M H locs) (hl : lv_has ls 6 [(0, .ref a0), (1, .int x1), (2, .ref a2), (3, .int x3), (5, .int x5)]) : W p l e (rmD (d + 5)) s m args below meth c H locs 0 0 (MQ below (QcM E L (some (.int r)) M') args s 0 0 E.2.2.2) (F0 m 67 ls [.int t0]) := by
  have hx := B.1
  have hb := B.2.1
  unfold fX10_strange_j67 at h
  refine lv_istore (lv' := [(4, .int t0), (0, .ref a0), (1, .int x1), (2, .ref a2), (3, .int x3), (5, .int x5)]) hx hb dX10_strange_67 hl (by decide) rfl (fun ls hl => ?_)
  refine lv_iload_n hx hb dX10_strange_69 rfl (lv_at hl 4 rfl) ?_
  refine lv_aload_n hx hb dX10_strange_70 rfl (lv_at hl 3 rfl) ?_
  refine lv_iload hx hb dX10_strange_71 (lv_at hl 5 rfl) ?_
  obtain ⟨r_73, hc_73, h⟩ := bi_el h
  refine iv_X10_263 B hR (h2.at0 rfl) hl.1 (mX5_lengthOf fu _ h2 hc_73) (Nat.le_of_ble_eq_true rfl) dX10_strange_73 (fun H locs hR => ?_)
  refine lv_iadd hx hb dX10_strange_76 ?_
  obtain ⟨x3_77, ex3_77, h⟩ := lt_el h
  refine r_nmI ex3_77 ?_
  refine lv_istore_n (lv' := [(3, .int x3_77), (4, .int t0), (0, .ref a0), (1, .int x1), (2, .ref a2), (5, .int x5)]) hx hb dX10_strange_77 rfl hl (by decide) rfl (fun ls hl => ?_)
  exact wX10_strange_j78 B hr hlk ih13 h0 h2 h hR (lv_sub hl [2, 3, 4, 0, 1, 5] rfl)
def fX10_strange_b13 (fu : Nat) (k13 : Int32 → Int32 → Int32 → Option (Int32 × Mm)) (a0 : Nat) (x1 : Int32) (a2 : Nat) (x3 : Int32) (x4 : Int32) (x5 : Int32) (M : Mm) : Option (Int32 × Mm) :=
  if (M.1 a2 6) ≤ x5 then
    fX10_strange_j84 fu x1 x3 x4 M
  else
    bi (fX5_startOf fu a2 x5 M) fun r_29 =>
    if x5 < 0 ∨ 128 ≤ ix x5 then none else
    bi (fX8_seenAs fu (a0 + 12) r_29 (M.1 (a2 + 4) (ix x5)) M) fun r_39 =>
    if r_39 = (M.1 (a2 + 3) (ix x5)) then
      fX10_strange_j78 fu k13 a0 x1 a2 x3 x4 x5 M
    else
      if x3 = 0 then
        bi (fX5_startOf fu a2 x5 M) fun r_59 =>
        fX10_strange_j67 fu k13 a0 x1 a2 x3 x5 r_59 M
      else
        fX10_strange_j67 fu k13 a0 x1 a2 x3 x5 x4 M
set_option maxRecDepth 100000 in
set_option maxHeartbeats 4000000 in
theorem wX10_strange_b13 {r : Int32} {M' : Mm}   {k13 : Int32 → Int32 → Int32 → Option (Int32 × Mm)} {a0 : Nat} {x1 : Int32} {a2 : Nat} {x3 : Int32} {x4 : Int32} {x5 : Int32} {M : Mm} (B : Bx p s m args c cX10_strange 6 RX10 E L) (hr : meth.sig.returnType = (some .int)) (hlk : meth.locks = false)  (ih13 : ∀ (x3 : Int32) (x4 : Int32) (x5 : Int32), k13 x3 x4 x5 = some (r, M') → ∀ (H : Heap) (locs : List Loc) (ls : Array Slot), Rx s E L M H locs → lv_has ls 6 [(0, .ref a0), (1, .int x1), (2, .ref a2), (3, .int x3), (4, .int x4), (5, .int x5)] → W p l e (rmD (d + 5)) s m args below meth c H locs 0 0 (MQ below (QcM E L (some (.int r)) M') args s 0 0 E.2.2.2) (F0 m 13 ls [])) (h0 : At L a0 T10) (h2 : At L a2 T5) (h : fX10_strange_b13 fu k13 a0 x1 a2 x3 x4 x5 M = some (r, M')) (hR : Rx s E L M H locs) (hl : lv_has ls 6 [(0, .ref a0), (1, .int x1), (2, .ref a2), (3, .int x3), (4, .int x4), (5, .int x5)]) : W p l e (rmD (d + 5)) s m args below meth c H locs 0 0 (MQ below (QcM E L (some (.int r)) M') args s 0 0 E.2.2.2) (F0 m 13 ls []) := by
  have hx := B.1
  have hb := B.2.1
  unfold fX10_strange_b13 at h
  refine lv_iload hx hb dX10_strange_13 (lv_at hl 5 rfl) ?_
  refine lv_aload_n hx hb dX10_strange_15 rfl (lv_at hl 2 rfl) ?_
  refine gf_X10_253 B hR (h2.at0 rfl) dX10_strange_16 ?_
  refine lv_icmp_ge (tgt := 84) hx hb dX10_strange_19 (by decide) (fun c_19 => ?_) (fun c_19 => ?_)
  · rw [if_pos c_19] at h
    exact wX10_strange_j84 B hr hlk  h hR (lv_sub hl [1, 3, 4] rfl)
  · rw [if_neg c_19] at h
    refine lv_aload_n hx hb dX10_strange_22 rfl (lv_at hl 0 rfl) ?_
    refine gf_X10_19 B hR (h0.at0 rfl) dX10_strange_23 ?_
    refine lv_aload_n hx hb dX10_strange_26 rfl (lv_at hl 2 rfl) ?_
    refine lv_iload hx hb dX10_strange_27 (lv_at hl 5 rfl) ?_
    obtain ⟨r_29, hc_29, h⟩ := bi_el h
    refine iv_X10_254 B hR (h2.at0 rfl) hl.1 (mX5_startOf fu _ h2 hc_29) (Nat.le_of_ble_eq_true rfl) dX10_strange_29 (fun H locs hR => ?_)
    refine lv_aload_n hx hb dX10_strange_32 rfl (lv_at hl 2 rfl) ?_
    refine gf_X10_257 B hR (h2.at0 rfl) dX10_strange_33 ?_
    refine lv_iload hx hb dX10_strange_36 (lv_at hl 5 rfl) ?_
    obtain ⟨hi_38, h⟩ := ifn_el h
    refine r_iald B hR (h2.at 4 rfl) hi_38 dX10_strange_38 ?_
    obtain ⟨r_39, hc_39, h⟩ := bi_el h
    refine iv_X10_250 B hR ((sb_10_1 h0).at0 rfl) hl.1 (mX8_seenAs fu _ (sb_10_1 h0) hc_39) (Nat.le_of_ble_eq_true rfl) dX10_strange_39 (fun H locs hR => ?_)
    refine lv_aload_n hx hb dX10_strange_42 rfl (lv_at hl 2 rfl) ?_
    refine gf_X10_260 B hR (h2.at0 rfl) dX10_strange_43 ?_
    refine lv_iload hx hb dX10_strange_46 (lv_at hl 5 rfl) ?_
    refine r_iald B hR (h2.at 3 rfl) hi_38 dX10_strange_48 ?_
    refine lv_icmp_eq (tgt := 78) hx hb dX10_strange_49 (by decide) (fun c_49 => ?_) (fun c_49 => ?_)
    · rw [if_pos c_49] at h
      exact wX10_strange_j78 B hr hlk ih13 h0 h2 h hR hl
    · rw [if_neg c_49] at h
      refine lv_iload_n hx hb dX10_strange_52 rfl (lv_at hl 3 rfl) ?_
      refine lv_if_ne (tgt := 65) hx hb dX10_strange_53 (by decide) (fun c_53 => ?_) (fun c_53 => ?_)
      · rw [if_neg c_53] at h
        refine lv_iload hx hb dX10_strange_65 (lv_at hl 4 rfl) ?_
        exact wX10_strange_j67 B hr hlk ih13 h0 h2 h hR (lv_sub hl [0, 1, 2, 3, 5] rfl)
      · rw [if_pos c_53] at h
        refine lv_aload_n hx hb dX10_strange_56 rfl (lv_at hl 2 rfl) ?_
        refine lv_iload hx hb dX10_strange_57 (lv_at hl 5 rfl) ?_
        obtain ⟨r_59, hc_59, h⟩ := bi_el h
        refine iv_X10_254 B hR (h2.at0 rfl) hl.1 (mX5_startOf fu _ h2 hc_59) (Nat.le_of_ble_eq_true rfl) dX10_strange_59 (fun H locs hR => ?_)
        refine lv_goto (tgt := 67) hx hb dX10_strange_62 (by decide) ?_
        exact wX10_strange_j67 B hr hlk ih13 h0 h2 h hR (lv_sub hl [0, 1, 2, 3, 5] rfl)
def fX10_strange_l13 (fu : Nat) (a0 : Nat) (x1 : Int32) (a2 : Nat) (M : Mm) (x3 : Int32) (x4 : Int32) (x5 : Int32) : Option (Int32 × Mm) := lp (fun (rec : (Int32 × Int32 × Int32) → Option (Int32 × Mm)) (s : Int32 × Int32 × Int32) => fX10_strange_b13 fu  (fun x3 x4 x5 => rec (x3, x4, x5)) a0 x1 a2 s.1 s.2.1 s.2.2 M) fu (x3, x4, x5)
set_option maxRecDepth 100000 in
set_option maxHeartbeats 4000000 in
theorem wX10_strange_l13 {r : Int32} {M' : Mm}   {a0 : Nat} {x1 : Int32} {a2 : Nat} {x3 : Int32} {x4 : Int32} {x5 : Int32} {M : Mm} (B : Bx p s m args c cX10_strange 6 RX10 E L) (hr : meth.sig.returnType = (some .int)) (hlk : meth.locks = false)  (h0 : At L a0 T10) (h2 : At L a2 T5) (h : fX10_strange_l13 fu a0 x1 a2 M x3 x4 x5 = some (r, M')) (hR : Rx s E L M H locs) (hl : lv_has ls 6 [(0, .ref a0), (1, .int x1), (2, .ref a2), (3, .int x3), (4, .int x4), (5, .int x5)]) : W p l e (rmD (d + 5)) s m args below meth c H locs 0 0 (MQ below (QcM E L (some (.int r)) M') args s 0 0 E.2.2.2) (F0 m 13 ls []) := by
  refine lp_G (G := fun z : Int32 × Int32 × Int32 => ∀ (H : Heap) (locs : List Loc) (ls : Array Slot), Rx s E L M H locs → lv_has ls 6 [(0, .ref a0), (1, .int x1), (2, .ref a2), (3, .int z.1), (4, .int z.2.1), (5, .int z.2.2)] → W p l e (rmD (d + 5)) s m args below meth c H locs 0 0 (MQ below (QcM E L (some (.int r)) M') args s 0 0 E.2.2.2) (F0 m 13 ls [])) (fun rec ih z h H locs ls hR hl => ?_) fu _ h H locs ls hR hl
  exact wX10_strange_b13 B hr hlk  (fun x3 x4 x5 h => ih (x3, x4, x5) h) h0 h2 h hR hl
def fX10_strange (fu : Nat) (a0 : Nat) (x1 : Int32) (M : Mm) : Option (Int32 × Mm) :=
  bm (fX10_piecesNow fu a0 M) fun M_1 =>
  fX10_strange_l13 fu a0 x1 (a0 + 198) M_1 0 (-1) 0
set_option maxRecDepth 100000 in
set_option maxHeartbeats 4000000 in
theorem mX10_strange {l : Launch} {E : Ge} {L : Lay} (fu d : Nat) {a0 : Nat} {x1 : Int32} {M : Mm} {r : Int32} {M' : Mm}  (h0 : At L a0 T10) (h : fX10_strange fu a0 x1 M = some (r, M')) : Ct l E L yX10_strange cX10_strange 6 (some .int) (d + 5) [.ref a0, .int x1] M (some (.int r)) M' := by
  refine Ct.of (by decide) ?_
  intro p e s m below meth c hr hlk B hR
  have B : Bx p s m _ c cX10_strange 6 RX10 E L := B
  have hx := B.1
  have hb := B.2.1
  have hl := lv_entry ([.ref a0, .int x1]) (n := 6) (Nat.le_of_ble_eq_true rfl)
  rw [lg_entry_eq]
  generalize (lg_sl ([.ref a0, .int x1]) ++ List.replicate (6 - (lg_sl ([.ref a0, .int x1])).length) Slot.unset).toArray = ls at hl ⊢
  have hl : lv_has ls 6 [(0, .ref a0), (1, .int x1)] := hl
  unfold fX10_strange at h
  refine lv_aload_n hx hb dX10_strange_0 rfl (lv_at hl 0 rfl) ?_
  obtain ⟨M_1, hc_1, h⟩ := bm_el h
  refine iv_X10_185 B hR (h0.at0 rfl) hl.1 (mX10_piecesNow fu _ h0 hc_1) (Nat.le_of_ble_eq_true rfl) dX10_strange_1 (fun H locs hR => ?_)
  refine lv_astore_n (lv' := [(2, .ref (a0 + 198)), (0, .ref a0), (1, .int x1)]) hx hb dX10_strange_4 rfl hl (by decide) rfl (fun ls hl => ?_)
  refine lv_iconst (v := 0) hx hb dX10_strange_5 (by decide) ?_
  refine lv_istore_n (lv' := [(3, .int 0), (2, .ref (a0 + 198)), (0, .ref a0), (1, .int x1)]) hx hb dX10_strange_6 rfl hl (by decide) rfl (fun ls hl => ?_)
  refine lv_iconst (v := (-1)) hx hb dX10_strange_7 (by decide) ?_
  refine lv_istore (lv' := [(4, .int (-1)), (3, .int 0), (2, .ref (a0 + 198)), (0, .ref a0), (1, .int x1)]) hx hb dX10_strange_8 hl (by decide) rfl (fun ls hl => ?_)
  refine lv_iconst (v := 0) hx hb dX10_strange_10 (by decide) ?_
  refine lv_istore (lv' := [(5, .int 0), (4, .int (-1)), (3, .int 0), (2, .ref (a0 + 198)), (0, .ref a0), (1, .int x1)]) hx hb dX10_strange_11 hl (by decide) rfl (fun ls hl => ?_)
  exact wX10_strange_l13 B hr hlk h0 (sb_10_6 h0) h hR (lv_sub hl [4, 5, 3, 2, 1, 0] rfl)
def fX10_mendable_j23 (fu : Nat) (t0 : Int32) (M : Mm) : Option (Int32 × Mm) :=
  some (t0, M)
set_option maxRecDepth 100000 in
set_option maxHeartbeats 4000000 in
theorem wX10_mendable_j23 {r : Int32} {M' : Mm}   {t0 : Int32} {M : Mm} (B : Bx p s m args c cX10_mendable 2 RX10 E L) (hr : meth.sig.returnType = (some .int)) (hlk : meth.locks = false)   (h : fX10_mendable_j23 fu t0 M = some (r, M')) (hR : Rx s E L M H locs) (hl : lv_has ls 2 []) : W p l e (rmD (d + 5)) s m args below meth c H locs 0 0 (MQ below (QcM E L (some (.int r)) M') args s 0 0 E.2.2.2) (F0 m 23 ls [.int t0]) := by
  have hx := B.1
  have hb := B.2.1
  unfold fX10_mendable_j23 at h
  exact r_iretW B hR hr hlk h dX10_mendable_23
def fX10_mendable (fu : Nat) (a0 : Nat) (x1 : Int32) (M : Mm) : Option (Int32 × Mm) :=
  bi (fX8_hasPage fu (a0 + 12) x1 M) fun r_5 =>
  if r_5 = 0 then
    fX10_mendable_j23 fu (-1) M
  else
    bm (fX10_piecesNow fu a0 M) fun M_12 =>
    bi (fX5_mendingKind fu (a0 + 198) x1 M_12) fun r_16 =>
    fX10_mendable_j23 fu r_16 M_12
set_option maxRecDepth 100000 in
set_option maxHeartbeats 4000000 in
theorem mX10_mendable {l : Launch} {E : Ge} {L : Lay} (fu d : Nat) {a0 : Nat} {x1 : Int32} {M : Mm} {r : Int32} {M' : Mm}  (h0 : At L a0 T10) (h : fX10_mendable fu a0 x1 M = some (r, M')) : Ct l E L yX10_mendable cX10_mendable 2 (some .int) (d + 5) [.ref a0, .int x1] M (some (.int r)) M' := by
  refine Ct.of (by decide) ?_
  intro p e s m below meth c hr hlk B hR
  have B : Bx p s m _ c cX10_mendable 2 RX10 E L := B
  have hx := B.1
  have hb := B.2.1
  have hl := lv_entry ([.ref a0, .int x1]) (n := 2) (Nat.le_of_ble_eq_true rfl)
  rw [lg_entry_eq]
  generalize (lg_sl ([.ref a0, .int x1]) ++ List.replicate (2 - (lg_sl ([.ref a0, .int x1])).length) Slot.unset).toArray = ls at hl ⊢
  have hl : lv_has ls 2 [(0, .ref a0), (1, .int x1)] := hl
  unfold fX10_mendable at h
  refine lv_aload_n hx hb dX10_mendable_0 rfl (lv_at hl 0 rfl) ?_
  refine gf_X10_19 B hR (h0.at0 rfl) dX10_mendable_1 ?_
  refine lv_iload_n hx hb dX10_mendable_4 rfl (lv_at hl 1 rfl) ?_
  obtain ⟨r_5, hc_5, h⟩ := bi_el h
  refine iv_X10_179 B hR ((sb_10_1 h0).at0 rfl) hl.1 (mX8_hasPage fu _ (sb_10_1 h0) hc_5) (Nat.le_of_ble_eq_true rfl) dX10_mendable_5 (fun H locs hR => ?_)
  refine lv_if_eq (tgt := 22) hx hb dX10_mendable_8 (by decide) (fun c_8 => ?_) (fun c_8 => ?_)
  · rw [if_pos c_8] at h
    refine lv_iconst (v := (-1)) hx hb dX10_mendable_22 (by decide) ?_
    exact wX10_mendable_j23 B hr hlk  h hR (lv_sub hl [] rfl)
  · rw [if_neg c_8] at h
    refine lv_aload_n hx hb dX10_mendable_11 rfl (lv_at hl 0 rfl) ?_
    obtain ⟨M_12, hc_12, h⟩ := bm_el h
    refine iv_X10_185 B hR (h0.at0 rfl) hl.1 (mX10_piecesNow fu _ h0 hc_12) (Nat.le_of_ble_eq_true rfl) dX10_mendable_12 (fun H locs hR => ?_)
    refine lv_iload_n hx hb dX10_mendable_15 rfl (lv_at hl 1 rfl) ?_
    obtain ⟨r_16, hc_16, h⟩ := bi_el h
    refine iv_X10_193 B hR ((sb_10_6 h0).at0 rfl) hl.1 (mX5_mendingKind fu _ (sb_10_6 h0) hc_16) (Nat.le_of_ble_eq_true rfl) dX10_mendable_16 (fun H locs hR => ?_)
    refine lv_goto (tgt := 23) hx hb dX10_mendable_19 (by decide) ?_
    exact wX10_mendable_j23 B hr hlk  h hR (lv_sub hl [] rfl)
def fX10_withPages (fu : Nat) (L : Lay) (a0 : Nat) (x1 : Int32) (M : Mm) : Option (Int32 × Mm) :=
  bm (fX10_pagedNow fu L a0 M) fun M_1 =>
  if x1 = 0 then
    some ((M_1.1 (a0 + 224) 3), M_1)
  else
    if x1 = 1 then
      bi (fX8_pages fu (a0 + 12) M_1) fun r_45 =>
      bi (fX10_owned fu 64 (a0 + 228) r_45 M_1) fun r_48 =>
      some (r_48, M_1)
    else
      some ((-1), M_1)
set_option maxRecDepth 100000 in
set_option maxHeartbeats 4000000 in
theorem mX10_withPages {l : Launch} {E : Ge} {L : Lay} (fu d : Nat) {a0 : Nat} {x1 : Int32} {M : Mm} {r : Int32} {M' : Mm}  (h0 : At L a0 T10) (h : fX10_withPages fu L a0 x1 M = some (r, M')) : Ct l E L yX10_withPages cX10_withPages 3 (some .int) (d + 55) [.ref a0, .int x1] M (some (.int r)) M' := by
  refine Ct.of (by decide) ?_
  intro p e s m below meth c hr hlk B hR
  have B : Bx p s m _ c cX10_withPages 3 RX10 E L := B
  have hx := B.1
  have hb := B.2.1
  have hl := lv_entry ([.ref a0, .int x1]) (n := 3) (Nat.le_of_ble_eq_true rfl)
  rw [lg_entry_eq]
  generalize (lg_sl ([.ref a0, .int x1]) ++ List.replicate (3 - (lg_sl ([.ref a0, .int x1])).length) Slot.unset).toArray = ls at hl ⊢
  have hl : lv_has ls 3 [(0, .ref a0), (1, .int x1)] := hl
  unfold fX10_withPages at h
  refine lv_aload_n hx hb dX10_withPages_0 rfl (lv_at hl 0 rfl) ?_
  obtain ⟨M_1, hc_1, h⟩ := bm_el h
  refine iv_X10_197 B hR (h0.at0 rfl) hl.1 (mX10_pagedNow fu _ h0 hc_1) (Nat.le_of_ble_eq_true rfl) dX10_withPages_1 (fun H locs hR => ?_)
  refine lv_astore_n (lv' := [(2, .ref (a0 + 224)), (0, .ref a0), (1, .int x1)]) hx hb dX10_withPages_4 rfl hl (by decide) rfl (fun ls hl => ?_)
  refine lv_iload_n hx hb dX10_withPages_5 rfl (lv_at hl 2 rfl) ?_
  by_cases s_6_0 : x1 = 0
  · rw [if_pos s_6_0] at h
    refine lv_lookup (tgt := 32) (off := 26) hx hb dX10_withPages_6 (by decide +kernel) (by rw [s_6_0]; try rfl) (by decide) ?_
    refine lv_aload_n hx hb dX10_withPages_32 rfl (lv_at hl 0 rfl) ?_
    refine gf_X10_169 B hR ((sb_10_9 h0).at0 rfl) dX10_withPages_33 ?_
    exact r_iretW B hR hr hlk h dX10_withPages_36
  · rw [if_neg s_6_0] at h
    by_cases s_6_1 : x1 = 1
    · rw [if_pos s_6_1] at h
      refine lv_lookup (tgt := 37) (off := 31) hx hb dX10_withPages_6 (by decide +kernel) (by rw [s_6_1]; try rfl) (by decide) ?_
      refine lv_aload_n hx hb dX10_withPages_37 rfl (lv_at hl 1 rfl) ?_
      refine gf_X10_75 B hR (h0.at0 rfl) dX10_withPages_38 ?_
      refine lv_aload_n hx hb dX10_withPages_41 rfl (lv_at hl 1 rfl) ?_
      refine gf_X10_19 B hR (h0.at0 rfl) dX10_withPages_42 ?_
      obtain ⟨r_45, hc_45, h⟩ := bi_el h
      refine iv_X10_189 B hR ((sb_10_1 h0).at0 rfl) hl.1 (mX8_pages fu _ (sb_10_1 h0) hc_45) (Nat.le_of_ble_eq_true rfl) dX10_withPages_45 (fun H locs hR => ?_)
      obtain ⟨r_48, hc_48, h⟩ := bi_el h
      refine is_X10_266 B hR hl.1 (mX10_owned fu _ (h0.at 228 rfl) hc_48) (Nat.le_of_ble_eq_true rfl) dX10_withPages_48 (fun H locs hR => ?_)
      exact r_iretW B hR hr hlk h dX10_withPages_51
    · rw [if_neg s_6_1] at h
      refine lv_lookup (tgt := 52) (off := 46) hx hb dX10_withPages_6 (by decide +kernel) (by show Op.lookupswitch.offset [(0, 26), (1, 31)] 46 (x1 : Int32).toInt = 46; rw [lv_osw s_6_0 (by decide), lv_osw s_6_1 (by decide)]; try rfl) (by decide) ?_
      refine lv_iconst (v := (-1)) hx hb dX10_withPages_52 (by decide) ?_
      exact r_iretW B hR hr hlk h dX10_withPages_53
def fX10_pagedPlan (fu : Nat) (L : Lay) (a0 : Nat) (x1 : Int32) (x2 : Int32) (M : Mm) : Option (Int32 × Mm) :=
  bm (fX10_pagedNow fu L a0 M) fun M_1 =>
  bi (fX0_tell fu 160 (a0 + 224) x1 x2 M_1) fun r_6 =>
  some (r_6, M_1)
set_option maxRecDepth 100000 in
set_option maxHeartbeats 4000000 in
theorem mX10_pagedPlan {l : Launch} {E : Ge} {L : Lay} (fu d : Nat) {a0 : Nat} {x1 : Int32} {x2 : Int32} {M : Mm} {r : Int32} {M' : Mm}  (h0 : At L a0 T10) (h : fX10_pagedPlan fu L a0 x1 x2 M = some (r, M')) : Ct l E L yX10_pagedPlan cX10_pagedPlan 3 (some .int) (d + 55) [.ref a0, .int x1, .int x2] M (some (.int r)) M' := by
  refine Ct.of (by decide) ?_
  intro p e s m below meth c hr hlk B hR
  have B : Bx p s m _ c cX10_pagedPlan 3 RX10 E L := B
  have hx := B.1
  have hb := B.2.1
  have hl := lv_entry ([.ref a0, .int x1, .int x2]) (n := 3) (Nat.le_of_ble_eq_true rfl)
  rw [lg_entry_eq]
  generalize (lg_sl ([.ref a0, .int x1, .int x2]) ++ List.replicate (3 - (lg_sl ([.ref a0, .int x1, .int x2])).length) Slot.unset).toArray = ls at hl ⊢
  have hl : lv_has ls 3 [(0, .ref a0), (1, .int x1), (2, .int x2)] := hl
  unfold fX10_pagedPlan at h
  refine lv_aload_n hx hb dX10_pagedPlan_0 rfl (lv_at hl 0 rfl) ?_
  obtain ⟨M_1, hc_1, h⟩ := bm_el h
  refine iv_X10_197 B hR (h0.at0 rfl) hl.1 (mX10_pagedNow fu _ h0 hc_1) (Nat.le_of_ble_eq_true rfl) dX10_pagedPlan_1 (fun H locs hR => ?_)
  refine lv_iload_n hx hb dX10_pagedPlan_4 rfl (lv_at hl 1 rfl) ?_
  refine lv_iload_n hx hb dX10_pagedPlan_5 rfl (lv_at hl 2 rfl) ?_
  obtain ⟨r_6, hc_6, h⟩ := bi_el h
  refine iv_X10_270 B hR ((sb_10_9 h0).at0 rfl) hl.1 (mX0_tell fu _ (sb_10_9 h0) hc_6) (Nat.le_of_ble_eq_true rfl) dX10_pagedPlan_6 (fun H locs hR => ?_)
  exact r_iretW B hR hr hlk h dX10_pagedPlan_9
def fX10_pageFor (fu : Nat) (L : Lay) (a0 : Nat) (x1 : Int32) (M : Mm) : Option (Int32 × Mm) :=
  bi (fX8_hasPage fu (a0 + 12) x1 M) fun r_5 =>
  if r_5 = 0 then
    some ((-1), M)
  else
    bm (fX10_pagedNow fu L a0 M) fun M_14 =>
    if x1 < 0 ∨ 64 ≤ ix x1 then none else
    some ((M_14.1 (a0 + 228) (ix x1)), M_14)
set_option maxRecDepth 100000 in
set_option maxHeartbeats 4000000 in
theorem mX10_pageFor {l : Launch} {E : Ge} {L : Lay} (fu d : Nat) {a0 : Nat} {x1 : Int32} {M : Mm} {r : Int32} {M' : Mm}  (h0 : At L a0 T10) (h : fX10_pageFor fu L a0 x1 M = some (r, M')) : Ct l E L yX10_pageFor cX10_pageFor 2 (some .int) (d + 55) [.ref a0, .int x1] M (some (.int r)) M' := by
  refine Ct.of (by decide) ?_
  intro p e s m below meth c hr hlk B hR
  have B : Bx p s m _ c cX10_pageFor 2 RX10 E L := B
  have hx := B.1
  have hb := B.2.1
  have hl := lv_entry ([.ref a0, .int x1]) (n := 2) (Nat.le_of_ble_eq_true rfl)
  rw [lg_entry_eq]
  generalize (lg_sl ([.ref a0, .int x1]) ++ List.replicate (2 - (lg_sl ([.ref a0, .int x1])).length) Slot.unset).toArray = ls at hl ⊢
  have hl : lv_has ls 2 [(0, .ref a0), (1, .int x1)] := hl
  unfold fX10_pageFor at h
  refine lv_aload_n hx hb dX10_pageFor_0 rfl (lv_at hl 0 rfl) ?_
  refine gf_X10_19 B hR (h0.at0 rfl) dX10_pageFor_1 ?_
  refine lv_iload_n hx hb dX10_pageFor_4 rfl (lv_at hl 1 rfl) ?_
  obtain ⟨r_5, hc_5, h⟩ := bi_el h
  refine iv_X10_179 B hR ((sb_10_1 h0).at0 rfl) hl.1 (mX8_hasPage fu _ (sb_10_1 h0) hc_5) (Nat.le_of_ble_eq_true rfl) dX10_pageFor_5 (fun H locs hR => ?_)
  refine lv_if_ne (tgt := 13) hx hb dX10_pageFor_8 (by decide) (fun c_8 => ?_) (fun c_8 => ?_)
  · rw [if_neg c_8] at h
    refine lv_aload_n hx hb dX10_pageFor_13 rfl (lv_at hl 0 rfl) ?_
    obtain ⟨M_14, hc_14, h⟩ := bm_el h
    refine iv_X10_197 B hR (h0.at0 rfl) hl.1 (mX10_pagedNow fu _ h0 hc_14) (Nat.le_of_ble_eq_true rfl) dX10_pageFor_14 (fun H locs hR => ?_)
    refine lv_pop hx hb dX10_pageFor_17 rfl ?_
    refine lv_aload_n hx hb dX10_pageFor_18 rfl (lv_at hl 0 rfl) ?_
    refine gf_X10_75 B hR (h0.at0 rfl) dX10_pageFor_19 ?_
    refine lv_iload_n hx hb dX10_pageFor_22 rfl (lv_at hl 1 rfl) ?_
    obtain ⟨hi_23, h⟩ := ifn_el h
    refine r_iald B hR (h0.at 228 rfl) hi_23 dX10_pageFor_23 ?_
    exact r_iretW B hR hr hlk h dX10_pageFor_24
  · rw [if_pos c_8] at h
    refine lv_iconst (v := (-1)) hx hb dX10_pageFor_11 (by decide) ?_
    exact r_iretW B hR hr hlk h dX10_pageFor_12
def fX10_wrong (fu : Nat) (a0 : Nat) (x1 : Int32) (M : Mm) : Option (Int32 × Mm) :=
  bm (fX10_piecesNow fu a0 M) fun M_1 =>
  if x1 = 0 then
    bi (fX5_wrongOnes fu (a0 + 198) (M_1.1 (a0 + 12) 4) (M_1.1 (a0 + 12) 0) M_1) fun r_51 =>
    some (r_51, M_1)
  else
    if x1 = 1 then
      bi (fX5_firstWrong fu (a0 + 198) (M_1.1 (a0 + 12) 4) M_1) fun r_63 =>
      some (r_63, M_1)
    else
      if x1 = 2 then
        bi (fX5_clashing fu (a0 + 198) M_1) fun r_68 =>
        some (r_68, M_1)
      else
        if x1 = 3 then
          bi (fX5_wrongOnes fu (a0 + 198) 0 (M_1.1 (a0 + 12) 4) M_1) fun r_81 =>
          some (r_81, M_1)
        else
          some ((-1), M_1)
set_option maxRecDepth 100000 in
set_option maxHeartbeats 4000000 in
theorem mX10_wrong {l : Launch} {E : Ge} {L : Lay} (fu d : Nat) {a0 : Nat} {x1 : Int32} {M : Mm} {r : Int32} {M' : Mm}  (h0 : At L a0 T10) (h : fX10_wrong fu a0 x1 M = some (r, M')) : Ct l E L yX10_wrong cX10_wrong 3 (some .int) (d + 5) [.ref a0, .int x1] M (some (.int r)) M' := by
  refine Ct.of (by decide) ?_
  intro p e s m below meth c hr hlk B hR
  have B : Bx p s m _ c cX10_wrong 3 RX10 E L := B
  have hx := B.1
  have hb := B.2.1
  have hl := lv_entry ([.ref a0, .int x1]) (n := 3) (Nat.le_of_ble_eq_true rfl)
  rw [lg_entry_eq]
  generalize (lg_sl ([.ref a0, .int x1]) ++ List.replicate (3 - (lg_sl ([.ref a0, .int x1])).length) Slot.unset).toArray = ls at hl ⊢
  have hl : lv_has ls 3 [(0, .ref a0), (1, .int x1)] := hl
  unfold fX10_wrong at h
  refine lv_aload_n hx hb dX10_wrong_0 rfl (lv_at hl 0 rfl) ?_
  obtain ⟨M_1, hc_1, h⟩ := bm_el h
  refine iv_X10_185 B hR (h0.at0 rfl) hl.1 (mX10_piecesNow fu _ h0 hc_1) (Nat.le_of_ble_eq_true rfl) dX10_wrong_1 (fun H locs hR => ?_)
  refine lv_astore_n (lv' := [(2, .ref (a0 + 198)), (0, .ref a0), (1, .int x1)]) hx hb dX10_wrong_4 rfl hl (by decide) rfl (fun ls hl => ?_)
  refine lv_iload_n hx hb dX10_wrong_5 rfl (lv_at hl 2 rfl) ?_
  by_cases s_6_0 : x1 = 0
  · rw [if_pos s_6_0] at h
    refine lv_tableIn (tgt := 36) hx hb dX10_wrong_6 (by rw [s_6_0]; decide) (by rw [s_6_0]; decide) (by rw [s_6_0]; rfl) (by decide) ?_
    refine lv_aload_n hx hb dX10_wrong_36 rfl (lv_at hl 0 rfl) ?_
    refine lv_aload_n hx hb dX10_wrong_37 rfl (lv_at hl 1 rfl) ?_
    refine gf_X10_19 B hR (h0.at0 rfl) dX10_wrong_38 ?_
    refine gf_X10_273 B hR ((sb_10_1 h0).at0 rfl) dX10_wrong_41 ?_
    refine lv_aload_n hx hb dX10_wrong_44 rfl (lv_at hl 1 rfl) ?_
    refine gf_X10_19 B hR (h0.at0 rfl) dX10_wrong_45 ?_
    refine gf_X10_118 B hR ((sb_10_1 h0).at0 rfl) dX10_wrong_48 ?_
    obtain ⟨r_51, hc_51, h⟩ := bi_el h
    refine iv_X10_276 B hR ((sb_10_6 h0).at0 rfl) hl.1 (mX5_wrongOnes fu _ (sb_10_6 h0) hc_51) (Nat.le_of_ble_eq_true rfl) dX10_wrong_51 (fun H locs hR => ?_)
    exact r_iretW B hR hr hlk h dX10_wrong_54
  · rw [if_neg s_6_0] at h
    by_cases s_6_1 : x1 = 1
    · rw [if_pos s_6_1] at h
      refine lv_tableIn (tgt := 55) hx hb dX10_wrong_6 (by rw [s_6_1]; decide) (by rw [s_6_1]; decide) (by rw [s_6_1]; rfl) (by decide) ?_
      refine lv_aload_n hx hb dX10_wrong_55 rfl (lv_at hl 0 rfl) ?_
      refine lv_aload_n hx hb dX10_wrong_56 rfl (lv_at hl 1 rfl) ?_
      refine gf_X10_19 B hR (h0.at0 rfl) dX10_wrong_57 ?_
      refine gf_X10_273 B hR ((sb_10_1 h0).at0 rfl) dX10_wrong_60 ?_
      obtain ⟨r_63, hc_63, h⟩ := bi_el h
      refine iv_X10_279 B hR ((sb_10_6 h0).at0 rfl) hl.1 (mX5_firstWrong fu _ (sb_10_6 h0) hc_63) (Nat.le_of_ble_eq_true rfl) dX10_wrong_63 (fun H locs hR => ?_)
      exact r_iretW B hR hr hlk h dX10_wrong_66
    · rw [if_neg s_6_1] at h
      by_cases s_6_2 : x1 = 2
      · rw [if_pos s_6_2] at h
        refine lv_tableIn (tgt := 67) hx hb dX10_wrong_6 (by rw [s_6_2]; decide) (by rw [s_6_2]; decide) (by rw [s_6_2]; rfl) (by decide) ?_
        refine lv_aload_n hx hb dX10_wrong_67 rfl (lv_at hl 0 rfl) ?_
        obtain ⟨r_68, hc_68, h⟩ := bi_el h
        refine iv_X10_282 B hR ((sb_10_6 h0).at0 rfl) hl.1 (mX5_clashing fu _ (sb_10_6 h0) hc_68) (Nat.le_of_ble_eq_true rfl) dX10_wrong_68 (fun H locs hR => ?_)
        exact r_iretW B hR hr hlk h dX10_wrong_71
      · rw [if_neg s_6_2] at h
        by_cases s_6_3 : x1 = 3
        · rw [if_pos s_6_3] at h
          refine lv_tableIn (tgt := 72) hx hb dX10_wrong_6 (by rw [s_6_3]; decide) (by rw [s_6_3]; decide) (by rw [s_6_3]; rfl) (by decide) ?_
          refine lv_aload_n hx hb dX10_wrong_72 rfl (lv_at hl 0 rfl) ?_
          refine lv_iconst (v := 0) hx hb dX10_wrong_73 (by decide) ?_
          refine lv_aload_n hx hb dX10_wrong_74 rfl (lv_at hl 1 rfl) ?_
          refine gf_X10_19 B hR (h0.at0 rfl) dX10_wrong_75 ?_
          refine gf_X10_273 B hR ((sb_10_1 h0).at0 rfl) dX10_wrong_78 ?_
          obtain ⟨r_81, hc_81, h⟩ := bi_el h
          refine iv_X10_276 B hR ((sb_10_6 h0).at0 rfl) hl.1 (mX5_wrongOnes fu _ (sb_10_6 h0) hc_81) (Nat.le_of_ble_eq_true rfl) dX10_wrong_81 (fun H locs hR => ?_)
          exact r_iretW B hR hr hlk h dX10_wrong_84
        · rw [if_neg s_6_3] at h
          refine lv_tableOut (tgt := 85) hx hb dX10_wrong_6 (by have := ne_toInt s_6_0 (a := 0) (by decide); have := ne_toInt s_6_1 (a := 1) (by decide); have := ne_toInt s_6_2 (a := 2) (by decide); have := ne_toInt s_6_3 (a := 3) (by decide); omega) (by decide) ?_
          refine lv_iconst (v := (-1)) hx hb dX10_wrong_85 (by decide) ?_
          exact r_iretW B hR hr hlk h dX10_wrong_86
def fX10_cost (fu : Nat) (L : Lay) (a0 : Nat) (x1 : Int32) (M : Mm) : Option (Int32 × Mm) :=
  if x1 = 0 then
    bw (fX6_fewestAdded fu (a0 + 206) (a0 + 12) M) fun r_36 M_36 =>
    some (r_36, M_36)
  else
    if x1 = 1 then
      bm (fX10_planNow fu L a0 M) fun M_41 =>
      some ((M_41.1 (a0 + 220) 3), M_41)
    else
      some ((-1), M)
set_option maxRecDepth 100000 in
set_option maxHeartbeats 4000000 in
theorem mX10_cost {l : Launch} {E : Ge} {L : Lay} (fu d : Nat) {a0 : Nat} {x1 : Int32} {M : Mm} {r : Int32} {M' : Mm}  (h0 : At L a0 T10) (h : fX10_cost fu L a0 x1 M = some (r, M')) : Ct l E L yX10_cost cX10_cost 2 (some .int) (d + 21) [.ref a0, .int x1] M (some (.int r)) M' := by
  refine Ct.of (by decide) ?_
  intro p e s m below meth c hr hlk B hR
  have B : Bx p s m _ c cX10_cost 2 RX10 E L := B
  have hx := B.1
  have hb := B.2.1
  have hl := lv_entry ([.ref a0, .int x1]) (n := 2) (Nat.le_of_ble_eq_true rfl)
  rw [lg_entry_eq]
  generalize (lg_sl ([.ref a0, .int x1]) ++ List.replicate (2 - (lg_sl ([.ref a0, .int x1])).length) Slot.unset).toArray = ls at hl ⊢
  have hl : lv_has ls 2 [(0, .ref a0), (1, .int x1)] := hl
  unfold fX10_cost at h
  refine lv_iload_n hx hb dX10_cost_0 rfl (lv_at hl 1 rfl) ?_
  by_cases s_1_0 : x1 = 0
  · rw [if_pos s_1_0] at h
    refine lv_lookup (tgt := 28) (off := 27) hx hb dX10_cost_1 (by decide +kernel) (by rw [s_1_0]; try rfl) (by decide) ?_
    refine lv_aload_n hx hb dX10_cost_28 rfl (lv_at hl 0 rfl) ?_
    refine gf_X10_61 B hR (h0.at0 rfl) dX10_cost_29 ?_
    refine lv_aload_n hx hb dX10_cost_32 rfl (lv_at hl 0 rfl) ?_
    refine gf_X10_19 B hR (h0.at0 rfl) dX10_cost_33 ?_
    obtain ⟨r_36, M_36, hc_36, h⟩ := bw_el h
    refine iv_X10_285 B hR ((sb_10_7 h0).at0 rfl) hl.1 (mX6_fewestAdded fu _ (sb_10_7 h0) (sb_10_1 h0) hc_36) (Nat.le_of_ble_eq_true rfl) dX10_cost_36 (fun H locs hR => ?_)
    exact r_iretW B hR hr hlk h dX10_cost_39
  · rw [if_neg s_1_0] at h
    by_cases s_1_1 : x1 = 1
    · rw [if_pos s_1_1] at h
      refine lv_lookup (tgt := 40) (off := 39) hx hb dX10_cost_1 (by decide +kernel) (by rw [s_1_1]; try rfl) (by decide) ?_
      refine lv_aload_n hx hb dX10_cost_40 rfl (lv_at hl 0 rfl) ?_
      obtain ⟨M_41, hc_41, h⟩ := bm_el h
      refine iv_X10_165 B hR (h0.at0 rfl) hl.1 (mX10_planNow fu _ h0 hc_41) (Nat.le_of_ble_eq_true rfl) dX10_cost_41 (fun H locs hR => ?_)
      refine gf_X10_169 B hR ((sb_10_8 h0).at0 rfl) dX10_cost_44 ?_
      exact r_iretW B hR hr hlk h dX10_cost_47
    · rw [if_neg s_1_1] at h
      refine lv_lookup (tgt := 48) (off := 47) hx hb dX10_cost_1 (by decide +kernel) (by show Op.lookupswitch.offset [(0, 27), (1, 39)] 47 (x1 : Int32).toInt = 47; rw [lv_osw s_1_0 (by decide), lv_osw s_1_1 (by decide)]; try rfl) (by decide) ?_
      refine lv_iconst (v := (-1)) hx hb dX10_cost_48 (by decide) ?_
      exact r_iretW B hR hr hlk h dX10_cost_49
def fX10_plan (fu : Nat) (L : Lay) (a0 : Nat) (x1 : Int32) (x2 : Int32) (M : Mm) : Option (Int32 × Mm) :=
  bm (fX10_planNow fu L a0 M) fun M_1 =>
  bi (fX0_tell fu 160 (a0 + 220) x1 x2 M_1) fun r_6 =>
  some (r_6, M_1)
set_option maxRecDepth 100000 in
set_option maxHeartbeats 4000000 in
theorem mX10_plan {l : Launch} {E : Ge} {L : Lay} (fu d : Nat) {a0 : Nat} {x1 : Int32} {x2 : Int32} {M : Mm} {r : Int32} {M' : Mm}  (h0 : At L a0 T10) (h : fX10_plan fu L a0 x1 x2 M = some (r, M')) : Ct l E L yX10_plan cX10_plan 3 (some .int) (d + 21) [.ref a0, .int x1, .int x2] M (some (.int r)) M' := by
  refine Ct.of (by decide) ?_
  intro p e s m below meth c hr hlk B hR
  have B : Bx p s m _ c cX10_plan 3 RX10 E L := B
  have hx := B.1
  have hb := B.2.1
  have hl := lv_entry ([.ref a0, .int x1, .int x2]) (n := 3) (Nat.le_of_ble_eq_true rfl)
  rw [lg_entry_eq]
  generalize (lg_sl ([.ref a0, .int x1, .int x2]) ++ List.replicate (3 - (lg_sl ([.ref a0, .int x1, .int x2])).length) Slot.unset).toArray = ls at hl ⊢
  have hl : lv_has ls 3 [(0, .ref a0), (1, .int x1), (2, .int x2)] := hl
  unfold fX10_plan at h
  refine lv_aload_n hx hb dX10_plan_0 rfl (lv_at hl 0 rfl) ?_
  obtain ⟨M_1, hc_1, h⟩ := bm_el h
  refine iv_X10_165 B hR (h0.at0 rfl) hl.1 (mX10_planNow fu _ h0 hc_1) (Nat.le_of_ble_eq_true rfl) dX10_plan_1 (fun H locs hR => ?_)
  refine lv_iload_n hx hb dX10_plan_4 rfl (lv_at hl 1 rfl) ?_
  refine lv_iload_n hx hb dX10_plan_5 rfl (lv_at hl 2 rfl) ?_
  obtain ⟨r_6, hc_6, h⟩ := bi_el h
  refine iv_X10_270 B hR ((sb_10_8 h0).at0 rfl) hl.1 (mX0_tell fu _ (sb_10_8 h0) hc_6) (Nat.le_of_ble_eq_true rfl) dX10_plan_6 (fun H locs hR => ?_)
  exact r_iretW B hR hr hlk h dX10_plan_9
def fX10_byDefault_j23 (fu : Nat) (t0 : Int32) (M : Mm) : Option (Int32 × Mm) :=
  some (t0, M)
set_option maxRecDepth 100000 in
set_option maxHeartbeats 4000000 in
theorem wX10_byDefault_j23 {r : Int32} {M' : Mm}   {t0 : Int32} {M : Mm} (B : Bx p s m args c cX10_byDefault 2 RX10 E L) (hr : meth.sig.returnType = (some .int)) (hlk : meth.locks = false)   (h : fX10_byDefault_j23 fu t0 M = some (r, M')) (hR : Rx s E L M H locs) (hl : lv_has ls 2 []) : W p l e (rmD (d + 19)) s m args below meth c H locs 0 0 (MQ below (QcM E L (some (.int r)) M') args s 0 0 E.2.2.2) (F0 m 23 ls [.int t0]) := by
  have hx := B.1
  have hb := B.2.1
  unfold fX10_byDefault_j23 at h
  exact r_iretW B hR hr hlk h dX10_byDefault_23
def fX10_byDefault (fu : Nat) (a0 : Nat) (x1 : Int32) (M : Mm) : Option (Int32 × Mm) :=
  bi (fX10_isKind fu x1) fun r_1 =>
  if r_1 = 0 then
    fX10_byDefault_j23 fu (-1) M
  else
    bw (fX6_fewestOver fu (a0 + 206) (a0 + 12) x1 M) fun r_16 M_16 =>
    fX10_byDefault_j23 fu r_16 M_16
set_option maxRecDepth 100000 in
set_option maxHeartbeats 4000000 in
theorem mX10_byDefault {l : Launch} {E : Ge} {L : Lay} (fu d : Nat) {a0 : Nat} {x1 : Int32} {M : Mm} {r : Int32} {M' : Mm}  (h0 : At L a0 T10) (h : fX10_byDefault fu a0 x1 M = some (r, M')) : Ct l E L yX10_byDefault cX10_byDefault 2 (some .int) (d + 19) [.ref a0, .int x1] M (some (.int r)) M' := by
  refine Ct.of (by decide) ?_
  intro p e s m below meth c hr hlk B hR
  have B : Bx p s m _ c cX10_byDefault 2 RX10 E L := B
  have hx := B.1
  have hb := B.2.1
  have hl := lv_entry ([.ref a0, .int x1]) (n := 2) (Nat.le_of_ble_eq_true rfl)
  rw [lg_entry_eq]
  generalize (lg_sl ([.ref a0, .int x1]) ++ List.replicate (2 - (lg_sl ([.ref a0, .int x1])).length) Slot.unset).toArray = ls at hl ⊢
  have hl : lv_has ls 2 [(0, .ref a0), (1, .int x1)] := hl
  unfold fX10_byDefault at h
  refine lv_iload_n hx hb dX10_byDefault_0 rfl (lv_at hl 1 rfl) ?_
  obtain ⟨r_1, hc_1, h⟩ := bi_el h
  refine is_X10_121 B hR hl.1 (mX10_isKind fu _  hc_1) (Nat.le_of_ble_eq_true rfl) dX10_byDefault_1 (fun H locs hR => ?_)
  refine lv_if_eq (tgt := 22) hx hb dX10_byDefault_4 (by decide) (fun c_4 => ?_) (fun c_4 => ?_)
  · rw [if_pos c_4] at h
    refine lv_iconst (v := (-1)) hx hb dX10_byDefault_22 (by decide) ?_
    exact wX10_byDefault_j23 B hr hlk  h hR (lv_sub hl [] rfl)
  · rw [if_neg c_4] at h
    refine lv_aload_n hx hb dX10_byDefault_7 rfl (lv_at hl 0 rfl) ?_
    refine gf_X10_61 B hR (h0.at0 rfl) dX10_byDefault_8 ?_
    refine lv_aload_n hx hb dX10_byDefault_11 rfl (lv_at hl 0 rfl) ?_
    refine gf_X10_19 B hR (h0.at0 rfl) dX10_byDefault_12 ?_
    refine lv_iload_n hx hb dX10_byDefault_15 rfl (lv_at hl 1 rfl) ?_
    obtain ⟨r_16, M_16, hc_16, h⟩ := bw_el h
    refine iv_X10_289 B hR ((sb_10_7 h0).at0 rfl) hl.1 (mX6_fewestOver fu _ (sb_10_7 h0) (sb_10_1 h0) hc_16) (Nat.le_of_ble_eq_true rfl) dX10_byDefault_16 (fun H locs hR => ?_)
    refine lv_goto (tgt := 23) hx hb dX10_byDefault_19 (by decide) ?_
    exact wX10_byDefault_j23 B hr hlk  h hR (lv_sub hl [] rfl)
def fX10_bestDefault_j53 (fu : Nat) (x1 : Int32) (M : Mm) : Option (Int32 × Mm) :=
  some (x1, M)
set_option maxRecDepth 100000 in
set_option maxHeartbeats 4000000 in
theorem wX10_bestDefault_j53 {r : Int32} {M' : Mm}   {x1 : Int32} {M : Mm} (B : Bx p s m args c cX10_bestDefault 5 RX10 E L) (hr : meth.sig.returnType = (some .int)) (hlk : meth.locks = false)   (h : fX10_bestDefault_j53 fu x1 M = some (r, M')) (hR : Rx s E L M H locs) (hl : lv_has ls 5 [(1, .int x1)]) : W p l e (rmD (d + 19)) s m args below meth c H locs 0 0 (MQ below (QcM E L (some (.int r)) M') args s 0 0 E.2.2.2) (F0 m 53 ls []) := by
  have hx := B.1
  have hb := B.2.1
  unfold fX10_bestDefault_j53 at h
  refine lv_iload_n hx hb dX10_bestDefault_53 rfl (lv_at hl 0 rfl) ?_
  exact r_iretW B hR hr hlk h dX10_bestDefault_54
def fX10_bestDefault_j47 (fu : Nat) (k17 : Int32 → Int32 → Int32 → Mm → Option (Int32 × Mm)) (a0 : Nat) (x1 : Int32) (x2 : Int32) (x3 : Int32) (M : Mm) : Option (Int32 × Mm) :=
  lt (x3 + 1) fun x3_47 =>
  k17 x1 x2 x3_47 M
set_option maxRecDepth 100000 in
set_option maxHeartbeats 4000000 in
theorem wX10_bestDefault_j47 {r : Int32} {M' : Mm}  {k17 : Int32 → Int32 → Int32 → Mm → Option (Int32 × Mm)} {a0 : Nat} {x1 : Int32} {x2 : Int32} {x3 : Int32} {M : Mm} (B : Bx p s m args c cX10_bestDefault 5 RX10 E L) (hr : meth.sig.returnType = (some .int)) (hlk : meth.locks = false) (ih17 : ∀ (x1 : Int32) (x2 : Int32) (x3 : Int32) (M : Mm), k17 x1 x2 x3 M = some (r, M') → ∀ (H : Heap) (locs : List Loc) (ls : Array Slot), Rx s E L M H locs → lv_has ls 5 [(0, .ref a0), (1, .int x1), (2, .int x2), (3, .int x3)] → W p l e (rmD (d + 19)) s m args below meth c H locs 0 0 (MQ below (QcM E L (some (.int r)) M') args s 0 0 E.2.2.2) (F0 m 17 ls [])) (h0 : At L a0 T10) (h : fX10_bestDefault_j47 fu k17 a0 x1 x2 x3 M = some (r, M')) (hR : Rx s E L M H locs) (hl : lv_has ls 5 [(0, .ref a0), (1, .int x1), (2, .int x2), (3, .int x3)]) : W p l e (rmD (d + 19)) s m args below meth c H locs 0 0 (MQ below (QcM E L (some (.int r)) M') args s 0 0 E.2.2.2) (F0 m 47 ls []) := by
  have hx := B.1
  have hb := B.2.1
  unfold fX10_bestDefault_j47 at h
  obtain ⟨x3_47, ex3_47, h⟩ := lt_el h
  refine lv_iinc (v := x3_47) (lv' := [(3, .int x3_47), (0, .ref a0), (1, .int x1), (2, .int x2)]) hx hb dX10_bestDefault_47 hl (k := 3) rfl (by rw [ex3_47]; rfl) (by decide) rfl (fun ls hl => ?_)
  refine lv_goto (tgt := 17) hx hb dX10_bestDefault_50 (by decide) ?_
  exact ih17 x1 x2 x3_47 M h _ _ _ hR (lv_sub hl [1, 2, 3, 0] rfl)
def fX10_bestDefault_b17 (fu : Nat) (k17 : Int32 → Int32 → Int32 → Mm → Option (Int32 × Mm)) (a0 : Nat) (x1 : Int32) (x2 : Int32) (x3 : Int32) (M : Mm) : Option (Int32 × Mm) :=
  if 5 ≤ x3 then
    fX10_bestDefault_j53 fu x1 M
  else
    bw (fX6_fewestOver fu (a0 + 206) (a0 + 12) x3 M) fun r_31 M_31 =>
    if x2 ≤ r_31 then
      fX10_bestDefault_j47 fu k17 a0 x1 x2 x3 M_31
    else
      fX10_bestDefault_j47 fu k17 a0 x3 r_31 x3 M_31
set_option maxRecDepth 100000 in
set_option maxHeartbeats 4000000 in
theorem wX10_bestDefault_b17 {r : Int32} {M' : Mm}   {k17 : Int32 → Int32 → Int32 → Mm → Option (Int32 × Mm)} {a0 : Nat} {x1 : Int32} {x2 : Int32} {x3 : Int32} {M : Mm} (B : Bx p s m args c cX10_bestDefault 5 RX10 E L) (hr : meth.sig.returnType = (some .int)) (hlk : meth.locks = false)  (ih17 : ∀ (x1 : Int32) (x2 : Int32) (x3 : Int32) (M : Mm), k17 x1 x2 x3 M = some (r, M') → ∀ (H : Heap) (locs : List Loc) (ls : Array Slot), Rx s E L M H locs → lv_has ls 5 [(0, .ref a0), (1, .int x1), (2, .int x2), (3, .int x3)] → W p l e (rmD (d + 19)) s m args below meth c H locs 0 0 (MQ below (QcM E L (some (.int r)) M') args s 0 0 E.2.2.2) (F0 m 17 ls [])) (h0 : At L a0 T10) (h : fX10_bestDefault_b17 fu k17 a0 x1 x2 x3 M = some (r, M')) (hR : Rx s E L M H locs) (hl : lv_has ls 5 [(0, .ref a0), (1, .int x1), (2, .int x2), (3, .int x3)]) : W p l e (rmD (d + 19)) s m args below meth c H locs 0 0 (MQ below (QcM E L (some (.int r)) M') args s 0 0 E.2.2.2) (F0 m 17 ls []) := by
  have hx := B.1
  have hb := B.2.1
  unfold fX10_bestDefault_b17 at h
  refine lv_iload_n hx hb dX10_bestDefault_17 rfl (lv_at hl 3 rfl) ?_
  refine lv_iconst (v := 5) hx hb dX10_bestDefault_18 (by decide) ?_
  refine lv_icmp_ge (tgt := 53) hx hb dX10_bestDefault_19 (by decide) (fun c_19 => ?_) (fun c_19 => ?_)
  · rw [if_pos c_19] at h
    exact wX10_bestDefault_j53 B hr hlk  h hR (lv_sub hl [1] rfl)
  · rw [if_neg c_19] at h
    refine lv_aload_n hx hb dX10_bestDefault_22 rfl (lv_at hl 0 rfl) ?_
    refine gf_X10_61 B hR (h0.at0 rfl) dX10_bestDefault_23 ?_
    refine lv_aload_n hx hb dX10_bestDefault_26 rfl (lv_at hl 0 rfl) ?_
    refine gf_X10_19 B hR (h0.at0 rfl) dX10_bestDefault_27 ?_
    refine lv_iload_n hx hb dX10_bestDefault_30 rfl (lv_at hl 3 rfl) ?_
    obtain ⟨r_31, M_31, hc_31, h⟩ := bw_el h
    refine iv_X10_289 B hR ((sb_10_7 h0).at0 rfl) hl.1 (mX6_fewestOver fu _ (sb_10_7 h0) (sb_10_1 h0) hc_31) (Nat.le_of_ble_eq_true rfl) dX10_bestDefault_31 (fun H locs hR => ?_)
    refine lv_istore (lv' := [(4, .int r_31), (0, .ref a0), (1, .int x1), (2, .int x2), (3, .int x3)]) hx hb dX10_bestDefault_34 hl (by decide) rfl (fun ls hl => ?_)
    refine lv_iload hx hb dX10_bestDefault_36 (lv_at hl 0 rfl) ?_
    refine lv_iload_n hx hb dX10_bestDefault_38 rfl (lv_at hl 3 rfl) ?_
    refine lv_icmp_ge (tgt := 47) hx hb dX10_bestDefault_39 (by decide) (fun c_39 => ?_) (fun c_39 => ?_)
    · rw [if_pos c_39] at h
      exact wX10_bestDefault_j47 B hr hlk ih17 h0 h hR (lv_sub hl [1, 2, 3, 4] rfl)
    · rw [if_neg c_39] at h
      refine lv_iload_n hx hb dX10_bestDefault_42 rfl (lv_at hl 4 rfl) ?_
      refine lv_istore_n (lv' := [(1, .int x3), (4, .int r_31), (0, .ref a0), (2, .int x2), (3, .int x3)]) hx hb dX10_bestDefault_43 rfl hl (by decide) rfl (fun ls hl => ?_)
      refine lv_iload hx hb dX10_bestDefault_44 (lv_at hl 1 rfl) ?_
      refine lv_istore_n (lv' := [(2, .int r_31), (1, .int x3), (4, .int r_31), (0, .ref a0), (3, .int x3)]) hx hb dX10_bestDefault_46 rfl hl (by decide) rfl (fun ls hl => ?_)
      exact wX10_bestDefault_j47 B hr hlk ih17 h0 h hR (lv_sub hl [3, 1, 0, 4] rfl)
def fX10_bestDefault_l17 (fu : Nat) (a0 : Nat) (x1 : Int32) (x2 : Int32) (x3 : Int32) (M : Mm) : Option (Int32 × Mm) := lp (fun (rec : (Int32 × Int32 × Int32 × Mm) → Option (Int32 × Mm)) (s : Int32 × Int32 × Int32 × Mm) => fX10_bestDefault_b17 fu  (fun x1 x2 x3 M => rec (x1, x2, x3, M)) a0 s.1 s.2.1 s.2.2.1 s.2.2.2) fu (x1, x2, x3, M)
set_option maxRecDepth 100000 in
set_option maxHeartbeats 4000000 in
theorem wX10_bestDefault_l17 {r : Int32} {M' : Mm}   {a0 : Nat} {x1 : Int32} {x2 : Int32} {x3 : Int32} {M : Mm} (B : Bx p s m args c cX10_bestDefault 5 RX10 E L) (hr : meth.sig.returnType = (some .int)) (hlk : meth.locks = false)  (h0 : At L a0 T10) (h : fX10_bestDefault_l17 fu a0 x1 x2 x3 M = some (r, M')) (hR : Rx s E L M H locs) (hl : lv_has ls 5 [(0, .ref a0), (1, .int x1), (2, .int x2), (3, .int x3)]) : W p l e (rmD (d + 19)) s m args below meth c H locs 0 0 (MQ below (QcM E L (some (.int r)) M') args s 0 0 E.2.2.2) (F0 m 17 ls []) := by
  refine lp_G (G := fun z : Int32 × Int32 × Int32 × Mm => ∀ (H : Heap) (locs : List Loc) (ls : Array Slot), Rx s E L z.2.2.2 H locs → lv_has ls 5 [(0, .ref a0), (1, .int z.1), (2, .int z.2.1), (3, .int z.2.2.1)] → W p l e (rmD (d + 19)) s m args below meth c H locs 0 0 (MQ below (QcM E L (some (.int r)) M') args s 0 0 E.2.2.2) (F0 m 17 ls [])) (fun rec ih z h H locs ls hR hl => ?_) fu _ h H locs ls hR hl
  exact wX10_bestDefault_b17 B hr hlk  (fun x1 x2 x3 M h => ih (x1, x2, x3, M) h) h0 h hR hl
def fX10_bestDefault (fu : Nat) (a0 : Nat) (M : Mm) : Option (Int32 × Mm) :=
  bw (fX6_fewestOver fu (a0 + 206) (a0 + 12) 0 M) fun r_11 M_11 =>
  fX10_bestDefault_l17 fu a0 0 r_11 1 M_11
set_option maxRecDepth 100000 in
set_option maxHeartbeats 4000000 in
theorem mX10_bestDefault {l : Launch} {E : Ge} {L : Lay} (fu d : Nat) {a0 : Nat} {M : Mm} {r : Int32} {M' : Mm}  (h0 : At L a0 T10) (h : fX10_bestDefault fu a0 M = some (r, M')) : Ct l E L yX10_bestDefault cX10_bestDefault 5 (some .int) (d + 19) [.ref a0] M (some (.int r)) M' := by
  refine Ct.of (by decide) ?_
  intro p e s m below meth c hr hlk B hR
  have B : Bx p s m _ c cX10_bestDefault 5 RX10 E L := B
  have hx := B.1
  have hb := B.2.1
  have hl := lv_entry ([.ref a0]) (n := 5) (Nat.le_of_ble_eq_true rfl)
  rw [lg_entry_eq]
  generalize (lg_sl ([.ref a0]) ++ List.replicate (5 - (lg_sl ([.ref a0])).length) Slot.unset).toArray = ls at hl ⊢
  have hl : lv_has ls 5 [(0, .ref a0)] := hl
  unfold fX10_bestDefault at h
  refine lv_iconst (v := 0) hx hb dX10_bestDefault_0 (by decide) ?_
  refine lv_istore_n (lv' := [(1, .int 0), (0, .ref a0)]) hx hb dX10_bestDefault_1 rfl hl (by decide) rfl (fun ls hl => ?_)
  refine lv_aload_n hx hb dX10_bestDefault_2 rfl (lv_at hl 1 rfl) ?_
  refine gf_X10_61 B hR (h0.at0 rfl) dX10_bestDefault_3 ?_
  refine lv_aload_n hx hb dX10_bestDefault_6 rfl (lv_at hl 1 rfl) ?_
  refine gf_X10_19 B hR (h0.at0 rfl) dX10_bestDefault_7 ?_
  refine lv_iconst (v := 0) hx hb dX10_bestDefault_10 (by decide) ?_
  obtain ⟨r_11, M_11, hc_11, h⟩ := bw_el h
  refine iv_X10_289 B hR ((sb_10_7 h0).at0 rfl) hl.1 (mX6_fewestOver fu _ (sb_10_7 h0) (sb_10_1 h0) hc_11) (Nat.le_of_ble_eq_true rfl) dX10_bestDefault_11 (fun H locs hR => ?_)
  refine lv_istore_n (lv' := [(2, .int r_11), (1, .int 0), (0, .ref a0)]) hx hb dX10_bestDefault_14 rfl hl (by decide) rfl (fun ls hl => ?_)
  refine lv_iconst (v := 1) hx hb dX10_bestDefault_15 (by decide) ?_
  refine lv_istore_n (lv' := [(3, .int 1), (2, .int r_11), (1, .int 0), (0, .ref a0)]) hx hb dX10_bestDefault_16 rfl hl (by decide) rfl (fun ls hl => ?_)
  exact wX10_bestDefault_l17 B hr hlk h0 h hR (lv_sub hl [3, 2, 1, 0] rfl)
def fX10_idle_j27 (fu : Nat) (t0 : Int32) (M : Mm) : Option (Int32 × Mm) :=
  some (t0, M)
set_option maxRecDepth 100000 in
set_option maxHeartbeats 4000000 in
theorem wX10_idle_j27 {r : Int32} {M' : Mm}   {t0 : Int32} {M : Mm} (B : Bx p s m args c cX10_idle 2 RX10 E L) (hr : meth.sig.returnType = (some .int)) (hlk : meth.locks = false)   (h : fX10_idle_j27 fu t0 M = some (r, M')) (hR : Rx s E L M H locs) (hl : lv_has ls 2 []) : W p l e (rmD (d + 5)) s m args below meth c H locs 0 0 (MQ below (QcM E L (some (.int r)) M') args s 0 0 E.2.2.2) (F0 m 27 ls [.int t0]) := by
  have hx := B.1
  have hb := B.2.1
  unfold fX10_idle_j27 at h
  exact r_iretW B hR hr hlk h dX10_idle_27
def fX10_idle (fu : Nat) (a0 : Nat) (x1 : Int32) (M : Mm) : Option (Int32 × Mm) :=
  bi (fX8_isSet fu (a0 + 12) x1 M) fun r_5 =>
  if r_5 = 0 then
    fX10_idle_j27 fu (-1) M
  else
    bm (fX10_piecesNow fu a0 M) fun M_12 =>
    bi (fX5_idleWithout fu (a0 + 198) (a0 + 12) x1 M_12) fun r_20 =>
    fX10_idle_j27 fu r_20 M_12
set_option maxRecDepth 100000 in
set_option maxHeartbeats 4000000 in
theorem mX10_idle {l : Launch} {E : Ge} {L : Lay} (fu d : Nat) {a0 : Nat} {x1 : Int32} {M : Mm} {r : Int32} {M' : Mm}  (h0 : At L a0 T10) (h : fX10_idle fu a0 x1 M = some (r, M')) : Ct l E L yX10_idle cX10_idle 2 (some .int) (d + 5) [.ref a0, .int x1] M (some (.int r)) M' := by
  refine Ct.of (by decide) ?_
  intro p e s m below meth c hr hlk B hR
  have B : Bx p s m _ c cX10_idle 2 RX10 E L := B
  have hx := B.1
  have hb := B.2.1
  have hl := lv_entry ([.ref a0, .int x1]) (n := 2) (Nat.le_of_ble_eq_true rfl)
  rw [lg_entry_eq]
  generalize (lg_sl ([.ref a0, .int x1]) ++ List.replicate (2 - (lg_sl ([.ref a0, .int x1])).length) Slot.unset).toArray = ls at hl ⊢
  have hl : lv_has ls 2 [(0, .ref a0), (1, .int x1)] := hl
  unfold fX10_idle at h
  refine lv_aload_n hx hb dX10_idle_0 rfl (lv_at hl 0 rfl) ?_
  refine gf_X10_19 B hR (h0.at0 rfl) dX10_idle_1 ?_
  refine lv_iload_n hx hb dX10_idle_4 rfl (lv_at hl 1 rfl) ?_
  obtain ⟨r_5, hc_5, h⟩ := bi_el h
  refine iv_X10_162 B hR ((sb_10_1 h0).at0 rfl) hl.1 (mX8_isSet fu _ (sb_10_1 h0) hc_5) (Nat.le_of_ble_eq_true rfl) dX10_idle_5 (fun H locs hR => ?_)
  refine lv_if_eq (tgt := 26) hx hb dX10_idle_8 (by decide) (fun c_8 => ?_) (fun c_8 => ?_)
  · rw [if_pos c_8] at h
    refine lv_iconst (v := (-1)) hx hb dX10_idle_26 (by decide) ?_
    exact wX10_idle_j27 B hr hlk  h hR (lv_sub hl [] rfl)
  · rw [if_neg c_8] at h
    refine lv_aload_n hx hb dX10_idle_11 rfl (lv_at hl 0 rfl) ?_
    obtain ⟨M_12, hc_12, h⟩ := bm_el h
    refine iv_X10_185 B hR (h0.at0 rfl) hl.1 (mX10_piecesNow fu _ h0 hc_12) (Nat.le_of_ble_eq_true rfl) dX10_idle_12 (fun H locs hR => ?_)
    refine lv_aload_n hx hb dX10_idle_15 rfl (lv_at hl 0 rfl) ?_
    refine gf_X10_19 B hR (h0.at0 rfl) dX10_idle_16 ?_
    refine lv_iload_n hx hb dX10_idle_19 rfl (lv_at hl 1 rfl) ?_
    obtain ⟨r_20, hc_20, h⟩ := bi_el h
    refine iv_X10_306 B hR ((sb_10_6 h0).at0 rfl) hl.1 (mX5_idleWithout fu _ (sb_10_6 h0) (sb_10_1 h0) hc_20) (Nat.le_of_ble_eq_true rfl) dX10_idle_20 (fun H locs hR => ?_)
    refine lv_goto (tgt := 27) hx hb dX10_idle_23 (by decide) ?_
    exact wX10_idle_j27 B hr hlk  h hR (lv_sub hl [] rfl)
def fX10_without_j29 (fu : Nat) (t0 : Int32) (M : Mm) : Option (Int32 × Mm) :=
  some (t0, M)
set_option maxRecDepth 100000 in
set_option maxHeartbeats 4000000 in
theorem wX10_without_j29 {r : Int32} {M' : Mm}   {t0 : Int32} {M : Mm} (B : Bx p s m args c cX10_without 2 RX10 E L) (hr : meth.sig.returnType = (some .int)) (hlk : meth.locks = false)   (h : fX10_without_j29 fu t0 M = some (r, M')) (hR : Rx s E L M H locs) (hl : lv_has ls 2 []) : W p l e (rmD (d + 5)) s m args below meth c H locs 0 0 (MQ below (QcM E L (some (.int r)) M') args s 0 0 E.2.2.2) (F0 m 29 ls [.int t0]) := by
  have hx := B.1
  have hb := B.2.1
  unfold fX10_without_j29 at h
  exact r_iretW B hR hr hlk h dX10_without_29
def fX10_without (fu : Nat) (a0 : Nat) (x1 : Int32) (M : Mm) : Option (Int32 × Mm) :=
  bi (fX8_isSet fu (a0 + 12) x1 M) fun r_5 =>
  if r_5 = 0 then
    fX10_without_j29 fu (-2000) M
  else
    bm (fX10_piecesNow fu a0 M) fun M_12 =>
    bi (fX5_gainWithout fu (a0 + 198) (a0 + 12) x1 M_12) fun r_20 =>
    fX10_without_j29 fu r_20 M_12
set_option maxRecDepth 100000 in
set_option maxHeartbeats 4000000 in
theorem mX10_without {l : Launch} {E : Ge} {L : Lay} (fu d : Nat) {a0 : Nat} {x1 : Int32} {M : Mm} {r : Int32} {M' : Mm}  (h0 : At L a0 T10) (h : fX10_without fu a0 x1 M = some (r, M')) : Ct l E L yX10_without cX10_without 2 (some .int) (d + 5) [.ref a0, .int x1] M (some (.int r)) M' := by
  refine Ct.of (by decide) ?_
  intro p e s m below meth c hr hlk B hR
  have B : Bx p s m _ c cX10_without 2 RX10 E L := B
  have hx := B.1
  have hb := B.2.1
  have hl := lv_entry ([.ref a0, .int x1]) (n := 2) (Nat.le_of_ble_eq_true rfl)
  rw [lg_entry_eq]
  generalize (lg_sl ([.ref a0, .int x1]) ++ List.replicate (2 - (lg_sl ([.ref a0, .int x1])).length) Slot.unset).toArray = ls at hl ⊢
  have hl : lv_has ls 2 [(0, .ref a0), (1, .int x1)] := hl
  unfold fX10_without at h
  refine lv_aload_n hx hb dX10_without_0 rfl (lv_at hl 0 rfl) ?_
  refine gf_X10_19 B hR (h0.at0 rfl) dX10_without_1 ?_
  refine lv_iload_n hx hb dX10_without_4 rfl (lv_at hl 1 rfl) ?_
  obtain ⟨r_5, hc_5, h⟩ := bi_el h
  refine iv_X10_162 B hR ((sb_10_1 h0).at0 rfl) hl.1 (mX8_isSet fu _ (sb_10_1 h0) hc_5) (Nat.le_of_ble_eq_true rfl) dX10_without_5 (fun H locs hR => ?_)
  refine lv_if_eq (tgt := 26) hx hb dX10_without_8 (by decide) (fun c_8 => ?_) (fun c_8 => ?_)
  · rw [if_pos c_8] at h
    refine lv_sipush (v := (-2000)) hx hb dX10_without_26 (by decide) ?_
    exact wX10_without_j29 B hr hlk  h hR (lv_sub hl [] rfl)
  · rw [if_neg c_8] at h
    refine lv_aload_n hx hb dX10_without_11 rfl (lv_at hl 0 rfl) ?_
    obtain ⟨M_12, hc_12, h⟩ := bm_el h
    refine iv_X10_185 B hR (h0.at0 rfl) hl.1 (mX10_piecesNow fu _ h0 hc_12) (Nat.le_of_ble_eq_true rfl) dX10_without_12 (fun H locs hR => ?_)
    refine lv_aload_n hx hb dX10_without_15 rfl (lv_at hl 0 rfl) ?_
    refine gf_X10_19 B hR (h0.at0 rfl) dX10_without_16 ?_
    refine lv_iload_n hx hb dX10_without_19 rfl (lv_at hl 1 rfl) ?_
    obtain ⟨r_20, hc_20, h⟩ := bi_el h
    refine iv_X10_309 B hR ((sb_10_6 h0).at0 rfl) hl.1 (mX5_gainWithout fu _ (sb_10_6 h0) (sb_10_1 h0) hc_20) (Nat.le_of_ble_eq_true rfl) dX10_without_20 (fun H locs hR => ?_)
    refine lv_goto (tgt := 29) hx hb dX10_without_23 (by decide) ?_
    exact wX10_without_j29 B hr hlk  h hR (lv_sub hl [] rfl)
def fX10_besides_j28 (fu : Nat) (M : Mm) : Option (Int32 × Mm) :=
  some ((-2000), M)
set_option maxRecDepth 100000 in
set_option maxHeartbeats 4000000 in
theorem wX10_besides_j28 {r : Int32} {M' : Mm}    {M : Mm} (B : Bx p s m args c cX10_besides 10 RX10 E L) (hr : meth.sig.returnType = (some .int)) (hlk : meth.locks = false)   (h : fX10_besides_j28 fu M = some (r, M')) (hR : Rx s E L M H locs) (hl : lv_has ls 10 []) : W p l e (rmD (d + 5)) s m args below meth c H locs 0 0 (MQ below (QcM E L (some (.int r)) M') args s 0 0 E.2.2.2) (F0 m 28 ls []) := by
  have hx := B.1
  have hb := B.2.1
  unfold fX10_besides_j28 at h
  refine lv_sipush (v := (-2000)) hx hb dX10_besides_28 (by decide) ?_
  exact r_iretW B hR hr hlk h dX10_besides_31
def fX10_besides_j151 (fu : Nat) (t0 : Int32) (M : Mm) : Option (Int32 × Mm) :=
  some (t0, M)
set_option maxRecDepth 100000 in
set_option maxHeartbeats 4000000 in
theorem wX10_besides_j151 {r : Int32} {M' : Mm}   {t0 : Int32} {M : Mm} (B : Bx p s m args c cX10_besides 10 RX10 E L) (hr : meth.sig.returnType = (some .int)) (hlk : meth.locks = false)   (h : fX10_besides_j151 fu t0 M = some (r, M')) (hR : Rx s E L M H locs) (hl : lv_has ls 10 []) : W p l e (rmD (d + 5)) s m args below meth c H locs 0 0 (MQ below (QcM E L (some (.int r)) M') args s 0 0 E.2.2.2) (F0 m 151 ls [.int t0]) := by
  have hx := B.1
  have hb := B.2.1
  unfold fX10_besides_j151 at h
  exact r_iretW B hR hr hlk h dX10_besides_151
def fX10_besides_j140 (fu : Nat) (x3 : Int32) (x5 : Int32) (x6 : Int32) (M : Mm) : Option (Int32 × Mm) :=
  if x3 = 0 then
    fX10_besides_j151 fu x5 M
  else
    fX10_besides_j151 fu x6 M
set_option maxRecDepth 100000 in
set_option maxHeartbeats 4000000 in
theorem wX10_besides_j140 {r : Int32} {M' : Mm}   {x3 : Int32} {x5 : Int32} {x6 : Int32} {M : Mm} (B : Bx p s m args c cX10_besides 10 RX10 E L) (hr : meth.sig.returnType = (some .int)) (hlk : meth.locks = false)   (h : fX10_besides_j140 fu x3 x5 x6 M = some (r, M')) (hR : Rx s E L M H locs) (hl : lv_has ls 10 [(3, .int x3), (5, .int x5), (6, .int x6)]) : W p l e (rmD (d + 5)) s m args below meth c H locs 0 0 (MQ below (QcM E L (some (.int r)) M') args s 0 0 E.2.2.2) (F0 m 140 ls []) := by
  have hx := B.1
  have hb := B.2.1
  unfold fX10_besides_j140 at h
  refine lv_iload_n hx hb dX10_besides_140 rfl (lv_at hl 0 rfl) ?_
  refine lv_if_ne (tgt := 149) hx hb dX10_besides_141 (by decide) (fun c_141 => ?_) (fun c_141 => ?_)
  · rw [if_neg c_141] at h
    refine lv_iload hx hb dX10_besides_149 (lv_at hl 2 rfl) ?_
    exact wX10_besides_j151 B hr hlk  h hR (lv_sub hl [] rfl)
  · rw [if_pos c_141] at h
    refine lv_iload hx hb dX10_besides_144 (lv_at hl 1 rfl) ?_
    refine lv_goto (tgt := 151) hx hb dX10_besides_146 (by decide) ?_
    exact wX10_besides_j151 B hr hlk  h hR (lv_sub hl [] rfl)
def fX10_besides_j131 (fu : Nat) (k64 : Int32 → Int32 → Int32 → Int32 → Option (Int32 × Mm)) (a0 : Nat) (x1 : Int32) (x3 : Int32) (a4 : Nat) (x5 : Int32) (x6 : Int32) (x7 : Int32) (x8 : Int32) (M : Mm) : Option (Int32 × Mm) :=
  lt ((x8 + x1)) fun x8_135 =>
  k64 x5 x6 x7 x8_135
set_option maxRecDepth 100000 in
set_option maxHeartbeats 4000000 in
theorem wX10_besides_j131 {r : Int32} {M' : Mm}  {k64 : Int32 → Int32 → Int32 → Int32 → Option (Int32 × Mm)} {a0 : Nat} {x1 : Int32} {x3 : Int32} {a4 : Nat} {x5 : Int32} {x6 : Int32} {x7 : Int32} {x8 : Int32} {M : Mm} (B : Bx p s m args c cX10_besides 10 RX10 E L) (hr : meth.sig.returnType = (some .int)) (hlk : meth.locks = false) (ih64 : ∀ (x5 : Int32) (x6 : Int32) (x7 : Int32) (x8 : Int32), k64 x5 x6 x7 x8 = some (r, M') → ∀ (H : Heap) (locs : List Loc) (ls : Array Slot), Rx s E L M H locs → lv_has ls 10 [(0, .ref a0), (1, .int x1), (3, .int x3), (4, .ref a4), (5, .int x5), (6, .int x6), (7, .int x7), (8, .int x8)] → W p l e (rmD (d + 5)) s m args below meth c H locs 0 0 (MQ below (QcM E L (some (.int r)) M') args s 0 0 E.2.2.2) (F0 m 64 ls [])) (h0 : At L a0 T10) (h4 : At L a4 T5) (h : fX10_besides_j131 fu k64 a0 x1 x3 a4 x5 x6 x7 x8 M = some (r, M')) (hR : Rx s E L M H locs) (hl : lv_has ls 10 [(0, .ref a0), (1, .int x1), (3, .int x3), (4, .ref a4), (5, .int x5), (6, .int x6), (7, .int x7), (8, .int x8)]) : W p l e (rmD (d + 5)) s m args below meth c H locs 0 0 (MQ below (QcM E L (some (.int r)) M') args s 0 0 E.2.2.2) (F0 m 131 ls []) := by
  have hx := B.1
  have hb := B.2.1
  unfold fX10_besides_j131 at h
  refine lv_iload hx hb dX10_besides_131 (lv_at hl 7 rfl) ?_
  refine lv_iload_n hx hb dX10_besides_133 rfl (lv_at hl 1 rfl) ?_
  refine lv_iadd hx hb dX10_besides_134 ?_
  obtain ⟨x8_135, ex8_135, h⟩ := lt_el h
  refine r_nmI ex8_135 ?_
  refine lv_istore (lv' := [(8, .int x8_135), (0, .ref a0), (1, .int x1), (3, .int x3), (4, .ref a4), (5, .int x5), (6, .int x6), (7, .int x7)]) hx hb dX10_besides_135 hl (by decide) rfl (fun ls hl => ?_)
  refine lv_goto (tgt := 64) hx hb dX10_besides_137 (by decide) ?_
  exact ih64 x5 x6 x7 x8_135 h _ _ _ hR (lv_sub hl [1, 2, 3, 4, 5, 6, 7, 0] rfl)
def fX10_besides_b64 (fu : Nat) (k64 : Int32 → Int32 → Int32 → Int32 → Option (Int32 × Mm)) (a0 : Nat) (x1 : Int32) (x3 : Int32) (a4 : Nat) (x5 : Int32) (x6 : Int32) (x7 : Int32) (x8 : Int32) (M : Mm) : Option (Int32 × Mm) :=
  if (M.1 (a0 + 12) 0) ≤ x8 then
    fX10_besides_j140 fu x3 x5 x6 M
  else
    bi (fX5_pieceFrom fu a4 x7 x8 M) fun r_82 =>
    bi (fX5_gainWithin fu a4 r_82 x8 (x8 + x1) M) fun r_97 =>
    if r_97 ≤ x5 then
      fX10_besides_j131 fu k64 a0 x1 x3 a4 x5 x6 r_82 x8 M
    else
      bi (fX8_holderOf fu (a0 + 12) x8 x1 M) fun r_116 =>
      if r_116 = (-1) then
        fX10_besides_j131 fu k64 a0 x1 x3 a4 r_97 x8 r_82 x8 M
      else
        fX10_besides_j131 fu k64 a0 x1 x3 a4 x5 x6 r_82 x8 M
set_option maxRecDepth 100000 in
set_option maxHeartbeats 4000000 in
theorem wX10_besides_b64 {r : Int32} {M' : Mm}   {k64 : Int32 → Int32 → Int32 → Int32 → Option (Int32 × Mm)} {a0 : Nat} {x1 : Int32} {x3 : Int32} {a4 : Nat} {x5 : Int32} {x6 : Int32} {x7 : Int32} {x8 : Int32} {M : Mm} (B : Bx p s m args c cX10_besides 10 RX10 E L) (hr : meth.sig.returnType = (some .int)) (hlk : meth.locks = false)  (ih64 : ∀ (x5 : Int32) (x6 : Int32) (x7 : Int32) (x8 : Int32), k64 x5 x6 x7 x8 = some (r, M') → ∀ (H : Heap) (locs : List Loc) (ls : Array Slot), Rx s E L M H locs → lv_has ls 10 [(0, .ref a0), (1, .int x1), (3, .int x3), (4, .ref a4), (5, .int x5), (6, .int x6), (7, .int x7), (8, .int x8)] → W p l e (rmD (d + 5)) s m args below meth c H locs 0 0 (MQ below (QcM E L (some (.int r)) M') args s 0 0 E.2.2.2) (F0 m 64 ls [])) (h0 : At L a0 T10) (h4 : At L a4 T5) (h : fX10_besides_b64 fu k64 a0 x1 x3 a4 x5 x6 x7 x8 M = some (r, M')) (hR : Rx s E L M H locs) (hl : lv_has ls 10 [(0, .ref a0), (1, .int x1), (3, .int x3), (4, .ref a4), (5, .int x5), (6, .int x6), (7, .int x7), (8, .int x8)]) : W p l e (rmD (d + 5)) s m args below meth c H locs 0 0 (MQ below (QcM E L (some (.int r)) M') args s 0 0 E.2.2.2) (F0 m 64 ls []) := by
  have hx := B.1
  have hb := B.2.1
  unfold fX10_besides_b64 at h
  refine lv_iload hx hb dX10_besides_64 (lv_at hl 7 rfl) ?_
  refine lv_aload_n hx hb dX10_besides_66 rfl (lv_at hl 0 rfl) ?_
  refine gf_X10_19 B hR (h0.at0 rfl) dX10_besides_67 ?_
  refine gf_X10_118 B hR ((sb_10_1 h0).at0 rfl) dX10_besides_70 ?_
  refine lv_icmp_ge (tgt := 140) hx hb dX10_besides_73 (by decide) (fun c_73 => ?_) (fun c_73 => ?_)
  · rw [if_pos c_73] at h
    exact wX10_besides_j140 B hr hlk  h hR (lv_sub hl [2, 4, 5] rfl)
  · rw [if_neg c_73] at h
    refine lv_aload hx hb dX10_besides_76 (lv_at hl 3 rfl) ?_
    refine lv_iload hx hb dX10_besides_78 (lv_at hl 6 rfl) ?_
    refine lv_iload hx hb dX10_besides_80 (lv_at hl 7 rfl) ?_
    obtain ⟨r_82, hc_82, h⟩ := bi_el h
    refine iv_X10_316 B hR (h4.at0 rfl) hl.1 (mX5_pieceFrom fu _ h4 hc_82) (Nat.le_of_ble_eq_true rfl) dX10_besides_82 (fun H locs hR => ?_)
    refine lv_istore (lv' := [(7, .int r_82), (0, .ref a0), (1, .int x1), (3, .int x3), (4, .ref a4), (5, .int x5), (6, .int x6), (8, .int x8)]) hx hb dX10_besides_85 hl (by decide) rfl (fun ls hl => ?_)
    refine lv_aload hx hb dX10_besides_87 (lv_at hl 4 rfl) ?_
    refine lv_iload hx hb dX10_besides_89 (lv_at hl 0 rfl) ?_
    refine lv_iload hx hb dX10_besides_91 (lv_at hl 7 rfl) ?_
    refine lv_iload hx hb dX10_besides_93 (lv_at hl 7 rfl) ?_
    refine lv_iload_n hx hb dX10_besides_95 rfl (lv_at hl 2 rfl) ?_
    refine lv_iadd hx hb dX10_besides_96 ?_
    obtain ⟨r_97, hc_97, h⟩ := bi_el h
    refine iv_X10_319 B hR (h4.at0 rfl) hl.1 (mX5_gainWithin fu _ h4 hc_97) (Nat.le_of_ble_eq_true rfl) dX10_besides_97 (fun H locs hR => ?_)
    refine lv_istore (lv' := [(9, .int r_97), (7, .int r_82), (0, .ref a0), (1, .int x1), (3, .int x3), (4, .ref a4), (5, .int x5), (6, .int x6), (8, .int x8)]) hx hb dX10_besides_100 hl (by decide) rfl (fun ls hl => ?_)
    refine lv_iload hx hb dX10_besides_102 (lv_at hl 0 rfl) ?_
    refine lv_iload hx hb dX10_besides_104 (lv_at hl 6 rfl) ?_
    refine lv_icmp_le (tgt := 131) hx hb dX10_besides_106 (by decide) (fun c_106 => ?_) (fun c_106 => ?_)
    · rw [if_pos c_106] at h
      exact wX10_besides_j131 B hr hlk ih64 h0 h4 h hR (lv_sub hl [2, 3, 4, 5, 6, 7, 1, 8] rfl)
    · rw [if_neg c_106] at h
      refine lv_aload_n hx hb dX10_besides_109 rfl (lv_at hl 2 rfl) ?_
      refine gf_X10_19 B hR (h0.at0 rfl) dX10_besides_110 ?_
      refine lv_iload hx hb dX10_besides_113 (lv_at hl 8 rfl) ?_
      refine lv_iload_n hx hb dX10_besides_115 rfl (lv_at hl 3 rfl) ?_
      obtain ⟨r_116, hc_116, h⟩ := bi_el h
      refine iv_X10_154 B hR ((sb_10_1 h0).at0 rfl) hl.1 (mX8_holderOf fu _ (sb_10_1 h0) hc_116) (Nat.le_of_ble_eq_true rfl) dX10_besides_116 (fun H locs hR => ?_)
      refine lv_iconst (v := (-1)) hx hb dX10_besides_119 (by decide) ?_
      refine lv_icmp_ne (tgt := 131) hx hb dX10_besides_120 (by decide) (fun c_120 => ?_) (fun c_120 => ?_)
      · rw [if_neg c_120] at h
        exact wX10_besides_j131 B hr hlk ih64 h0 h4 h hR (lv_sub hl [2, 3, 4, 5, 6, 7, 1, 8] rfl)
      · rw [if_pos c_120] at h
        refine lv_iload hx hb dX10_besides_123 (lv_at hl 0 rfl) ?_
        refine lv_istore (lv' := [(5, .int r_97), (9, .int r_97), (7, .int r_82), (0, .ref a0), (1, .int x1), (3, .int x3), (4, .ref a4), (6, .int x6), (8, .int x8)]) hx hb dX10_besides_125 hl (by decide) rfl (fun ls hl => ?_)
        refine lv_iload hx hb dX10_besides_127 (lv_at hl 8 rfl) ?_
        refine lv_istore (lv' := [(6, .int x8), (5, .int r_97), (9, .int r_97), (7, .int r_82), (0, .ref a0), (1, .int x1), (3, .int x3), (4, .ref a4), (8, .int x8)]) hx hb dX10_besides_129 hl (by decide) rfl (fun ls hl => ?_)
        exact wX10_besides_j131 B hr hlk ih64 h0 h4 h hR (lv_sub hl [4, 5, 6, 7, 1, 0, 3, 8] rfl)
def fX10_besides_l64 (fu : Nat) (a0 : Nat) (x1 : Int32) (x3 : Int32) (a4 : Nat) (M : Mm) (x5 : Int32) (x6 : Int32) (x7 : Int32) (x8 : Int32) : Option (Int32 × Mm) := lp (fun (rec : (Int32 × Int32 × Int32 × Int32) → Option (Int32 × Mm)) (s : Int32 × Int32 × Int32 × Int32) => fX10_besides_b64 fu  (fun x5 x6 x7 x8 => rec (x5, x6, x7, x8)) a0 x1 x3 a4 s.1 s.2.1 s.2.2.1 s.2.2.2 M) fu (x5, x6, x7, x8)
set_option maxRecDepth 100000 in
set_option maxHeartbeats 4000000 in
theorem wX10_besides_l64 {r : Int32} {M' : Mm}   {a0 : Nat} {x1 : Int32} {x3 : Int32} {a4 : Nat} {x5 : Int32} {x6 : Int32} {x7 : Int32} {x8 : Int32} {M : Mm} (B : Bx p s m args c cX10_besides 10 RX10 E L) (hr : meth.sig.returnType = (some .int)) (hlk : meth.locks = false)  (h0 : At L a0 T10) (h4 : At L a4 T5) (h : fX10_besides_l64 fu a0 x1 x3 a4 M x5 x6 x7 x8 = some (r, M')) (hR : Rx s E L M H locs) (hl : lv_has ls 10 [(0, .ref a0), (1, .int x1), (3, .int x3), (4, .ref a4), (5, .int x5), (6, .int x6), (7, .int x7), (8, .int x8)]) : W p l e (rmD (d + 5)) s m args below meth c H locs 0 0 (MQ below (QcM E L (some (.int r)) M') args s 0 0 E.2.2.2) (F0 m 64 ls []) := by
  refine lp_G (G := fun z : Int32 × Int32 × Int32 × Int32 => ∀ (H : Heap) (locs : List Loc) (ls : Array Slot), Rx s E L M H locs → lv_has ls 10 [(0, .ref a0), (1, .int x1), (3, .int x3), (4, .ref a4), (5, .int z.1), (6, .int z.2.1), (7, .int z.2.2.1), (8, .int z.2.2.2)] → W p l e (rmD (d + 5)) s m args below meth c H locs 0 0 (MQ below (QcM E L (some (.int r)) M') args s 0 0 E.2.2.2) (F0 m 64 ls [])) (fun rec ih z h H locs ls hR hl => ?_) fu _ h H locs ls hR hl
  exact wX10_besides_b64 B hr hlk  (fun x5 x6 x7 x8 h => ih (x5, x6, x7, x8) h) h0 h4 h hR hl
def fX10_besides (fu : Nat) (a0 : Nat) (x1 : Int32) (x2 : Int32) (x3 : Int32) (M : Mm) : Option (Int32 × Mm) :=
  bi (fX8_fits fu (a0 + 12) 0 x1 M) fun r_6 =>
  if r_6 = 0 then
    fX10_besides_j28 fu M
  else
    bi (fX10_isKind fu x2) fun r_13 =>
    if r_13 = 0 then
      fX10_besides_j28 fu M
    else
      if x3 < 0 then
        fX10_besides_j28 fu M
      else
        if x3 ≤ 1 then
          bm (fX10_piecesNow fu a0 M) fun M_33 =>
          bm (fX5_weighBesides fu (a0 + 198) (a0 + 12) x2 M_33) fun M_45 =>
          fX10_besides_l64 fu a0 x1 x3 (a0 + 198) M_45 (-2000) (-2000) 0 0
        else
          fX10_besides_j28 fu M
set_option maxRecDepth 100000 in
set_option maxHeartbeats 4000000 in
theorem mX10_besides {l : Launch} {E : Ge} {L : Lay} (fu d : Nat) {a0 : Nat} {x1 : Int32} {x2 : Int32} {x3 : Int32} {M : Mm} {r : Int32} {M' : Mm}  (h0 : At L a0 T10) (h : fX10_besides fu a0 x1 x2 x3 M = some (r, M')) : Ct l E L yX10_besides cX10_besides 10 (some .int) (d + 5) [.ref a0, .int x1, .int x2, .int x3] M (some (.int r)) M' := by
  refine Ct.of (by decide) ?_
  intro p e s m below meth c hr hlk B hR
  have B : Bx p s m _ c cX10_besides 10 RX10 E L := B
  have hx := B.1
  have hb := B.2.1
  have hl := lv_entry ([.ref a0, .int x1, .int x2, .int x3]) (n := 10) (Nat.le_of_ble_eq_true rfl)
  rw [lg_entry_eq]
  generalize (lg_sl ([.ref a0, .int x1, .int x2, .int x3]) ++ List.replicate (10 - (lg_sl ([.ref a0, .int x1, .int x2, .int x3])).length) Slot.unset).toArray = ls at hl ⊢
  have hl : lv_has ls 10 [(0, .ref a0), (1, .int x1), (2, .int x2), (3, .int x3)] := hl
  unfold fX10_besides at h
  refine lv_aload_n hx hb dX10_besides_0 rfl (lv_at hl 0 rfl) ?_
  refine gf_X10_19 B hR (h0.at0 rfl) dX10_besides_1 ?_
  refine lv_iconst (v := 0) hx hb dX10_besides_4 (by decide) ?_
  refine lv_iload_n hx hb dX10_besides_5 rfl (lv_at hl 1 rfl) ?_
  obtain ⟨r_6, hc_6, h⟩ := bi_el h
  refine iv_X10_150 B hR ((sb_10_1 h0).at0 rfl) hl.1 (mX8_fits fu _ (sb_10_1 h0) hc_6) (Nat.le_of_ble_eq_true rfl) dX10_besides_6 (fun H locs hR => ?_)
  refine lv_if_eq (tgt := 28) hx hb dX10_besides_9 (by decide) (fun c_9 => ?_) (fun c_9 => ?_)
  · rw [if_pos c_9] at h
    exact wX10_besides_j28 B hr hlk  h hR (lv_sub hl [] rfl)
  · rw [if_neg c_9] at h
    refine lv_iload_n hx hb dX10_besides_12 rfl (lv_at hl 2 rfl) ?_
    obtain ⟨r_13, hc_13, h⟩ := bi_el h
    refine is_X10_121 B hR hl.1 (mX10_isKind fu _  hc_13) (Nat.le_of_ble_eq_true rfl) dX10_besides_13 (fun H locs hR => ?_)
    refine lv_if_eq (tgt := 28) hx hb dX10_besides_16 (by decide) (fun c_16 => ?_) (fun c_16 => ?_)
    · rw [if_pos c_16] at h
      exact wX10_besides_j28 B hr hlk  h hR (lv_sub hl [] rfl)
    · rw [if_neg c_16] at h
      refine lv_iload_n hx hb dX10_besides_19 rfl (lv_at hl 3 rfl) ?_
      refine lv_if_lt (tgt := 28) hx hb dX10_besides_20 (by decide) (fun c_20 => ?_) (fun c_20 => ?_)
      · rw [if_pos c_20] at h
        exact wX10_besides_j28 B hr hlk  h hR (lv_sub hl [] rfl)
      · rw [if_neg c_20] at h
        refine lv_iload_n hx hb dX10_besides_23 rfl (lv_at hl 3 rfl) ?_
        refine lv_iconst (v := 1) hx hb dX10_besides_24 (by decide) ?_
        refine lv_icmp_le (tgt := 32) hx hb dX10_besides_25 (by decide) (fun c_25 => ?_) (fun c_25 => ?_)
        · rw [if_pos c_25] at h
          refine lv_aload_n hx hb dX10_besides_32 rfl (lv_at hl 0 rfl) ?_
          obtain ⟨M_33, hc_33, h⟩ := bm_el h
          refine iv_X10_185 B hR (h0.at0 rfl) hl.1 (mX10_piecesNow fu _ h0 hc_33) (Nat.le_of_ble_eq_true rfl) dX10_besides_33 (fun H locs hR => ?_)
          refine lv_astore (lv' := [(4, .ref (a0 + 198)), (0, .ref a0), (1, .int x1), (2, .int x2), (3, .int x3)]) hx hb dX10_besides_36 hl (by decide) rfl (fun ls hl => ?_)
          refine lv_aload hx hb dX10_besides_38 (lv_at hl 0 rfl) ?_
          refine lv_aload_n hx hb dX10_besides_40 rfl (lv_at hl 1 rfl) ?_
          refine gf_X10_19 B hR (h0.at0 rfl) dX10_besides_41 ?_
          refine lv_iload_n hx hb dX10_besides_44 rfl (lv_at hl 3 rfl) ?_
          obtain ⟨M_45, hc_45, h⟩ := bm_el h
          refine iv_X10_312 B hR ((sb_10_6 h0).at0 rfl) hl.1 (mX5_weighBesides fu _ (sb_10_6 h0) (sb_10_1 h0) hc_45) (Nat.le_of_ble_eq_true rfl) dX10_besides_45 (fun H locs hR => ?_)
          refine lv_sipush (v := (-2000)) hx hb dX10_besides_48 (by decide) ?_
          refine lv_istore (lv' := [(5, .int (-2000)), (4, .ref (a0 + 198)), (0, .ref a0), (1, .int x1), (2, .int x2), (3, .int x3)]) hx hb dX10_besides_51 hl (by decide) rfl (fun ls hl => ?_)
          refine lv_sipush (v := (-2000)) hx hb dX10_besides_53 (by decide) ?_
          refine lv_istore (lv' := [(6, .int (-2000)), (5, .int (-2000)), (4, .ref (a0 + 198)), (0, .ref a0), (1, .int x1), (2, .int x2), (3, .int x3)]) hx hb dX10_besides_56 hl (by decide) rfl (fun ls hl => ?_)
          refine lv_iconst (v := 0) hx hb dX10_besides_58 (by decide) ?_
          refine lv_istore (lv' := [(7, .int 0), (6, .int (-2000)), (5, .int (-2000)), (4, .ref (a0 + 198)), (0, .ref a0), (1, .int x1), (2, .int x2), (3, .int x3)]) hx hb dX10_besides_59 hl (by decide) rfl (fun ls hl => ?_)
          refine lv_iconst (v := 0) hx hb dX10_besides_61 (by decide) ?_
          refine lv_istore (lv' := [(8, .int 0), (7, .int 0), (6, .int (-2000)), (5, .int (-2000)), (4, .ref (a0 + 198)), (0, .ref a0), (1, .int x1), (2, .int x2), (3, .int x3)]) hx hb dX10_besides_62 hl (by decide) rfl (fun ls hl => ?_)
          exact wX10_besides_l64 B hr hlk h0 (sb_10_6 h0) h hR (lv_sub hl [5, 6, 8, 4, 3, 2, 1, 0] rfl)
        · rw [if_neg c_25] at h
          exact wX10_besides_j28 B hr hlk  h hR (lv_sub hl [] rfl)
def fX10_changeNow_j27 (fu : Nat) (L : Lay) (a0 : Nat) (M : Mm) : Option Mm :=
  some M
set_option maxRecDepth 100000 in
set_option maxHeartbeats 4000000 in
theorem wX10_changeNow_j27 {M' : Mm}   {a0 : Nat} {M : Mm} (B : Bx p s m args c cX10_changeNow 1 RX10 E L) (hr : meth.sig.returnType = (some (.object "SpanKinds$Change"))) (hlk : meth.locks = false)  (h0 : At L a0 T10) (h : fX10_changeNow_j27 fu L a0 M = some M') (hR : Rx s E L M H locs) (hl : lv_has ls 1 [(0, .ref a0)]) : W p l e (rmD (d + 22)) s m args below meth c H locs 0 0 (MQ below (QcM E L (some (.ref (a0 + 233))) M') args s 0 0 E.2.2.2) (F0 m 27 ls []) := by
  have hx := B.1
  have hb := B.2.1
  unfold fX10_changeNow_j27 at h
  refine lv_aload_n hx hb dX10_changeNow_27 rfl (lv_at hl 0 rfl) ?_
  refine gf_X10_85 B hR (h0.at0 rfl) dX10_changeNow_28 ?_
  exact r_aretW B hR hr hlk h dX10_changeNow_31
def fX10_changeNow (fu : Nat) (L : Lay) (a0 : Nat) (M : Mm) : Option Mm :=
  if (M.1 a0 18) = 0 then
    bm (fX10_planNow fu L a0 M) fun M_16 =>
    bm (fX1_make fu (a0 + 233) (a0 + 12) 160 (a0 + 220) M_16) fun M_19 =>
    lt (wI M_19 a0 18 1) fun M_24 =>
    fX10_changeNow_j27 fu L a0 M_24
  else
    fX10_changeNow_j27 fu L a0 M
set_option maxRecDepth 100000 in
set_option maxHeartbeats 4000000 in
theorem mX10_changeNow {l : Launch} {E : Ge} {L : Lay} (fu d : Nat) {a0 : Nat} {M : Mm} {M' : Mm}  (h0 : At L a0 T10) (h : fX10_changeNow fu L a0 M = some M') : Ct l E L yX10_changeNow cX10_changeNow 1 (some (.object "SpanKinds$Change")) (d + 22) [.ref a0] M (some (.ref (a0 + 233))) M' := by
  refine Ct.of (by decide) ?_
  intro p e s m below meth c hr hlk B hR
  have B : Bx p s m _ c cX10_changeNow 1 RX10 E L := B
  have hx := B.1
  have hb := B.2.1
  have hl := lv_entry ([.ref a0]) (n := 1) (Nat.le_of_ble_eq_true rfl)
  rw [lg_entry_eq]
  generalize (lg_sl ([.ref a0]) ++ List.replicate (1 - (lg_sl ([.ref a0])).length) Slot.unset).toArray = ls at hl ⊢
  have hl : lv_has ls 1 [(0, .ref a0)] := hl
  unfold fX10_changeNow at h
  refine lv_aload_n hx hb dX10_changeNow_0 rfl (lv_at hl 0 rfl) ?_
  refine gf_X10_392 B hR (h0.at0 rfl) dX10_changeNow_1 ?_
  refine lv_if_ne (tgt := 27) hx hb dX10_changeNow_4 (by decide) (fun c_4 => ?_) (fun c_4 => ?_)
  · rw [if_neg c_4] at h
    exact wX10_changeNow_j27 B hr hlk h0 h hR hl
  · rw [if_pos c_4] at h
    refine lv_aload_n hx hb dX10_changeNow_7 rfl (lv_at hl 0 rfl) ?_
    refine gf_X10_85 B hR (h0.at0 rfl) dX10_changeNow_8 ?_
    refine lv_aload_n hx hb dX10_changeNow_11 rfl (lv_at hl 0 rfl) ?_
    refine gf_X10_19 B hR (h0.at0 rfl) dX10_changeNow_12 ?_
    refine lv_aload_n hx hb dX10_changeNow_15 rfl (lv_at hl 0 rfl) ?_
    obtain ⟨M_16, hc_16, h⟩ := bm_el h
    refine iv_X10_165 B hR (h0.at0 rfl) hl.1 (mX10_planNow fu _ h0 hc_16) (Nat.le_of_ble_eq_true rfl) dX10_changeNow_16 (fun H locs hR => ?_)
    obtain ⟨M_19, hc_19, h⟩ := bm_el h
    refine iv_X10_412 B hR ((sb_10_12 h0).at0 rfl) hl.1 (mX1_make fu _ (sb_10_12 h0) (sb_10_1 h0) (sb_10_8 h0) hc_19) (Nat.le_of_ble_eq_true rfl) dX10_changeNow_19 (fun H locs hR => ?_)
    refine lv_aload_n hx hb dX10_changeNow_22 rfl (lv_at hl 0 rfl) ?_
    refine lv_iconst (v := 1) hx hb dX10_changeNow_23 (by decide) ?_
    obtain ⟨M_24, eM_24, h⟩ := lt_el h
    refine pz_X10_392 B hR (h0.at0 rfl) (Or.inr rfl) dX10_changeNow_24 (fun H locs hR => ?_)
    rw [← eM_24] at hR
    exact wX10_changeNow_j27 B hr hlk h0 h hR hl
def fX10_change_j70 (fu : Nat) (L : Lay) (t0 : Int32) (M : Mm) : Option (Int32 × Mm) :=
  some (t0, M)
set_option maxRecDepth 100000 in
set_option maxHeartbeats 4000000 in
theorem wX10_change_j70 {r : Int32} {M' : Mm}   {t0 : Int32} {M : Mm} (B : Bx p s m args c cX10_change 3 RX10 E L) (hr : meth.sig.returnType = (some .int)) (hlk : meth.locks = false)   (h : fX10_change_j70 fu L t0 M = some (r, M')) (hR : Rx s E L M H locs) (hl : lv_has ls 3 []) : W p l e (rmD (d + 23)) s m args below meth c H locs 0 0 (MQ below (QcM E L (some (.int r)) M') args s 0 0 E.2.2.2) (F0 m 70 ls [.int t0]) := by
  have hx := B.1
  have hb := B.2.1
  unfold fX10_change_j70 at h
  exact r_iretW B hR hr hlk h dX10_change_70
def fX10_change (fu : Nat) (L : Lay) (a0 : Nat) (x1 : Int32) (M : Mm) : Option (Int32 × Mm) :=
  bm (fX10_changeNow fu L a0 M) fun M_1 =>
  if x1 = 0 then
    some (((M_1.1 (a0 + 233) 0) + (M_1.1 (a0 + 233) 1)), M_1)
  else
    if x1 = 1 then
      some ((M_1.1 (a0 + 233) 0), M_1)
    else
      if x1 = 2 then
        if (M_1.1 (a0 + 233) 2) = 0 then
          fX10_change_j70 fu L (-1) M_1
        else
          if (M_1.1 (a0 + 233) 3) = 0 then
            fX10_change_j70 fu L 0 M_1
          else
            fX10_change_j70 fu L 1 M_1
      else
        some ((-1), M_1)
set_option maxRecDepth 100000 in
set_option maxHeartbeats 4000000 in
theorem mX10_change {l : Launch} {E : Ge} {L : Lay} (fu d : Nat) {a0 : Nat} {x1 : Int32} {M : Mm} {r : Int32} {M' : Mm}  (h0 : At L a0 T10) (h : fX10_change fu L a0 x1 M = some (r, M')) : Ct l E L yX10_change cX10_change 3 (some .int) (d + 23) [.ref a0, .int x1] M (some (.int r)) M' := by
  refine Ct.of (by decide) ?_
  intro p e s m below meth c hr hlk B hR
  have B : Bx p s m _ c cX10_change 3 RX10 E L := B
  have hx := B.1
  have hb := B.2.1
  have hl := lv_entry ([.ref a0, .int x1]) (n := 3) (Nat.le_of_ble_eq_true rfl)
  rw [lg_entry_eq]
  generalize (lg_sl ([.ref a0, .int x1]) ++ List.replicate (3 - (lg_sl ([.ref a0, .int x1])).length) Slot.unset).toArray = ls at hl ⊢
  have hl : lv_has ls 3 [(0, .ref a0), (1, .int x1)] := hl
  unfold fX10_change at h
  refine lv_aload_n hx hb dX10_change_0 rfl (lv_at hl 0 rfl) ?_
  obtain ⟨M_1, hc_1, h⟩ := bm_el h
  refine iv_X10_323 B hR (h0.at0 rfl) hl.1 (mX10_changeNow fu _ h0 hc_1) (Nat.le_of_ble_eq_true rfl) dX10_change_1 (fun H locs hR => ?_)
  refine lv_astore_n (lv' := [(2, .ref (a0 + 233)), (0, .ref a0), (1, .int x1)]) hx hb dX10_change_4 rfl hl (by decide) rfl (fun ls hl => ?_)
  refine lv_iload_n hx hb dX10_change_5 rfl (lv_at hl 2 rfl) ?_
  by_cases s_6_0 : x1 = 0
  · rw [if_pos s_6_0] at h
    refine lv_tableIn (tgt := 32) hx hb dX10_change_6 (by rw [s_6_0]; decide) (by rw [s_6_0]; decide) (by rw [s_6_0]; rfl) (by decide) ?_
    refine lv_aload_n hx hb dX10_change_32 rfl (lv_at hl 0 rfl) ?_
    refine gf_X10_327 B hR ((sb_10_12 h0).at0 rfl) dX10_change_33 ?_
    refine lv_aload_n hx hb dX10_change_36 rfl (lv_at hl 0 rfl) ?_
    refine gf_X10_330 B hR ((sb_10_12 h0).at0 rfl) dX10_change_37 ?_
    refine lv_iadd hx hb dX10_change_40 ?_
    exact r_iretW B hR hr hlk h dX10_change_41
  · rw [if_neg s_6_0] at h
    by_cases s_6_1 : x1 = 1
    · rw [if_pos s_6_1] at h
      refine lv_tableIn (tgt := 42) hx hb dX10_change_6 (by rw [s_6_1]; decide) (by rw [s_6_1]; decide) (by rw [s_6_1]; rfl) (by decide) ?_
      refine lv_aload_n hx hb dX10_change_42 rfl (lv_at hl 0 rfl) ?_
      refine gf_X10_327 B hR ((sb_10_12 h0).at0 rfl) dX10_change_43 ?_
      exact r_iretW B hR hr hlk h dX10_change_46
    · rw [if_neg s_6_1] at h
      by_cases s_6_2 : x1 = 2
      · rw [if_pos s_6_2] at h
        refine lv_tableIn (tgt := 47) hx hb dX10_change_6 (by rw [s_6_2]; decide) (by rw [s_6_2]; decide) (by rw [s_6_2]; rfl) (by decide) ?_
        refine lv_aload_n hx hb dX10_change_47 rfl (lv_at hl 0 rfl) ?_
        refine gf_X10_333 B hR ((sb_10_12 h0).at0 rfl) dX10_change_48 ?_
        refine lv_if_ne (tgt := 58) hx hb dX10_change_51 (by decide) (fun c_51 => ?_) (fun c_51 => ?_)
        · rw [if_neg c_51] at h
          refine lv_aload_n hx hb dX10_change_58 rfl (lv_at hl 0 rfl) ?_
          refine gf_X10_337 B hR ((sb_10_12 h0).at0 rfl) dX10_change_59 ?_
          refine lv_if_eq (tgt := 69) hx hb dX10_change_62 (by decide) (fun c_62 => ?_) (fun c_62 => ?_)
          · rw [if_pos c_62] at h
            refine lv_iconst (v := 0) hx hb dX10_change_69 (by decide) ?_
            exact wX10_change_j70 B hr hlk  h hR (lv_sub hl [] rfl)
          · rw [if_neg c_62] at h
            refine lv_iconst (v := 1) hx hb dX10_change_65 (by decide) ?_
            refine lv_goto (tgt := 70) hx hb dX10_change_66 (by decide) ?_
            exact wX10_change_j70 B hr hlk  h hR (lv_sub hl [] rfl)
        · rw [if_pos c_51] at h
          refine lv_iconst (v := (-1)) hx hb dX10_change_54 (by decide) ?_
          refine lv_goto (tgt := 70) hx hb dX10_change_55 (by decide) ?_
          exact wX10_change_j70 B hr hlk  h hR (lv_sub hl [] rfl)
      · rw [if_neg s_6_2] at h
        refine lv_tableOut (tgt := 71) hx hb dX10_change_6 (by have := ne_toInt s_6_0 (a := 0) (by decide); have := ne_toInt s_6_1 (a := 1) (by decide); have := ne_toInt s_6_2 (a := 2) (by decide); omega) (by decide) ?_
        refine lv_iconst (v := (-1)) hx hb dX10_change_71 (by decide) ?_
        exact r_iretW B hR hr hlk h dX10_change_72
def fX10_order_j23 (fu : Nat) (L : Lay) (t0 : Int32) (M : Mm) : Option (Int32 × Mm) :=
  some (t0, M)
set_option maxRecDepth 100000 in
set_option maxHeartbeats 4000000 in
theorem wX10_order_j23 {r : Int32} {M' : Mm}   {t0 : Int32} {M : Mm} (B : Bx p s m args c cX10_order 3 RX10 E L) (hr : meth.sig.returnType = (some .int)) (hlk : meth.locks = false)   (h : fX10_order_j23 fu L t0 M = some (r, M')) (hR : Rx s E L M H locs) (hl : lv_has ls 3 []) : W p l e (rmD (d + 23)) s m args below meth c H locs 0 0 (MQ below (QcM E L (some (.int r)) M') args s 0 0 E.2.2.2) (F0 m 23 ls [.int t0]) := by
  have hx := B.1
  have hb := B.2.1
  unfold fX10_order_j23 at h
  exact r_iretW B hR hr hlk h dX10_order_23
def fX10_order (fu : Nat) (L : Lay) (a0 : Nat) (x1 : Int32) (M : Mm) : Option (Int32 × Mm) :=
  bm (fX10_changeNow fu L a0 M) fun M_1 =>
  bi (fX1_hasStep fu (a0 + 233) x1 M_1) fun r_7 =>
  if r_7 = 0 then
    fX10_order_j23 fu L (-1) M_1
  else
    if x1 < 0 ∨ 12 ≤ ix x1 then none else
    fX10_order_j23 fu L (M_1.1 ((a0 + 233) + 1) (ix x1)) M_1
set_option maxRecDepth 100000 in
set_option maxHeartbeats 4000000 in
theorem mX10_order {l : Launch} {E : Ge} {L : Lay} (fu d : Nat) {a0 : Nat} {x1 : Int32} {M : Mm} {r : Int32} {M' : Mm}  (h0 : At L a0 T10) (h : fX10_order fu L a0 x1 M = some (r, M')) : Ct l E L yX10_order cX10_order 3 (some .int) (d + 23) [.ref a0, .int x1] M (some (.int r)) M' := by
  refine Ct.of (by decide) ?_
  intro p e s m below meth c hr hlk B hR
  have B : Bx p s m _ c cX10_order 3 RX10 E L := B
  have hx := B.1
  have hb := B.2.1
  have hl := lv_entry ([.ref a0, .int x1]) (n := 3) (Nat.le_of_ble_eq_true rfl)
  rw [lg_entry_eq]
  generalize (lg_sl ([.ref a0, .int x1]) ++ List.replicate (3 - (lg_sl ([.ref a0, .int x1])).length) Slot.unset).toArray = ls at hl ⊢
  have hl : lv_has ls 3 [(0, .ref a0), (1, .int x1)] := hl
  unfold fX10_order at h
  refine lv_aload_n hx hb dX10_order_0 rfl (lv_at hl 0 rfl) ?_
  obtain ⟨M_1, hc_1, h⟩ := bm_el h
  refine iv_X10_323 B hR (h0.at0 rfl) hl.1 (mX10_changeNow fu _ h0 hc_1) (Nat.le_of_ble_eq_true rfl) dX10_order_1 (fun H locs hR => ?_)
  refine lv_astore_n (lv' := [(2, .ref (a0 + 233)), (0, .ref a0), (1, .int x1)]) hx hb dX10_order_4 rfl hl (by decide) rfl (fun ls hl => ?_)
  refine lv_aload_n hx hb dX10_order_5 rfl (lv_at hl 0 rfl) ?_
  refine lv_iload_n hx hb dX10_order_6 rfl (lv_at hl 2 rfl) ?_
  obtain ⟨r_7, hc_7, h⟩ := bi_el h
  refine iv_X10_340 B hR ((sb_10_12 h0).at0 rfl) hl.1 (mX1_hasStep fu _ (sb_10_12 h0) hc_7) (Nat.le_of_ble_eq_true rfl) dX10_order_7 (fun H locs hR => ?_)
  refine lv_if_eq (tgt := 22) hx hb dX10_order_10 (by decide) (fun c_10 => ?_) (fun c_10 => ?_)
  · rw [if_pos c_10] at h
    refine lv_iconst (v := (-1)) hx hb dX10_order_22 (by decide) ?_
    exact wX10_order_j23 B hr hlk  h hR (lv_sub hl [] rfl)
  · rw [if_neg c_10] at h
    refine lv_aload_n hx hb dX10_order_13 rfl (lv_at hl 0 rfl) ?_
    refine gf_X10_343 B hR ((sb_10_12 h0).at0 rfl) dX10_order_14 ?_
    refine lv_iload_n hx hb dX10_order_17 rfl (lv_at hl 2 rfl) ?_
    obtain ⟨hi_18, h⟩ := ifn_el h
    refine r_iald B hR ((sb_10_12 h0).at 1 rfl) hi_18 dX10_order_18 ?_
    refine lv_goto (tgt := 23) hx hb dX10_order_19 (by decide) ?_
    exact wX10_order_j23 B hr hlk  h hR (lv_sub hl [] rfl)
def fX10_stir_j22 (fu : Nat) (L : Lay) (t0 : Int32) (M : Mm) : Option (Int32 × Mm) :=
  some (t0, M)
set_option maxRecDepth 100000 in
set_option maxHeartbeats 4000000 in
theorem wX10_stir_j22 {r : Int32} {M' : Mm}   {t0 : Int32} {M : Mm} (B : Bx p s m args c cX10_stir 3 RX10 E L) (hr : meth.sig.returnType = (some .int)) (hlk : meth.locks = false)   (h : fX10_stir_j22 fu L t0 M = some (r, M')) (hR : Rx s E L M H locs) (hl : lv_has ls 3 []) : W p l e (rmD (d + 23)) s m args below meth c H locs 0 0 (MQ below (QcM E L (some (.int r)) M') args s 0 0 E.2.2.2) (F0 m 22 ls [.int t0]) := by
  have hx := B.1
  have hb := B.2.1
  unfold fX10_stir_j22 at h
  exact r_iretW B hR hr hlk h dX10_stir_22
def fX10_stir (fu : Nat) (L : Lay) (a0 : Nat) (x1 : Int32) (M : Mm) : Option (Int32 × Mm) :=
  bm (fX10_changeNow fu L a0 M) fun M_1 =>
  bi (fX1_hasStep fu (a0 + 233) x1 M_1) fun r_7 =>
  if r_7 = 0 then
    fX10_stir_j22 fu L (-1) M_1
  else
    bi (fX1_stirredBy fu (a0 + 233) x1 M_1) fun r_15 =>
    fX10_stir_j22 fu L r_15 M_1
set_option maxRecDepth 100000 in
set_option maxHeartbeats 4000000 in
theorem mX10_stir {l : Launch} {E : Ge} {L : Lay} (fu d : Nat) {a0 : Nat} {x1 : Int32} {M : Mm} {r : Int32} {M' : Mm}  (h0 : At L a0 T10) (h : fX10_stir fu L a0 x1 M = some (r, M')) : Ct l E L yX10_stir cX10_stir 3 (some .int) (d + 23) [.ref a0, .int x1] M (some (.int r)) M' := by
  refine Ct.of (by decide) ?_
  intro p e s m below meth c hr hlk B hR
  have B : Bx p s m _ c cX10_stir 3 RX10 E L := B
  have hx := B.1
  have hb := B.2.1
  have hl := lv_entry ([.ref a0, .int x1]) (n := 3) (Nat.le_of_ble_eq_true rfl)
  rw [lg_entry_eq]
  generalize (lg_sl ([.ref a0, .int x1]) ++ List.replicate (3 - (lg_sl ([.ref a0, .int x1])).length) Slot.unset).toArray = ls at hl ⊢
  have hl : lv_has ls 3 [(0, .ref a0), (1, .int x1)] := hl
  unfold fX10_stir at h
  refine lv_aload_n hx hb dX10_stir_0 rfl (lv_at hl 0 rfl) ?_
  obtain ⟨M_1, hc_1, h⟩ := bm_el h
  refine iv_X10_323 B hR (h0.at0 rfl) hl.1 (mX10_changeNow fu _ h0 hc_1) (Nat.le_of_ble_eq_true rfl) dX10_stir_1 (fun H locs hR => ?_)
  refine lv_astore_n (lv' := [(2, .ref (a0 + 233)), (0, .ref a0), (1, .int x1)]) hx hb dX10_stir_4 rfl hl (by decide) rfl (fun ls hl => ?_)
  refine lv_aload_n hx hb dX10_stir_5 rfl (lv_at hl 0 rfl) ?_
  refine lv_iload_n hx hb dX10_stir_6 rfl (lv_at hl 2 rfl) ?_
  obtain ⟨r_7, hc_7, h⟩ := bi_el h
  refine iv_X10_340 B hR ((sb_10_12 h0).at0 rfl) hl.1 (mX1_hasStep fu _ (sb_10_12 h0) hc_7) (Nat.le_of_ble_eq_true rfl) dX10_stir_7 (fun H locs hR => ?_)
  refine lv_if_eq (tgt := 21) hx hb dX10_stir_10 (by decide) (fun c_10 => ?_) (fun c_10 => ?_)
  · rw [if_pos c_10] at h
    refine lv_iconst (v := (-1)) hx hb dX10_stir_21 (by decide) ?_
    exact wX10_stir_j22 B hr hlk  h hR (lv_sub hl [] rfl)
  · rw [if_neg c_10] at h
    refine lv_aload_n hx hb dX10_stir_13 rfl (lv_at hl 0 rfl) ?_
    refine lv_iload_n hx hb dX10_stir_14 rfl (lv_at hl 2 rfl) ?_
    obtain ⟨r_15, hc_15, h⟩ := bi_el h
    refine iv_X10_346 B hR ((sb_10_12 h0).at0 rfl) hl.1 (mX1_stirredBy fu _ (sb_10_12 h0) hc_15) (Nat.le_of_ble_eq_true rfl) dX10_stir_15 (fun H locs hR => ?_)
    refine lv_goto (tgt := 22) hx hb dX10_stir_18 (by decide) ?_
    exact wX10_stir_j22 B hr hlk  h hR (lv_sub hl [] rfl)
def fX10_block_j54 (fu : Nat) (M : Mm) : Option (Int32 × Mm) :=
  some ((-1), M)
set_option maxRecDepth 100000 in
set_option maxHeartbeats 4000000 in
theorem wX10_block_j54 {r : Int32} {M' : Mm}    {M : Mm} (B : Bx p s m args c cX10_block 6 RX10 E L) (hr : meth.sig.returnType = (some .int)) (hlk : meth.locks = false)   (h : fX10_block_j54 fu M = some (r, M')) (hR : Rx s E L M H locs) (hl : lv_has ls 6 []) : W p l e (rmD (d + 5)) s m args below meth c H locs 0 0 (MQ below (QcM E L (some (.int r)) M') args s 0 0 E.2.2.2) (F0 m 54 ls []) := by
  have hx := B.1
  have hb := B.2.1
  unfold fX10_block_j54 at h
  refine lv_iconst (v := (-1)) hx hb dX10_block_54 (by decide) ?_
  exact r_iretW B hR hr hlk h dX10_block_55
def fX10_block_j35 (fu : Nat) (x2 : Int32) (x4 : Int32) (x5 : Int32) (M : Mm) : Option (Int32 × Mm) :=
  bi (fX10_pick fu x2 x4 x5 (-1)) fun r_41 =>
  some (r_41, M)
set_option maxRecDepth 100000 in
set_option maxHeartbeats 4000000 in
theorem wX10_block_j35 {r : Int32} {M' : Mm}   {x2 : Int32} {x4 : Int32} {x5 : Int32} {M : Mm} (B : Bx p s m args c cX10_block 6 RX10 E L) (hr : meth.sig.returnType = (some .int)) (hlk : meth.locks = false)   (h : fX10_block_j35 fu x2 x4 x5 M = some (r, M')) (hR : Rx s E L M H locs) (hl : lv_has ls 6 [(2, .int x2), (4, .int x4), (5, .int x5)]) : W p l e (rmD (d + 5)) s m args below meth c H locs 0 0 (MQ below (QcM E L (some (.int r)) M') args s 0 0 E.2.2.2) (F0 m 35 ls []) := by
  have hx := B.1
  have hb := B.2.1
  unfold fX10_block_j35 at h
  refine lv_iload_n hx hb dX10_block_35 rfl (lv_at hl 0 rfl) ?_
  refine lv_iload hx hb dX10_block_36 (lv_at hl 1 rfl) ?_
  refine lv_iload hx hb dX10_block_38 (lv_at hl 2 rfl) ?_
  refine lv_iconst (v := (-1)) hx hb dX10_block_40 (by decide) ?_
  obtain ⟨r_41, hc_41, h⟩ := bi_el h
  refine is_X10_228 B hR hl.1 (mX10_pick fu _  hc_41) (Nat.le_of_ble_eq_true rfl) dX10_block_41 (fun H locs hR => ?_)
  exact r_iretW B hR hr hlk h dX10_block_44
def fX10_block_b14 (fu : Nat) (k14 : Int32 → Option (Int32 × Mm)) (x1 : Int32) (x2 : Int32) (a3 : Nat) (x4 : Int32) (M : Mm) : Option (Int32 × Mm) :=
  if x4 < 1 then
    fX10_block_j54 fu M
  else
    bi (fX5_firstBlock fu a3 x1 x4 M) fun r_24 =>
    if r_24 = (-1) then
      lt ((x4 / 2)) fun x4_49 =>
      k14 x4_49
    else
      fX10_block_j35 fu x2 x4 r_24 M
set_option maxRecDepth 100000 in
set_option maxHeartbeats 4000000 in
theorem wX10_block_b14 {r : Int32} {M' : Mm}   {k14 : Int32 → Option (Int32 × Mm)} {x1 : Int32} {x2 : Int32} {a3 : Nat} {x4 : Int32} {M : Mm} (B : Bx p s m args c cX10_block 6 RX10 E L) (hr : meth.sig.returnType = (some .int)) (hlk : meth.locks = false)  (ih14 : ∀ (x4 : Int32), k14 x4 = some (r, M') → ∀ (H : Heap) (locs : List Loc) (ls : Array Slot), Rx s E L M H locs → lv_has ls 6 [(1, .int x1), (2, .int x2), (3, .ref a3), (4, .int x4)] → W p l e (rmD (d + 5)) s m args below meth c H locs 0 0 (MQ below (QcM E L (some (.int r)) M') args s 0 0 E.2.2.2) (F0 m 14 ls [])) (h3 : At L a3 T5) (h : fX10_block_b14 fu k14 x1 x2 a3 x4 M = some (r, M')) (hR : Rx s E L M H locs) (hl : lv_has ls 6 [(1, .int x1), (2, .int x2), (3, .ref a3), (4, .int x4)]) : W p l e (rmD (d + 5)) s m args below meth c H locs 0 0 (MQ below (QcM E L (some (.int r)) M') args s 0 0 E.2.2.2) (F0 m 14 ls []) := by
  have hx := B.1
  have hb := B.2.1
  unfold fX10_block_b14 at h
  refine lv_iload hx hb dX10_block_14 (lv_at hl 3 rfl) ?_
  refine lv_iconst (v := 1) hx hb dX10_block_16 (by decide) ?_
  refine lv_icmp_lt (tgt := 54) hx hb dX10_block_17 (by decide) (fun c_17 => ?_) (fun c_17 => ?_)
  · rw [if_pos c_17] at h
    exact wX10_block_j54 B hr hlk  h hR (lv_sub hl [] rfl)
  · rw [if_neg c_17] at h
    refine lv_aload_n hx hb dX10_block_20 rfl (lv_at hl 2 rfl) ?_
    refine lv_iload_n hx hb dX10_block_21 rfl (lv_at hl 0 rfl) ?_
    refine lv_iload hx hb dX10_block_22 (lv_at hl 3 rfl) ?_
    obtain ⟨r_24, hc_24, h⟩ := bi_el h
    refine iv_X10_349 B hR (h3.at0 rfl) hl.1 (mX5_firstBlock fu _ h3 hc_24) (Nat.le_of_ble_eq_true rfl) dX10_block_24 (fun H locs hR => ?_)
    refine lv_istore (lv' := [(5, .int r_24), (1, .int x1), (2, .int x2), (3, .ref a3), (4, .int x4)]) hx hb dX10_block_27 hl (by decide) rfl (fun ls hl => ?_)
    refine lv_iload hx hb dX10_block_29 (lv_at hl 0 rfl) ?_
    refine lv_iconst (v := (-1)) hx hb dX10_block_31 (by decide) ?_
    refine lv_icmp_eq (tgt := 45) hx hb dX10_block_32 (by decide) (fun c_32 => ?_) (fun c_32 => ?_)
    · rw [if_pos c_32] at h
      refine lv_iload hx hb dX10_block_45 (lv_at hl 4 rfl) ?_
      refine lv_iconst (v := 2) hx hb dX10_block_47 (by decide) ?_
      refine lv_idiv hx hb dX10_block_48 (by decide) ?_
      obtain ⟨x4_49, ex4_49, h⟩ := lt_el h
      refine r_nmI ex4_49 ?_
      refine lv_istore (lv' := [(4, .int x4_49), (5, .int r_24), (1, .int x1), (2, .int x2), (3, .ref a3)]) hx hb dX10_block_49 hl (by decide) rfl (fun ls hl => ?_)
      refine lv_goto (tgt := 14) hx hb dX10_block_51 (by decide) ?_
      exact ih14 x4_49 h _ _ _ hR (lv_sub hl [2, 3, 4, 0] rfl)
    · rw [if_neg c_32] at h
      exact wX10_block_j35 B hr hlk  h hR (lv_sub hl [2, 4, 0] rfl)
def fX10_block_l14 (fu : Nat) (x1 : Int32) (x2 : Int32) (a3 : Nat) (M : Mm) (x4 : Int32) : Option (Int32 × Mm) := lp (fun (rec : Int32 → Option (Int32 × Mm)) (s : Int32) => fX10_block_b14 fu  (fun x4 => rec (x4)) x1 x2 a3 s M) fu (x4)
set_option maxRecDepth 100000 in
set_option maxHeartbeats 4000000 in
theorem wX10_block_l14 {r : Int32} {M' : Mm}   {x1 : Int32} {x2 : Int32} {a3 : Nat} {x4 : Int32} {M : Mm} (B : Bx p s m args c cX10_block 6 RX10 E L) (hr : meth.sig.returnType = (some .int)) (hlk : meth.locks = false)  (h3 : At L a3 T5) (h : fX10_block_l14 fu x1 x2 a3 M x4 = some (r, M')) (hR : Rx s E L M H locs) (hl : lv_has ls 6 [(1, .int x1), (2, .int x2), (3, .ref a3), (4, .int x4)]) : W p l e (rmD (d + 5)) s m args below meth c H locs 0 0 (MQ below (QcM E L (some (.int r)) M') args s 0 0 E.2.2.2) (F0 m 14 ls []) := by
  refine lp_G (G := fun z : Int32 => ∀ (H : Heap) (locs : List Loc) (ls : Array Slot), Rx s E L M H locs → lv_has ls 6 [(1, .int x1), (2, .int x2), (3, .ref a3), (4, .int z)] → W p l e (rmD (d + 5)) s m args below meth c H locs 0 0 (MQ below (QcM E L (some (.int r)) M') args s 0 0 E.2.2.2) (F0 m 14 ls [])) (fun rec ih z h H locs ls hR hl => ?_) fu _ h H locs ls hR hl
  exact wX10_block_b14 B hr hlk  (fun x4 h => ih (x4) h) h3 h hR hl
def fX10_block (fu : Nat) (a0 : Nat) (x1 : Int32) (x2 : Int32) (M : Mm) : Option (Int32 × Mm) :=
  bm (fX10_piecesNow fu a0 M) fun M_1 =>
  lt ((M_1.1 (a0 + 12) 0)) fun x4_12 =>
  fX10_block_l14 fu x1 x2 (a0 + 198) M_1 x4_12
set_option maxRecDepth 100000 in
set_option maxHeartbeats 4000000 in
theorem mX10_block {l : Launch} {E : Ge} {L : Lay} (fu d : Nat) {a0 : Nat} {x1 : Int32} {x2 : Int32} {M : Mm} {r : Int32} {M' : Mm}  (h0 : At L a0 T10) (h : fX10_block fu a0 x1 x2 M = some (r, M')) : Ct l E L yX10_block cX10_block 6 (some .int) (d + 5) [.ref a0, .int x1, .int x2] M (some (.int r)) M' := by
  refine Ct.of (by decide) ?_
  intro p e s m below meth c hr hlk B hR
  have B : Bx p s m _ c cX10_block 6 RX10 E L := B
  have hx := B.1
  have hb := B.2.1
  have hl := lv_entry ([.ref a0, .int x1, .int x2]) (n := 6) (Nat.le_of_ble_eq_true rfl)
  rw [lg_entry_eq]
  generalize (lg_sl ([.ref a0, .int x1, .int x2]) ++ List.replicate (6 - (lg_sl ([.ref a0, .int x1, .int x2])).length) Slot.unset).toArray = ls at hl ⊢
  have hl : lv_has ls 6 [(0, .ref a0), (1, .int x1), (2, .int x2)] := hl
  unfold fX10_block at h
  refine lv_aload_n hx hb dX10_block_0 rfl (lv_at hl 0 rfl) ?_
  obtain ⟨M_1, hc_1, h⟩ := bm_el h
  refine iv_X10_185 B hR (h0.at0 rfl) hl.1 (mX10_piecesNow fu _ h0 hc_1) (Nat.le_of_ble_eq_true rfl) dX10_block_1 (fun H locs hR => ?_)
  refine lv_astore_n (lv' := [(3, .ref (a0 + 198)), (0, .ref a0), (1, .int x1), (2, .int x2)]) hx hb dX10_block_4 rfl hl (by decide) rfl (fun ls hl => ?_)
  refine lv_aload_n hx hb dX10_block_5 rfl (lv_at hl 1 rfl) ?_
  refine gf_X10_19 B hR (h0.at0 rfl) dX10_block_6 ?_
  refine gf_X10_118 B hR ((sb_10_1 h0).at0 rfl) dX10_block_9 ?_
  obtain ⟨x4_12, ex4_12, h⟩ := lt_el h
  refine r_nmI ex4_12 ?_
  refine lv_istore (lv' := [(4, .int x4_12), (3, .ref (a0 + 198)), (0, .ref a0), (1, .int x1), (2, .int x2)]) hx hb dX10_block_12 hl (by decide) rfl (fun ls hl => ?_)
  exact wX10_block_l14 B hr hlk (sb_10_6 h0) h hR (lv_sub hl [3, 4, 1, 0] rfl)
def fX10_bits_j9 (fu : Nat) (M : Mm) : Option (Int32 × Mm) :=
  some ((-1), M)
set_option maxRecDepth 100000 in
set_option maxHeartbeats 4000000 in
theorem wX10_bits_j9 {r : Int32} {M' : Mm}    {M : Mm} (B : Bx p s m args c cX10_bits 5 RX10 E L) (hr : meth.sig.returnType = (some .int)) (hlk : meth.locks = false)   (h : fX10_bits_j9 fu M = some (r, M')) (hR : Rx s E L M H locs) (hl : lv_has ls 5 []) : W p l e (rmD (d + 5)) s m args below meth c H locs 0 0 (MQ below (QcM E L (some (.int r)) M') args s 0 0 E.2.2.2) (F0 m 9 ls []) := by
  have hx := B.1
  have hb := B.2.1
  unfold fX10_bits_j9 at h
  refine lv_iconst (v := (-1)) hx hb dX10_bits_9 (by decide) ?_
  exact r_iretW B hR hr hlk h dX10_bits_10
def fX10_bits_j71 (fu : Nat) (x3 : Int32) (M : Mm) : Option (Int32 × Mm) :=
  some (x3, M)
set_option maxRecDepth 100000 in
set_option maxHeartbeats 4000000 in
theorem wX10_bits_j71 {r : Int32} {M' : Mm}   {x3 : Int32} {M : Mm} (B : Bx p s m args c cX10_bits 5 RX10 E L) (hr : meth.sig.returnType = (some .int)) (hlk : meth.locks = false)   (h : fX10_bits_j71 fu x3 M = some (r, M')) (hR : Rx s E L M H locs) (hl : lv_has ls 5 [(3, .int x3)]) : W p l e (rmD (d + 5)) s m args below meth c H locs 0 0 (MQ below (QcM E L (some (.int r)) M') args s 0 0 E.2.2.2) (F0 m 71 ls []) := by
  have hx := B.1
  have hb := B.2.1
  unfold fX10_bits_j71 at h
  refine lv_iload_n hx hb dX10_bits_71 rfl (lv_at hl 0 rfl) ?_
  exact r_iretW B hR hr hlk h dX10_bits_72
def fX10_bits_j65 (fu : Nat) (k21 : Int32 → Int32 → Option (Int32 × Mm)) (x1 : Int32) (a2 : Nat) (x3 : Int32) (x4 : Int32) (M : Mm) : Option (Int32 × Mm) :=
  lt (x4 + 1) fun x4_65 =>
  k21 x3 x4_65
set_option maxRecDepth 100000 in
set_option maxHeartbeats 4000000 in
theorem wX10_bits_j65 {r : Int32} {M' : Mm}  {k21 : Int32 → Int32 → Option (Int32 × Mm)} {x1 : Int32} {a2 : Nat} {x3 : Int32} {x4 : Int32} {M : Mm} (B : Bx p s m args c cX10_bits 5 RX10 E L) (hr : meth.sig.returnType = (some .int)) (hlk : meth.locks = false) (ih21 : ∀ (x3 : Int32) (x4 : Int32), k21 x3 x4 = some (r, M') → ∀ (H : Heap) (locs : List Loc) (ls : Array Slot), Rx s E L M H locs → lv_has ls 5 [(1, .int x1), (2, .ref a2), (3, .int x3), (4, .int x4)] → W p l e (rmD (d + 5)) s m args below meth c H locs 0 0 (MQ below (QcM E L (some (.int r)) M') args s 0 0 E.2.2.2) (F0 m 21 ls [])) (h2 : At L a2 T5) (h : fX10_bits_j65 fu k21 x1 a2 x3 x4 M = some (r, M')) (hR : Rx s E L M H locs) (hl : lv_has ls 5 [(1, .int x1), (2, .ref a2), (3, .int x3), (4, .int x4)]) : W p l e (rmD (d + 5)) s m args below meth c H locs 0 0 (MQ below (QcM E L (some (.int r)) M') args s 0 0 E.2.2.2) (F0 m 65 ls []) := by
  have hx := B.1
  have hb := B.2.1
  unfold fX10_bits_j65 at h
  obtain ⟨x4_65, ex4_65, h⟩ := lt_el h
  refine lv_iinc (v := x4_65) (lv' := [(4, .int x4_65), (1, .int x1), (2, .ref a2), (3, .int x3)]) hx hb dX10_bits_65 hl (k := 3) rfl (by rw [ex4_65]; rfl) (by decide) rfl (fun ls hl => ?_)
  refine lv_goto (tgt := 21) hx hb dX10_bits_68 (by decide) ?_
  exact ih21 x3 x4_65 h _ _ _ hR (lv_sub hl [1, 2, 3, 0] rfl)
def fX10_bits_b21 (fu : Nat) (k21 : Int32 → Int32 → Option (Int32 × Mm)) (x1 : Int32) (a2 : Nat) (x3 : Int32) (x4 : Int32) (M : Mm) : Option (Int32 × Mm) :=
  if (M.1 a2 6) ≤ x4 then
    fX10_bits_j71 fu x3 M
  else
    if x4 < 0 ∨ 128 ≤ ix x4 then none else
    if (M.1 (a2 + 4) (ix x4)) = x1 then
      bi (fX5_startOf fu a2 (x4 + 1) M) fun r_47 =>
      bi (fX10_onesBelow fu r_47) fun r_50 =>
      bi (fX5_startOf fu a2 x4 M) fun r_56 =>
      bi (fX10_onesBelow fu r_56) fun r_59 =>
      lt ((x3 + (r_50 - r_59))) fun x3_64 =>
      fX10_bits_j65 fu k21 x1 a2 x3_64 x4 M
    else
      fX10_bits_j65 fu k21 x1 a2 x3 x4 M
set_option maxRecDepth 100000 in
set_option maxHeartbeats 4000000 in
theorem wX10_bits_b21 {r : Int32} {M' : Mm}   {k21 : Int32 → Int32 → Option (Int32 × Mm)} {x1 : Int32} {a2 : Nat} {x3 : Int32} {x4 : Int32} {M : Mm} (B : Bx p s m args c cX10_bits 5 RX10 E L) (hr : meth.sig.returnType = (some .int)) (hlk : meth.locks = false)  (ih21 : ∀ (x3 : Int32) (x4 : Int32), k21 x3 x4 = some (r, M') → ∀ (H : Heap) (locs : List Loc) (ls : Array Slot), Rx s E L M H locs → lv_has ls 5 [(1, .int x1), (2, .ref a2), (3, .int x3), (4, .int x4)] → W p l e (rmD (d + 5)) s m args below meth c H locs 0 0 (MQ below (QcM E L (some (.int r)) M') args s 0 0 E.2.2.2) (F0 m 21 ls [])) (h2 : At L a2 T5) (h : fX10_bits_b21 fu k21 x1 a2 x3 x4 M = some (r, M')) (hR : Rx s E L M H locs) (hl : lv_has ls 5 [(1, .int x1), (2, .ref a2), (3, .int x3), (4, .int x4)]) : W p l e (rmD (d + 5)) s m args below meth c H locs 0 0 (MQ below (QcM E L (some (.int r)) M') args s 0 0 E.2.2.2) (F0 m 21 ls []) := by
  have hx := B.1
  have hb := B.2.1
  unfold fX10_bits_b21 at h
  refine lv_iload hx hb dX10_bits_21 (lv_at hl 3 rfl) ?_
  refine lv_aload_n hx hb dX10_bits_23 rfl (lv_at hl 1 rfl) ?_
  refine gf_X10_253 B hR (h2.at0 rfl) dX10_bits_24 ?_
  refine lv_icmp_ge (tgt := 71) hx hb dX10_bits_27 (by decide) (fun c_27 => ?_) (fun c_27 => ?_)
  · rw [if_pos c_27] at h
    exact wX10_bits_j71 B hr hlk  h hR (lv_sub hl [2] rfl)
  · rw [if_neg c_27] at h
    refine lv_aload_n hx hb dX10_bits_30 rfl (lv_at hl 1 rfl) ?_
    refine gf_X10_257 B hR (h2.at0 rfl) dX10_bits_31 ?_
    refine lv_iload hx hb dX10_bits_34 (lv_at hl 3 rfl) ?_
    obtain ⟨hi_36, h⟩ := ifn_el h
    refine r_iald B hR (h2.at 4 rfl) hi_36 dX10_bits_36 ?_
    refine lv_iload_n hx hb dX10_bits_37 rfl (lv_at hl 0 rfl) ?_
    refine lv_icmp_ne (tgt := 65) hx hb dX10_bits_38 (by decide) (fun c_38 => ?_) (fun c_38 => ?_)
    · rw [if_neg c_38] at h
      exact wX10_bits_j65 B hr hlk ih21 h2 h hR hl
    · rw [if_pos c_38] at h
      refine lv_iload_n hx hb dX10_bits_41 rfl (lv_at hl 2 rfl) ?_
      refine lv_aload_n hx hb dX10_bits_42 rfl (lv_at hl 1 rfl) ?_
      refine lv_iload hx hb dX10_bits_43 (lv_at hl 3 rfl) ?_
      refine lv_iconst (v := 1) hx hb dX10_bits_45 (by decide) ?_
      refine lv_iadd hx hb dX10_bits_46 ?_
      obtain ⟨r_47, hc_47, h⟩ := bi_el h
      refine iv_X10_254 B hR (h2.at0 rfl) hl.1 (mX5_startOf fu _ h2 hc_47) (Nat.le_of_ble_eq_true rfl) dX10_bits_47 (fun H locs hR => ?_)
      obtain ⟨r_50, hc_50, h⟩ := bi_el h
      refine is_X10_352 B hR hl.1 (mX10_onesBelow fu _  hc_50) (Nat.le_of_ble_eq_true rfl) dX10_bits_50 (fun H locs hR => ?_)
      refine lv_aload_n hx hb dX10_bits_53 rfl (lv_at hl 1 rfl) ?_
      refine lv_iload hx hb dX10_bits_54 (lv_at hl 3 rfl) ?_
      obtain ⟨r_56, hc_56, h⟩ := bi_el h
      refine iv_X10_254 B hR (h2.at0 rfl) hl.1 (mX5_startOf fu _ h2 hc_56) (Nat.le_of_ble_eq_true rfl) dX10_bits_56 (fun H locs hR => ?_)
      obtain ⟨r_59, hc_59, h⟩ := bi_el h
      refine is_X10_352 B hR hl.1 (mX10_onesBelow fu _  hc_59) (Nat.le_of_ble_eq_true rfl) dX10_bits_59 (fun H locs hR => ?_)
      refine lv_isub hx hb dX10_bits_62 ?_
      refine lv_iadd hx hb dX10_bits_63 ?_
      obtain ⟨x3_64, ex3_64, h⟩ := lt_el h
      refine r_nmI ex3_64 ?_
      refine lv_istore_n (lv' := [(3, .int x3_64), (1, .int x1), (2, .ref a2), (4, .int x4)]) hx hb dX10_bits_64 rfl hl (by decide) rfl (fun ls hl => ?_)
      exact wX10_bits_j65 B hr hlk ih21 h2 h hR (lv_sub hl [1, 2, 0, 3] rfl)
def fX10_bits_l21 (fu : Nat) (x1 : Int32) (a2 : Nat) (M : Mm) (x3 : Int32) (x4 : Int32) : Option (Int32 × Mm) := lp (fun (rec : (Int32 × Int32) → Option (Int32 × Mm)) (s : Int32 × Int32) => fX10_bits_b21 fu  (fun x3 x4 => rec (x3, x4)) x1 a2 s.1 s.2 M) fu (x3, x4)
set_option maxRecDepth 100000 in
set_option maxHeartbeats 4000000 in
theorem wX10_bits_l21 {r : Int32} {M' : Mm}   {x1 : Int32} {a2 : Nat} {x3 : Int32} {x4 : Int32} {M : Mm} (B : Bx p s m args c cX10_bits 5 RX10 E L) (hr : meth.sig.returnType = (some .int)) (hlk : meth.locks = false)  (h2 : At L a2 T5) (h : fX10_bits_l21 fu x1 a2 M x3 x4 = some (r, M')) (hR : Rx s E L M H locs) (hl : lv_has ls 5 [(1, .int x1), (2, .ref a2), (3, .int x3), (4, .int x4)]) : W p l e (rmD (d + 5)) s m args below meth c H locs 0 0 (MQ below (QcM E L (some (.int r)) M') args s 0 0 E.2.2.2) (F0 m 21 ls []) := by
  refine lp_G (G := fun z : Int32 × Int32 => ∀ (H : Heap) (locs : List Loc) (ls : Array Slot), Rx s E L M H locs → lv_has ls 5 [(1, .int x1), (2, .ref a2), (3, .int z.1), (4, .int z.2)] → W p l e (rmD (d + 5)) s m args below meth c H locs 0 0 (MQ below (QcM E L (some (.int r)) M') args s 0 0 E.2.2.2) (F0 m 21 ls [])) (fun rec ih z h H locs ls hR hl => ?_) fu _ h H locs ls hR hl
  exact wX10_bits_b21 B hr hlk  (fun x3 x4 h => ih (x3, x4) h) h2 h hR hl
def fX10_bits (fu : Nat) (a0 : Nat) (x1 : Int32) (M : Mm) : Option (Int32 × Mm) :=
  if x1 < 0 then
    fX10_bits_j9 fu M
  else
    if x1 ≤ 5 then
      bm (fX10_piecesNow fu a0 M) fun M_12 =>
      fX10_bits_l21 fu x1 (a0 + 198) M_12 0 0
    else
      fX10_bits_j9 fu M
set_option maxRecDepth 100000 in
set_option maxHeartbeats 4000000 in
theorem mX10_bits {l : Launch} {E : Ge} {L : Lay} (fu d : Nat) {a0 : Nat} {x1 : Int32} {M : Mm} {r : Int32} {M' : Mm}  (h0 : At L a0 T10) (h : fX10_bits fu a0 x1 M = some (r, M')) : Ct l E L yX10_bits cX10_bits 5 (some .int) (d + 5) [.ref a0, .int x1] M (some (.int r)) M' := by
  refine Ct.of (by decide) ?_
  intro p e s m below meth c hr hlk B hR
  have B : Bx p s m _ c cX10_bits 5 RX10 E L := B
  have hx := B.1
  have hb := B.2.1
  have hl := lv_entry ([.ref a0, .int x1]) (n := 5) (Nat.le_of_ble_eq_true rfl)
  rw [lg_entry_eq]
  generalize (lg_sl ([.ref a0, .int x1]) ++ List.replicate (5 - (lg_sl ([.ref a0, .int x1])).length) Slot.unset).toArray = ls at hl ⊢
  have hl : lv_has ls 5 [(0, .ref a0), (1, .int x1)] := hl
  unfold fX10_bits at h
  refine lv_iload_n hx hb dX10_bits_0 rfl (lv_at hl 1 rfl) ?_
  refine lv_if_lt (tgt := 9) hx hb dX10_bits_1 (by decide) (fun c_1 => ?_) (fun c_1 => ?_)
  · rw [if_pos c_1] at h
    exact wX10_bits_j9 B hr hlk  h hR (lv_sub hl [] rfl)
  · rw [if_neg c_1] at h
    refine lv_iload_n hx hb dX10_bits_4 rfl (lv_at hl 1 rfl) ?_
    refine lv_iconst (v := 5) hx hb dX10_bits_5 (by decide) ?_
    refine lv_icmp_le (tgt := 11) hx hb dX10_bits_6 (by decide) (fun c_6 => ?_) (fun c_6 => ?_)
    · rw [if_pos c_6] at h
      refine lv_aload_n hx hb dX10_bits_11 rfl (lv_at hl 0 rfl) ?_
      obtain ⟨M_12, hc_12, h⟩ := bm_el h
      refine iv_X10_185 B hR (h0.at0 rfl) hl.1 (mX10_piecesNow fu _ h0 hc_12) (Nat.le_of_ble_eq_true rfl) dX10_bits_12 (fun H locs hR => ?_)
      refine lv_astore_n (lv' := [(2, .ref (a0 + 198)), (0, .ref a0), (1, .int x1)]) hx hb dX10_bits_15 rfl hl (by decide) rfl (fun ls hl => ?_)
      refine lv_iconst (v := 0) hx hb dX10_bits_16 (by decide) ?_
      refine lv_istore_n (lv' := [(3, .int 0), (2, .ref (a0 + 198)), (0, .ref a0), (1, .int x1)]) hx hb dX10_bits_17 rfl hl (by decide) rfl (fun ls hl => ?_)
      refine lv_iconst (v := 0) hx hb dX10_bits_18 (by decide) ?_
      refine lv_istore (lv' := [(4, .int 0), (3, .int 0), (2, .ref (a0 + 198)), (0, .ref a0), (1, .int x1)]) hx hb dX10_bits_19 hl (by decide) rfl (fun ls hl => ?_)
      exact wX10_bits_l21 B hr hlk (sb_10_6 h0) h hR (lv_sub hl [4, 2, 1, 0] rfl)
    · rw [if_neg c_6] at h
      exact wX10_bits_j9 B hr hlk  h hR (lv_sub hl [] rfl)
def fX10_image_j9 (fu : Nat) (M : Mm) : Option (Int32 × Mm) :=
  some ((-1), M)
set_option maxRecDepth 100000 in
set_option maxHeartbeats 4000000 in
theorem wX10_image_j9 {r : Int32} {M' : Mm}    {M : Mm} (B : Bx p s m args c cX10_image 2 RX10 E L) (hr : meth.sig.returnType = (some .int)) (hlk : meth.locks = false)   (h : fX10_image_j9 fu M = some (r, M')) (hR : Rx s E L M H locs) (hl : lv_has ls 2 []) : W p l e (rmD (d + 2)) s m args below meth c H locs 0 0 (MQ below (QcM E L (some (.int r)) M') args s 0 0 E.2.2.2) (F0 m 9 ls []) := by
  have hx := B.1
  have hb := B.2.1
  unfold fX10_image_j9 at h
  refine lv_iconst (v := (-1)) hx hb dX10_image_9 (by decide) ?_
  exact r_iretW B hR hr hlk h dX10_image_10
def fX10_image (fu : Nat) (a0 : Nat) (x1 : Int32) (M : Mm) : Option (Int32 × Mm) :=
  if x1 < 0 then
    fX10_image_j9 fu M
  else
    if x1 < 2 then
      if x1 < 0 ∨ 2 ≤ ix x1 then none else
      bm (fX8_copyFrom fu ((a0 + 176) + 1 + 9 * ix x1) (a0 + 12) M) fun M_21 =>
      lt (wI M_21 (a0 + 195) (ix x1) (vp_nar .boolean 1)) fun M_30 =>
      some ((M_30.1 (a0 + 12) 3), M_30)
    else
      fX10_image_j9 fu M
set_option maxRecDepth 100000 in
set_option maxHeartbeats 4000000 in
theorem mX10_image {l : Launch} {E : Ge} {L : Lay} (fu d : Nat) {a0 : Nat} {x1 : Int32} {M : Mm} {r : Int32} {M' : Mm}  (h0 : At L a0 T10) (h : fX10_image fu a0 x1 M = some (r, M')) : Ct l E L yX10_image cX10_image 2 (some .int) (d + 2) [.ref a0, .int x1] M (some (.int r)) M' := by
  refine Ct.of (by decide) ?_
  intro p e s m below meth c hr hlk B hR
  have B : Bx p s m _ c cX10_image 2 RX10 E L := B
  have hx := B.1
  have hb := B.2.1
  have hl := lv_entry ([.ref a0, .int x1]) (n := 2) (Nat.le_of_ble_eq_true rfl)
  rw [lg_entry_eq]
  generalize (lg_sl ([.ref a0, .int x1]) ++ List.replicate (2 - (lg_sl ([.ref a0, .int x1])).length) Slot.unset).toArray = ls at hl ⊢
  have hl : lv_has ls 2 [(0, .ref a0), (1, .int x1)] := hl
  unfold fX10_image at h
  refine lv_iload_n hx hb dX10_image_0 rfl (lv_at hl 1 rfl) ?_
  refine lv_if_lt (tgt := 9) hx hb dX10_image_1 (by decide) (fun c_1 => ?_) (fun c_1 => ?_)
  · rw [if_pos c_1] at h
    exact wX10_image_j9 B hr hlk  h hR (lv_sub hl [] rfl)
  · rw [if_neg c_1] at h
    refine lv_iload_n hx hb dX10_image_4 rfl (lv_at hl 1 rfl) ?_
    refine lv_iconst (v := 2) hx hb dX10_image_5 (by decide) ?_
    refine lv_icmp_lt (tgt := 11) hx hb dX10_image_6 (by decide) (fun c_6 => ?_) (fun c_6 => ?_)
    · rw [if_pos c_6] at h
      refine lv_aload_n hx hb dX10_image_11 rfl (lv_at hl 0 rfl) ?_
      refine gf_X10_34 B hR (h0.at0 rfl) dX10_image_12 ?_
      refine lv_iload_n hx hb dX10_image_15 rfl (lv_at hl 1 rfl) ?_
      obtain ⟨hi_16, h⟩ := ifn_el h
      refine r_aald B hR (h0.at 176 rfl) hi_16 dX10_image_16 ?_
      refine lv_aload_n hx hb dX10_image_17 rfl (lv_at hl 0 rfl) ?_
      refine gf_X10_19 B hR (h0.at0 rfl) dX10_image_18 ?_
      obtain ⟨M_21, hc_21, h⟩ := bm_el h
      refine iv_X10_103 B hR ((rg_2 h0 hi_16).at0 rfl) hl.1 (mX8_copyFrom fu _ (rg_2 h0 hi_16) (sb_10_1 h0) hc_21) (Nat.le_of_ble_eq_true rfl) dX10_image_21 (fun H locs hR => ?_)
      refine lv_aload_n hx hb dX10_image_24 rfl (lv_at hl 0 rfl) ?_
      refine gf_X10_38 B hR (h0.at0 rfl) dX10_image_25 ?_
      refine lv_iload_n hx hb dX10_image_28 rfl (lv_at hl 1 rfl) ?_
      refine lv_iconst (v := 1) hx hb dX10_image_29 (by decide) ?_
      obtain ⟨M_30, eM_30, h⟩ := lt_el h
      refine r_zast B hR (h0.at 195 rfl) hi_16 dX10_image_30 (fun H locs hR => ?_)
      rw [← eM_30] at hR
      refine lv_aload_n hx hb dX10_image_31 rfl (lv_at hl 0 rfl) ?_
      refine gf_X10_19 B hR (h0.at0 rfl) dX10_image_32 ?_
      refine gf_X10_109 B hR ((sb_10_1 h0).at0 rfl) dX10_image_35 ?_
      exact r_iretW B hR hr hlk h dX10_image_38
    · rw [if_neg c_6] at h
      exact wX10_image_j9 B hr hlk  h hR (lv_sub hl [] rfl)
def fX10_hasKept_j23 (fu : Nat) (t0 : Int32) (M : Mm) : Option Int32 :=
  gd (t0 = 0 ∨ t0 = 1) <|
  some t0
set_option maxRecDepth 100000 in
set_option maxHeartbeats 4000000 in
theorem wX10_hasKept_j23 {r : Int32}   {t0 : Int32} {M : Mm} (B : Bx p s m args c cX10_hasKept 2 RX10 E L) (hr : meth.sig.returnType = (some .boolean)) (hlk : meth.locks = false)   (h : fX10_hasKept_j23 fu t0 M = some r) (hR : Rx s E L M H locs) (hl : lv_has ls 2 []) : W p l e (rmD (d + 0)) s m args below meth c H locs 0 0 (MQ below (QcM E L (some (.int r)) M) args s 0 0 E.2.2.2) (F0 m 23 ls [.int t0]) := by
  have hx := B.1
  have hb := B.2.1
  unfold fX10_hasKept_j23 at h
  obtain ⟨hz_23, h⟩ := gd_el h
  exact r_zretP B hR hr hlk hz_23 h dX10_hasKept_23
def fX10_hasKept_j22 (fu : Nat) (M : Mm) : Option Int32 :=
  fX10_hasKept_j23 fu 0 M
set_option maxRecDepth 100000 in
set_option maxHeartbeats 4000000 in
theorem wX10_hasKept_j22 {r : Int32}    {M : Mm} (B : Bx p s m args c cX10_hasKept 2 RX10 E L) (hr : meth.sig.returnType = (some .boolean)) (hlk : meth.locks = false)   (h : fX10_hasKept_j22 fu M = some r) (hR : Rx s E L M H locs) (hl : lv_has ls 2 []) : W p l e (rmD (d + 0)) s m args below meth c H locs 0 0 (MQ below (QcM E L (some (.int r)) M) args s 0 0 E.2.2.2) (F0 m 22 ls []) := by
  have hx := B.1
  have hb := B.2.1
  unfold fX10_hasKept_j22 at h
  refine lv_iconst (v := 0) hx hb dX10_hasKept_22 (by decide) ?_
  exact wX10_hasKept_j23 B hr hlk  h hR hl
def fX10_hasKept (fu : Nat) (a0 : Nat) (x1 : Int32) (M : Mm) : Option Int32 :=
  if x1 < 0 then
    fX10_hasKept_j22 fu M
  else
    if 2 ≤ x1 then
      fX10_hasKept_j22 fu M
    else
      if x1 < 0 ∨ 2 ≤ ix x1 then none else
      if (M.1 (a0 + 195) (ix x1)) = 0 then
        fX10_hasKept_j22 fu M
      else
        fX10_hasKept_j23 fu 1 M
set_option maxRecDepth 100000 in
set_option maxHeartbeats 4000000 in
theorem mX10_hasKept {l : Launch} {E : Ge} {L : Lay} (fu d : Nat) {a0 : Nat} {x1 : Int32} {M : Mm} {r : Int32}  (h0 : At L a0 T10) (h : fX10_hasKept fu a0 x1 M = some r) : Ct l E L yX10_hasKept cX10_hasKept 2 (some .boolean) (d + 0) [.ref a0, .int x1] M (some (.int r)) M := by
  refine Ct.of (by decide) ?_
  intro p e s m below meth c hr hlk B hR
  have B : Bx p s m _ c cX10_hasKept 2 RX10 E L := B
  have hx := B.1
  have hb := B.2.1
  have hl := lv_entry ([.ref a0, .int x1]) (n := 2) (Nat.le_of_ble_eq_true rfl)
  rw [lg_entry_eq]
  generalize (lg_sl ([.ref a0, .int x1]) ++ List.replicate (2 - (lg_sl ([.ref a0, .int x1])).length) Slot.unset).toArray = ls at hl ⊢
  have hl : lv_has ls 2 [(0, .ref a0), (1, .int x1)] := hl
  unfold fX10_hasKept at h
  refine lv_iload_n hx hb dX10_hasKept_0 rfl (lv_at hl 1 rfl) ?_
  refine lv_if_lt (tgt := 22) hx hb dX10_hasKept_1 (by decide) (fun c_1 => ?_) (fun c_1 => ?_)
  · rw [if_pos c_1] at h
    exact wX10_hasKept_j22 B hr hlk  h hR (lv_sub hl [] rfl)
  · rw [if_neg c_1] at h
    refine lv_iload_n hx hb dX10_hasKept_4 rfl (lv_at hl 1 rfl) ?_
    refine lv_iconst (v := 2) hx hb dX10_hasKept_5 (by decide) ?_
    refine lv_icmp_ge (tgt := 22) hx hb dX10_hasKept_6 (by decide) (fun c_6 => ?_) (fun c_6 => ?_)
    · rw [if_pos c_6] at h
      exact wX10_hasKept_j22 B hr hlk  h hR (lv_sub hl [] rfl)
    · rw [if_neg c_6] at h
      refine lv_aload_n hx hb dX10_hasKept_9 rfl (lv_at hl 0 rfl) ?_
      refine gf_X10_38 B hR (h0.at0 rfl) dX10_hasKept_10 ?_
      refine lv_iload_n hx hb dX10_hasKept_13 rfl (lv_at hl 1 rfl) ?_
      obtain ⟨hi_14, h⟩ := ifn_el h
      refine r_zald B hR (h0.at 195 rfl) hi_14 dX10_hasKept_14 ?_
      refine lv_if_eq (tgt := 22) hx hb dX10_hasKept_15 (by decide) (fun c_15 => ?_) (fun c_15 => ?_)
      · rw [if_pos c_15] at h
        exact wX10_hasKept_j22 B hr hlk  h hR (lv_sub hl [] rfl)
      · rw [if_neg c_15] at h
        refine lv_iconst (v := 1) hx hb dX10_hasKept_18 (by decide) ?_
        refine lv_goto (tgt := 23) hx hb dX10_hasKept_19 (by decide) ?_
        exact wX10_hasKept_j23 B hr hlk  h hR (lv_sub hl [] rfl)
def fX10_cutBoth (fu : Nat) (a0 : Nat) (a1 : Nat) (M : Mm) : Option Mm :=
  bm (fX2_begin fu 128 (a0 + 196) (M.1 (a0 + 12) 0) M) fun M_11 =>
  bm (fX2_cutSpans fu 128 (a0 + 196) (a0 + 12) M_11) fun M_22 =>
  bm (fX2_cutSpans fu 128 (a0 + 196) a1 M_22) fun M_30 =>
  bm (fX2_cutRegisters fu 128 (a0 + 196) (a0 + 12) M_30) fun M_41 =>
  bm (fX2_cutRegisters fu 128 (a0 + 196) a1 M_41) fun M_49 =>
  bm (fX2_cutParts fu 128 (a0 + 196) (a0 + 12) M_49) fun M_60 =>
  some M_60
set_option maxRecDepth 100000 in
set_option maxHeartbeats 4000000 in
theorem mX10_cutBoth {l : Launch} {E : Ge} {L : Lay} (fu d : Nat) {a0 : Nat} {a1 : Nat} {M : Mm} {M' : Mm}  (h0 : At L a0 T10) (h1 : At L a1 T8) (h : fX10_cutBoth fu a0 a1 M = some M') : Ct l E L yX10_cutBoth cX10_cutBoth 2 none (d + 2) [.ref a0, .ref a1] M none M' := by
  refine Ct.of (by decide) ?_
  intro p e s m below meth c hr hlk B hR
  have B : Bx p s m _ c cX10_cutBoth 2 RX10 E L := B
  have hx := B.1
  have hb := B.2.1
  have hl := lv_entry ([.ref a0, .ref a1]) (n := 2) (Nat.le_of_ble_eq_true rfl)
  rw [lg_entry_eq]
  generalize (lg_sl ([.ref a0, .ref a1]) ++ List.replicate (2 - (lg_sl ([.ref a0, .ref a1])).length) Slot.unset).toArray = ls at hl ⊢
  have hl : lv_has ls 2 [(0, .ref a0), (1, .ref a1)] := hl
  unfold fX10_cutBoth at h
  refine lv_aload_n hx hb dX10_cutBoth_0 rfl (lv_at hl 0 rfl) ?_
  refine gf_X10_47 B hR (h0.at0 rfl) dX10_cutBoth_1 ?_
  refine lv_aload_n hx hb dX10_cutBoth_4 rfl (lv_at hl 0 rfl) ?_
  refine gf_X10_19 B hR (h0.at0 rfl) dX10_cutBoth_5 ?_
  refine gf_X10_118 B hR ((sb_10_1 h0).at0 rfl) dX10_cutBoth_8 ?_
  obtain ⟨M_11, hc_11, h⟩ := bm_el h
  refine iv_X10_414 B hR ((sb_10_5 h0).at0 rfl) hl.1 (mX2_begin fu _ (sb_10_5 h0) hc_11) (Nat.le_of_ble_eq_true rfl) dX10_cutBoth_11 (fun H locs hR => ?_)
  refine lv_aload_n hx hb dX10_cutBoth_14 rfl (lv_at hl 0 rfl) ?_
  refine gf_X10_47 B hR (h0.at0 rfl) dX10_cutBoth_15 ?_
  refine lv_aload_n hx hb dX10_cutBoth_18 rfl (lv_at hl 0 rfl) ?_
  refine gf_X10_19 B hR (h0.at0 rfl) dX10_cutBoth_19 ?_
  obtain ⟨M_22, hc_22, h⟩ := bm_el h
  refine iv_X10_416 B hR ((sb_10_5 h0).at0 rfl) hl.1 (mX2_cutSpans fu _ (sb_10_5 h0) (sb_10_1 h0) hc_22) (Nat.le_of_ble_eq_true rfl) dX10_cutBoth_22 (fun H locs hR => ?_)
  refine lv_aload_n hx hb dX10_cutBoth_25 rfl (lv_at hl 0 rfl) ?_
  refine gf_X10_47 B hR (h0.at0 rfl) dX10_cutBoth_26 ?_
  refine lv_aload_n hx hb dX10_cutBoth_29 rfl (lv_at hl 1 rfl) ?_
  obtain ⟨M_30, hc_30, h⟩ := bm_el h
  refine iv_X10_416 B hR ((sb_10_5 h0).at0 rfl) hl.1 (mX2_cutSpans fu _ (sb_10_5 h0) h1 hc_30) (Nat.le_of_ble_eq_true rfl) dX10_cutBoth_30 (fun H locs hR => ?_)
  refine lv_aload_n hx hb dX10_cutBoth_33 rfl (lv_at hl 0 rfl) ?_
  refine gf_X10_47 B hR (h0.at0 rfl) dX10_cutBoth_34 ?_
  refine lv_aload_n hx hb dX10_cutBoth_37 rfl (lv_at hl 0 rfl) ?_
  refine gf_X10_19 B hR (h0.at0 rfl) dX10_cutBoth_38 ?_
  obtain ⟨M_41, hc_41, h⟩ := bm_el h
  refine iv_X10_419 B hR ((sb_10_5 h0).at0 rfl) hl.1 (mX2_cutRegisters fu _ (sb_10_5 h0) (sb_10_1 h0) hc_41) (Nat.le_of_ble_eq_true rfl) dX10_cutBoth_41 (fun H locs hR => ?_)
  refine lv_aload_n hx hb dX10_cutBoth_44 rfl (lv_at hl 0 rfl) ?_
  refine gf_X10_47 B hR (h0.at0 rfl) dX10_cutBoth_45 ?_
  refine lv_aload_n hx hb dX10_cutBoth_48 rfl (lv_at hl 1 rfl) ?_
  obtain ⟨M_49, hc_49, h⟩ := bm_el h
  refine iv_X10_419 B hR ((sb_10_5 h0).at0 rfl) hl.1 (mX2_cutRegisters fu _ (sb_10_5 h0) h1 hc_49) (Nat.le_of_ble_eq_true rfl) dX10_cutBoth_49 (fun H locs hR => ?_)
  refine lv_aload_n hx hb dX10_cutBoth_52 rfl (lv_at hl 0 rfl) ?_
  refine gf_X10_47 B hR (h0.at0 rfl) dX10_cutBoth_53 ?_
  refine lv_aload_n hx hb dX10_cutBoth_56 rfl (lv_at hl 0 rfl) ?_
  refine gf_X10_19 B hR (h0.at0 rfl) dX10_cutBoth_57 ?_
  obtain ⟨M_60, hc_60, h⟩ := bm_el h
  refine iv_X10_422 B hR ((sb_10_5 h0).at0 rfl) hl.1 (mX2_cutParts fu _ (sb_10_5 h0) (sb_10_1 h0) hc_60) (Nat.le_of_ble_eq_true rfl) dX10_cutBoth_60 (fun H locs hR => ?_)
  exact r_vretW B hR hr hlk h dX10_cutBoth_63
def fX10_otherKinds_j97 (fu : Nat) (t0 : Int32) (M : Mm) : Option (Int32 × Mm) :=
  some (t0, M)
set_option maxRecDepth 100000 in
set_option maxHeartbeats 4000000 in
theorem wX10_otherKinds_j97 {r : Int32} {M' : Mm}   {t0 : Int32} {M : Mm} (B : Bx p s m args c cX10_otherKinds 6 RX10 E L) (hr : meth.sig.returnType = (some .int)) (hlk : meth.locks = false)   (h : fX10_otherKinds_j97 fu t0 M = some (r, M')) (hR : Rx s E L M H locs) (hl : lv_has ls 6 []) : W p l e (rmD (d + 3)) s m args below meth c H locs 0 0 (MQ below (QcM E L (some (.int r)) M') args s 0 0 E.2.2.2) (F0 m 97 ls [.int t0]) := by
  have hx := B.1
  have hb := B.2.1
  unfold fX10_otherKinds_j97 at h
  exact r_iretW B hR hr hlk h dX10_otherKinds_97
def fX10_otherKinds_j87 (fu : Nat) (x2 : Int32) (x3 : Int32) (M : Mm) : Option (Int32 × Mm) :=
  if x2 = 0 then
    fX10_otherKinds_j97 fu x3 M
  else
    fX10_otherKinds_j97 fu (-2) M
set_option maxRecDepth 100000 in
set_option maxHeartbeats 4000000 in
theorem wX10_otherKinds_j87 {r : Int32} {M' : Mm}   {x2 : Int32} {x3 : Int32} {M : Mm} (B : Bx p s m args c cX10_otherKinds 6 RX10 E L) (hr : meth.sig.returnType = (some .int)) (hlk : meth.locks = false)   (h : fX10_otherKinds_j87 fu x2 x3 M = some (r, M')) (hR : Rx s E L M H locs) (hl : lv_has ls 6 [(2, .int x2), (3, .int x3)]) : W p l e (rmD (d + 3)) s m args below meth c H locs 0 0 (MQ below (QcM E L (some (.int r)) M') args s 0 0 E.2.2.2) (F0 m 87 ls []) := by
  have hx := B.1
  have hb := B.2.1
  unfold fX10_otherKinds_j87 at h
  refine lv_iload_n hx hb dX10_otherKinds_87 rfl (lv_at hl 0 rfl) ?_
  refine lv_if_eq (tgt := 96) hx hb dX10_otherKinds_88 (by decide) (fun c_88 => ?_) (fun c_88 => ?_)
  · rw [if_pos c_88] at h
    refine lv_iload_n hx hb dX10_otherKinds_96 rfl (lv_at hl 1 rfl) ?_
    exact wX10_otherKinds_j97 B hr hlk  h hR (lv_sub hl [] rfl)
  · rw [if_neg c_88] at h
    refine lv_bipush (v := (-2)) hx hb dX10_otherKinds_91 (by decide) ?_
    refine lv_goto (tgt := 97) hx hb dX10_otherKinds_93 (by decide) ?_
    exact wX10_otherKinds_j97 B hr hlk  h hR (lv_sub hl [] rfl)
def fX10_otherKinds_j81 (fu : Nat) (k10 : Int32 → Int32 → Option (Int32 × Mm)) (a0 : Nat) (a1 : Nat) (x2 : Int32) (x3 : Int32) (x4 : Int32) (M : Mm) : Option (Int32 × Mm) :=
  lt (x4 + 1) fun x4_81 =>
  k10 x3 x4_81
set_option maxRecDepth 100000 in
set_option maxHeartbeats 4000000 in
theorem wX10_otherKinds_j81 {r : Int32} {M' : Mm}  {k10 : Int32 → Int32 → Option (Int32 × Mm)} {a0 : Nat} {a1 : Nat} {x2 : Int32} {x3 : Int32} {x4 : Int32} {M : Mm} (B : Bx p s m args c cX10_otherKinds 6 RX10 E L) (hr : meth.sig.returnType = (some .int)) (hlk : meth.locks = false) (ih10 : ∀ (x3 : Int32) (x4 : Int32), k10 x3 x4 = some (r, M') → ∀ (H : Heap) (locs : List Loc) (ls : Array Slot), Rx s E L M H locs → lv_has ls 6 [(0, .ref a0), (1, .ref a1), (2, .int x2), (3, .int x3), (4, .int x4)] → W p l e (rmD (d + 3)) s m args below meth c H locs 0 0 (MQ below (QcM E L (some (.int r)) M') args s 0 0 E.2.2.2) (F0 m 10 ls [])) (h0 : At L a0 T10) (h1 : At L a1 T8) (h : fX10_otherKinds_j81 fu k10 a0 a1 x2 x3 x4 M = some (r, M')) (hR : Rx s E L M H locs) (hl : lv_has ls 6 [(0, .ref a0), (1, .ref a1), (2, .int x2), (3, .int x3), (4, .int x4)]) : W p l e (rmD (d + 3)) s m args below meth c H locs 0 0 (MQ below (QcM E L (some (.int r)) M') args s 0 0 E.2.2.2) (F0 m 81 ls []) := by
  have hx := B.1
  have hb := B.2.1
  unfold fX10_otherKinds_j81 at h
  obtain ⟨x4_81, ex4_81, h⟩ := lt_el h
  refine lv_iinc (v := x4_81) (lv' := [(4, .int x4_81), (0, .ref a0), (1, .ref a1), (2, .int x2), (3, .int x3)]) hx hb dX10_otherKinds_81 hl (k := 4) rfl (by rw [ex4_81]; rfl) (by decide) rfl (fun ls hl => ?_)
  refine lv_goto (tgt := 10) hx hb dX10_otherKinds_84 (by decide) ?_
  exact ih10 x3 x4_81 h _ _ _ hR (lv_sub hl [1, 2, 3, 4, 0] rfl)
def fX10_otherKinds_j60 (fu : Nat) (x5 : Int32) (M : Mm) : Option (Int32 × Mm) :=
  some (x5, M)
set_option maxRecDepth 100000 in
set_option maxHeartbeats 4000000 in
theorem wX10_otherKinds_j60 {r : Int32} {M' : Mm}   {x5 : Int32} {M : Mm} (B : Bx p s m args c cX10_otherKinds 6 RX10 E L) (hr : meth.sig.returnType = (some .int)) (hlk : meth.locks = false)   (h : fX10_otherKinds_j60 fu x5 M = some (r, M')) (hR : Rx s E L M H locs) (hl : lv_has ls 6 [(5, .int x5)]) : W p l e (rmD (d + 3)) s m args below meth c H locs 0 0 (MQ below (QcM E L (some (.int r)) M') args s 0 0 E.2.2.2) (F0 m 60 ls []) := by
  have hx := B.1
  have hb := B.2.1
  unfold fX10_otherKinds_j60 at h
  refine lv_iload hx hb dX10_otherKinds_60 (lv_at hl 0 rfl) ?_
  exact r_iretW B hR hr hlk h dX10_otherKinds_62
def fX10_otherKinds_b10 (fu : Nat) (k10 : Int32 → Int32 → Option (Int32 × Mm)) (a0 : Nat) (a1 : Nat) (x2 : Int32) (x3 : Int32) (x4 : Int32) (M : Mm) : Option (Int32 × Mm) :=
  if (M.1 (a0 + 196) 1) ≤ (x4 + 1) then
    fX10_otherKinds_j87 fu x2 x3 M
  else
    if x4 < 0 ∨ 128 ≤ ix x4 then none else
    lt ((M.1 ((a0 + 196) + 1) (ix x4))) fun x5_34 =>
    bi (fX8_kindAt fu (a0 + 12) x5_34 (-1) M) fun r_43 =>
    bi (fX8_kindAt fu a1 x5_34 (-1) M) fun r_50 =>
    if r_43 = r_50 then
      fX10_otherKinds_j81 fu k10 a0 a1 x2 x3 x4 M
    else
      if x2 = 0 then
        if (x4 + 1) < 0 ∨ 128 ≤ ix (x4 + 1) then none else
        lt ((x3 + ((M.1 ((a0 + 196) + 1) (ix (x4 + 1))) - x5_34))) fun x3_80 =>
        fX10_otherKinds_j81 fu k10 a0 a1 x2 x3_80 x4 M
      else
        fX10_otherKinds_j60 fu x5_34 M
set_option maxRecDepth 100000 in
set_option maxHeartbeats 4000000 in
theorem wX10_otherKinds_b10 {r : Int32} {M' : Mm}   {k10 : Int32 → Int32 → Option (Int32 × Mm)} {a0 : Nat} {a1 : Nat} {x2 : Int32} {x3 : Int32} {x4 : Int32} {M : Mm} (B : Bx p s m args c cX10_otherKinds 6 RX10 E L) (hr : meth.sig.returnType = (some .int)) (hlk : meth.locks = false)  (ih10 : ∀ (x3 : Int32) (x4 : Int32), k10 x3 x4 = some (r, M') → ∀ (H : Heap) (locs : List Loc) (ls : Array Slot), Rx s E L M H locs → lv_has ls 6 [(0, .ref a0), (1, .ref a1), (2, .int x2), (3, .int x3), (4, .int x4)] → W p l e (rmD (d + 3)) s m args below meth c H locs 0 0 (MQ below (QcM E L (some (.int r)) M') args s 0 0 E.2.2.2) (F0 m 10 ls [])) (h0 : At L a0 T10) (h1 : At L a1 T8) (h : fX10_otherKinds_b10 fu k10 a0 a1 x2 x3 x4 M = some (r, M')) (hR : Rx s E L M H locs) (hl : lv_has ls 6 [(0, .ref a0), (1, .ref a1), (2, .int x2), (3, .int x3), (4, .int x4)]) : W p l e (rmD (d + 3)) s m args below meth c H locs 0 0 (MQ below (QcM E L (some (.int r)) M') args s 0 0 E.2.2.2) (F0 m 10 ls []) := by
  have hx := B.1
  have hb := B.2.1
  unfold fX10_otherKinds_b10 at h
  refine lv_iload hx hb dX10_otherKinds_10 (lv_at hl 4 rfl) ?_
  refine lv_iconst (v := 1) hx hb dX10_otherKinds_12 (by decide) ?_
  refine lv_iadd hx hb dX10_otherKinds_13 ?_
  refine lv_aload_n hx hb dX10_otherKinds_14 rfl (lv_at hl 0 rfl) ?_
  refine gf_X10_47 B hR (h0.at0 rfl) dX10_otherKinds_15 ?_
  refine gf_X10_428 B hR ((sb_10_5 h0).at0 rfl) dX10_otherKinds_18 ?_
  refine lv_icmp_ge (tgt := 87) hx hb dX10_otherKinds_21 (by decide) (fun c_21 => ?_) (fun c_21 => ?_)
  · rw [if_pos c_21] at h
    exact wX10_otherKinds_j87 B hr hlk  h hR (lv_sub hl [2, 3] rfl)
  · rw [if_neg c_21] at h
    refine lv_aload_n hx hb dX10_otherKinds_24 rfl (lv_at hl 0 rfl) ?_
    refine gf_X10_47 B hR (h0.at0 rfl) dX10_otherKinds_25 ?_
    refine gf_X10_429 B hR ((sb_10_5 h0).at0 rfl) dX10_otherKinds_28 ?_
    refine lv_iload hx hb dX10_otherKinds_31 (lv_at hl 4 rfl) ?_
    obtain ⟨hi_33, h⟩ := ifn_el h
    refine r_iald B hR ((sb_10_5 h0).at 1 rfl) hi_33 dX10_otherKinds_33 ?_
    obtain ⟨x5_34, ex5_34, h⟩ := lt_el h
    refine r_nmI ex5_34 ?_
    refine lv_istore (lv' := [(5, .int x5_34), (0, .ref a0), (1, .ref a1), (2, .int x2), (3, .int x3), (4, .int x4)]) hx hb dX10_otherKinds_34 hl (by decide) rfl (fun ls hl => ?_)
    refine lv_aload_n hx hb dX10_otherKinds_36 rfl (lv_at hl 1 rfl) ?_
    refine gf_X10_19 B hR (h0.at0 rfl) dX10_otherKinds_37 ?_
    refine lv_iload hx hb dX10_otherKinds_40 (lv_at hl 0 rfl) ?_
    refine lv_iconst (v := (-1)) hx hb dX10_otherKinds_42 (by decide) ?_
    obtain ⟨r_43, hc_43, h⟩ := bi_el h
    refine iv_X10_247 B hR ((sb_10_1 h0).at0 rfl) hl.1 (mX8_kindAt fu _ (sb_10_1 h0) hc_43) (Nat.le_of_ble_eq_true rfl) dX10_otherKinds_43 (fun H locs hR => ?_)
    refine lv_aload_n hx hb dX10_otherKinds_46 rfl (lv_at hl 2 rfl) ?_
    refine lv_iload hx hb dX10_otherKinds_47 (lv_at hl 0 rfl) ?_
    refine lv_iconst (v := (-1)) hx hb dX10_otherKinds_49 (by decide) ?_
    obtain ⟨r_50, hc_50, h⟩ := bi_el h
    refine iv_X10_247 B hR (h1.at0 rfl) hl.1 (mX8_kindAt fu _ h1 hc_50) (Nat.le_of_ble_eq_true rfl) dX10_otherKinds_50 (fun H locs hR => ?_)
    refine lv_icmp_eq (tgt := 81) hx hb dX10_otherKinds_53 (by decide) (fun c_53 => ?_) (fun c_53 => ?_)
    · rw [if_pos c_53] at h
      exact wX10_otherKinds_j81 B hr hlk ih10 h0 h1 h hR (lv_sub hl [1, 2, 3, 4, 5] rfl)
    · rw [if_neg c_53] at h
      refine lv_iload_n hx hb dX10_otherKinds_56 rfl (lv_at hl 3 rfl) ?_
      refine lv_if_eq (tgt := 63) hx hb dX10_otherKinds_57 (by decide) (fun c_57 => ?_) (fun c_57 => ?_)
      · rw [if_pos c_57] at h
        refine lv_iload_n hx hb dX10_otherKinds_63 rfl (lv_at hl 4 rfl) ?_
        refine lv_aload_n hx hb dX10_otherKinds_64 rfl (lv_at hl 1 rfl) ?_
        refine gf_X10_47 B hR (h0.at0 rfl) dX10_otherKinds_65 ?_
        refine gf_X10_429 B hR ((sb_10_5 h0).at0 rfl) dX10_otherKinds_68 ?_
        refine lv_iload hx hb dX10_otherKinds_71 (lv_at hl 5 rfl) ?_
        refine lv_iconst (v := 1) hx hb dX10_otherKinds_73 (by decide) ?_
        refine lv_iadd hx hb dX10_otherKinds_74 ?_
        obtain ⟨hi_75, h⟩ := ifn_el h
        refine r_iald B hR ((sb_10_5 h0).at 1 rfl) hi_75 dX10_otherKinds_75 ?_
        refine lv_iload hx hb dX10_otherKinds_76 (lv_at hl 0 rfl) ?_
        refine lv_isub hx hb dX10_otherKinds_78 ?_
        refine lv_iadd hx hb dX10_otherKinds_79 ?_
        obtain ⟨x3_80, ex3_80, h⟩ := lt_el h
        refine r_nmI ex3_80 ?_
        refine lv_istore_n (lv' := [(3, .int x3_80), (5, .int x5_34), (0, .ref a0), (1, .ref a1), (2, .int x2), (4, .int x4)]) hx hb dX10_otherKinds_80 rfl hl (by decide) rfl (fun ls hl => ?_)
        exact wX10_otherKinds_j81 B hr hlk ih10 h0 h1 h hR (lv_sub hl [2, 3, 4, 0, 5] rfl)
      · rw [if_neg c_57] at h
        exact wX10_otherKinds_j60 B hr hlk  h hR (lv_sub hl [0] rfl)
def fX10_otherKinds_l10 (fu : Nat) (a0 : Nat) (a1 : Nat) (x2 : Int32) (M : Mm) (x3 : Int32) (x4 : Int32) : Option (Int32 × Mm) := lp (fun (rec : (Int32 × Int32) → Option (Int32 × Mm)) (s : Int32 × Int32) => fX10_otherKinds_b10 fu  (fun x3 x4 => rec (x3, x4)) a0 a1 x2 s.1 s.2 M) fu (x3, x4)
set_option maxRecDepth 100000 in
set_option maxHeartbeats 4000000 in
theorem wX10_otherKinds_l10 {r : Int32} {M' : Mm}   {a0 : Nat} {a1 : Nat} {x2 : Int32} {x3 : Int32} {x4 : Int32} {M : Mm} (B : Bx p s m args c cX10_otherKinds 6 RX10 E L) (hr : meth.sig.returnType = (some .int)) (hlk : meth.locks = false)  (h0 : At L a0 T10) (h1 : At L a1 T8) (h : fX10_otherKinds_l10 fu a0 a1 x2 M x3 x4 = some (r, M')) (hR : Rx s E L M H locs) (hl : lv_has ls 6 [(0, .ref a0), (1, .ref a1), (2, .int x2), (3, .int x3), (4, .int x4)]) : W p l e (rmD (d + 3)) s m args below meth c H locs 0 0 (MQ below (QcM E L (some (.int r)) M') args s 0 0 E.2.2.2) (F0 m 10 ls []) := by
  refine lp_G (G := fun z : Int32 × Int32 => ∀ (H : Heap) (locs : List Loc) (ls : Array Slot), Rx s E L M H locs → lv_has ls 6 [(0, .ref a0), (1, .ref a1), (2, .int x2), (3, .int z.1), (4, .int z.2)] → W p l e (rmD (d + 3)) s m args below meth c H locs 0 0 (MQ below (QcM E L (some (.int r)) M') args s 0 0 E.2.2.2) (F0 m 10 ls [])) (fun rec ih z h H locs ls hR hl => ?_) fu _ h H locs ls hR hl
  exact wX10_otherKinds_b10 B hr hlk  (fun x3 x4 h => ih (x3, x4) h) h0 h1 h hR hl
def fX10_otherKinds (fu : Nat) (a0 : Nat) (a1 : Nat) (x2 : Int32) (M : Mm) : Option (Int32 × Mm) :=
  bm (fX10_cutBoth fu a0 a1 M) fun M_2 =>
  fX10_otherKinds_l10 fu a0 a1 x2 M_2 0 0
set_option maxRecDepth 100000 in
set_option maxHeartbeats 4000000 in
theorem mX10_otherKinds {l : Launch} {E : Ge} {L : Lay} (fu d : Nat) {a0 : Nat} {a1 : Nat} {x2 : Int32} {M : Mm} {r : Int32} {M' : Mm}  (h0 : At L a0 T10) (h1 : At L a1 T8) (h : fX10_otherKinds fu a0 a1 x2 M = some (r, M')) : Ct l E L yX10_otherKinds cX10_otherKinds 6 (some .int) (d + 3) [.ref a0, .ref a1, .int x2] M (some (.int r)) M' := by
  refine Ct.of (by decide) ?_
  intro p e s m below meth c hr hlk B hR
  have B : Bx p s m _ c cX10_otherKinds 6 RX10 E L := B
  have hx := B.1
  have hb := B.2.1
  have hl := lv_entry ([.ref a0, .ref a1, .int x2]) (n := 6) (Nat.le_of_ble_eq_true rfl)
  rw [lg_entry_eq]
  generalize (lg_sl ([.ref a0, .ref a1, .int x2]) ++ List.replicate (6 - (lg_sl ([.ref a0, .ref a1, .int x2])).length) Slot.unset).toArray = ls at hl ⊢
  have hl : lv_has ls 6 [(0, .ref a0), (1, .ref a1), (2, .int x2)] := hl
  unfold fX10_otherKinds at h
  refine lv_aload_n hx hb dX10_otherKinds_0 rfl (lv_at hl 0 rfl) ?_
  refine lv_aload_n hx hb dX10_otherKinds_1 rfl (lv_at hl 1 rfl) ?_
  obtain ⟨M_2, hc_2, h⟩ := bm_el h
  refine iv_X10_425 B hR (h0.at0 rfl) hl.1 (mX10_cutBoth fu _ h0 h1 hc_2) (Nat.le_of_ble_eq_true rfl) dX10_otherKinds_2 (fun H locs hR => ?_)
  refine lv_iconst (v := 0) hx hb dX10_otherKinds_5 (by decide) ?_
  refine lv_istore_n (lv' := [(3, .int 0), (0, .ref a0), (1, .ref a1), (2, .int x2)]) hx hb dX10_otherKinds_6 rfl hl (by decide) rfl (fun ls hl => ?_)
  refine lv_iconst (v := 0) hx hb dX10_otherKinds_7 (by decide) ?_
  refine lv_istore (lv' := [(4, .int 0), (3, .int 0), (0, .ref a0), (1, .ref a1), (2, .int x2)]) hx hb dX10_otherKinds_8 hl (by decide) rfl (fun ls hl => ?_)
  exact wX10_otherKinds_l10 B hr hlk h0 h1 h hR (lv_sub hl [2, 3, 4, 1, 0] rfl)
def fX10_otherWanted_j85 (fu : Nat) (x2 : Int32) (M : Mm) : Option (Int32 × Mm) :=
  some (x2, M)
set_option maxRecDepth 100000 in
set_option maxHeartbeats 4000000 in
theorem wX10_otherWanted_j85 {r : Int32} {M' : Mm}   {x2 : Int32} {M : Mm} (B : Bx p s m args c cX10_otherWanted 5 RX10 E L) (hr : meth.sig.returnType = (some .int)) (hlk : meth.locks = false)   (h : fX10_otherWanted_j85 fu x2 M = some (r, M')) (hR : Rx s E L M H locs) (hl : lv_has ls 5 [(2, .int x2)]) : W p l e (rmD (d + 3)) s m args below meth c H locs 0 0 (MQ below (QcM E L (some (.int r)) M') args s 0 0 E.2.2.2) (F0 m 85 ls []) := by
  have hx := B.1
  have hb := B.2.1
  unfold fX10_otherWanted_j85 at h
  refine lv_iload_n hx hb dX10_otherWanted_85 rfl (lv_at hl 0 rfl) ?_
  exact r_iretW B hR hr hlk h dX10_otherWanted_86
def fX10_otherWanted_j79 (fu : Nat) (k9 : Int32 → Int32 → Option (Int32 × Mm)) (a0 : Nat) (a1 : Nat) (x2 : Int32) (x3 : Int32) (M : Mm) : Option (Int32 × Mm) :=
  lt (x3 + 1) fun x3_79 =>
  k9 x2 x3_79
set_option maxRecDepth 100000 in
set_option maxHeartbeats 4000000 in
theorem wX10_otherWanted_j79 {r : Int32} {M' : Mm}  {k9 : Int32 → Int32 → Option (Int32 × Mm)} {a0 : Nat} {a1 : Nat} {x2 : Int32} {x3 : Int32} {M : Mm} (B : Bx p s m args c cX10_otherWanted 5 RX10 E L) (hr : meth.sig.returnType = (some .int)) (hlk : meth.locks = false) (ih9 : ∀ (x2 : Int32) (x3 : Int32), k9 x2 x3 = some (r, M') → ∀ (H : Heap) (locs : List Loc) (ls : Array Slot), Rx s E L M H locs → lv_has ls 5 [(0, .ref a0), (1, .ref a1), (2, .int x2), (3, .int x3)] → W p l e (rmD (d + 3)) s m args below meth c H locs 0 0 (MQ below (QcM E L (some (.int r)) M') args s 0 0 E.2.2.2) (F0 m 9 ls [])) (h0 : At L a0 T10) (h1 : At L a1 T8) (h : fX10_otherWanted_j79 fu k9 a0 a1 x2 x3 M = some (r, M')) (hR : Rx s E L M H locs) (hl : lv_has ls 5 [(0, .ref a0), (1, .ref a1), (2, .int x2), (3, .int x3)]) : W p l e (rmD (d + 3)) s m args below meth c H locs 0 0 (MQ below (QcM E L (some (.int r)) M') args s 0 0 E.2.2.2) (F0 m 79 ls []) := by
  have hx := B.1
  have hb := B.2.1
  unfold fX10_otherWanted_j79 at h
  obtain ⟨x3_79, ex3_79, h⟩ := lt_el h
  refine lv_iinc (v := x3_79) (lv' := [(3, .int x3_79), (0, .ref a0), (1, .ref a1), (2, .int x2)]) hx hb dX10_otherWanted_79 hl (k := 3) rfl (by rw [ex3_79]; rfl) (by decide) rfl (fun ls hl => ?_)
  refine lv_goto (tgt := 9) hx hb dX10_otherWanted_82 (by decide) ?_
  exact ih9 x2 x3_79 h _ _ _ hR (lv_sub hl [1, 2, 3, 0] rfl)
def fX10_otherWanted_b9 (fu : Nat) (k9 : Int32 → Int32 → Option (Int32 × Mm)) (a0 : Nat) (a1 : Nat) (x2 : Int32) (x3 : Int32) (M : Mm) : Option (Int32 × Mm) :=
  if (M.1 (a0 + 196) 1) ≤ (x3 + 1) then
    fX10_otherWanted_j85 fu x2 M
  else
    if x3 < 0 ∨ 128 ≤ ix x3 then none else
    lt ((M.1 ((a0 + 196) + 1) (ix x3))) fun x4_31 =>
    bi (fX8_wantedAt fu (a0 + 12) x4_31 (M.1 (a0 + 12) 2) M) fun r_46 =>
    bi (fX8_wantedAt fu a1 x4_31 (M.1 a1 2) M) fun r_56 =>
    if r_46 = r_56 then
      fX10_otherWanted_j79 fu k9 a0 a1 x2 x3 M
    else
      if (x3 + 1) < 0 ∨ 128 ≤ ix (x3 + 1) then none else
      lt ((x2 + ((M.1 ((a0 + 196) + 1) (ix (x3 + 1))) - x4_31))) fun x2_78 =>
      fX10_otherWanted_j79 fu k9 a0 a1 x2_78 x3 M
set_option maxRecDepth 100000 in
set_option maxHeartbeats 4000000 in
theorem wX10_otherWanted_b9 {r : Int32} {M' : Mm}   {k9 : Int32 → Int32 → Option (Int32 × Mm)} {a0 : Nat} {a1 : Nat} {x2 : Int32} {x3 : Int32} {M : Mm} (B : Bx p s m args c cX10_otherWanted 5 RX10 E L) (hr : meth.sig.returnType = (some .int)) (hlk : meth.locks = false)  (ih9 : ∀ (x2 : Int32) (x3 : Int32), k9 x2 x3 = some (r, M') → ∀ (H : Heap) (locs : List Loc) (ls : Array Slot), Rx s E L M H locs → lv_has ls 5 [(0, .ref a0), (1, .ref a1), (2, .int x2), (3, .int x3)] → W p l e (rmD (d + 3)) s m args below meth c H locs 0 0 (MQ below (QcM E L (some (.int r)) M') args s 0 0 E.2.2.2) (F0 m 9 ls [])) (h0 : At L a0 T10) (h1 : At L a1 T8) (h : fX10_otherWanted_b9 fu k9 a0 a1 x2 x3 M = some (r, M')) (hR : Rx s E L M H locs) (hl : lv_has ls 5 [(0, .ref a0), (1, .ref a1), (2, .int x2), (3, .int x3)]) : W p l e (rmD (d + 3)) s m args below meth c H locs 0 0 (MQ below (QcM E L (some (.int r)) M') args s 0 0 E.2.2.2) (F0 m 9 ls []) := by
  have hx := B.1
  have hb := B.2.1
  unfold fX10_otherWanted_b9 at h
  refine lv_iload_n hx hb dX10_otherWanted_9 rfl (lv_at hl 3 rfl) ?_
  refine lv_iconst (v := 1) hx hb dX10_otherWanted_10 (by decide) ?_
  refine lv_iadd hx hb dX10_otherWanted_11 ?_
  refine lv_aload_n hx hb dX10_otherWanted_12 rfl (lv_at hl 0 rfl) ?_
  refine gf_X10_47 B hR (h0.at0 rfl) dX10_otherWanted_13 ?_
  refine gf_X10_428 B hR ((sb_10_5 h0).at0 rfl) dX10_otherWanted_16 ?_
  refine lv_icmp_ge (tgt := 85) hx hb dX10_otherWanted_19 (by decide) (fun c_19 => ?_) (fun c_19 => ?_)
  · rw [if_pos c_19] at h
    exact wX10_otherWanted_j85 B hr hlk  h hR (lv_sub hl [2] rfl)
  · rw [if_neg c_19] at h
    refine lv_aload_n hx hb dX10_otherWanted_22 rfl (lv_at hl 0 rfl) ?_
    refine gf_X10_47 B hR (h0.at0 rfl) dX10_otherWanted_23 ?_
    refine gf_X10_429 B hR ((sb_10_5 h0).at0 rfl) dX10_otherWanted_26 ?_
    refine lv_iload_n hx hb dX10_otherWanted_29 rfl (lv_at hl 3 rfl) ?_
    obtain ⟨hi_30, h⟩ := ifn_el h
    refine r_iald B hR ((sb_10_5 h0).at 1 rfl) hi_30 dX10_otherWanted_30 ?_
    obtain ⟨x4_31, ex4_31, h⟩ := lt_el h
    refine r_nmI ex4_31 ?_
    refine lv_istore (lv' := [(4, .int x4_31), (0, .ref a0), (1, .ref a1), (2, .int x2), (3, .int x3)]) hx hb dX10_otherWanted_31 hl (by decide) rfl (fun ls hl => ?_)
    refine lv_aload_n hx hb dX10_otherWanted_33 rfl (lv_at hl 1 rfl) ?_
    refine gf_X10_19 B hR (h0.at0 rfl) dX10_otherWanted_34 ?_
    refine lv_iload hx hb dX10_otherWanted_37 (lv_at hl 0 rfl) ?_
    refine lv_aload_n hx hb dX10_otherWanted_39 rfl (lv_at hl 1 rfl) ?_
    refine gf_X10_19 B hR (h0.at0 rfl) dX10_otherWanted_40 ?_
    refine gf_X10_135 B hR ((sb_10_1 h0).at0 rfl) dX10_otherWanted_43 ?_
    obtain ⟨r_46, hc_46, h⟩ := bi_el h
    refine iv_X10_244 B hR ((sb_10_1 h0).at0 rfl) hl.1 (mX8_wantedAt fu _ (sb_10_1 h0) hc_46) (Nat.le_of_ble_eq_true rfl) dX10_otherWanted_46 (fun H locs hR => ?_)
    refine lv_aload_n hx hb dX10_otherWanted_49 rfl (lv_at hl 2 rfl) ?_
    refine lv_iload hx hb dX10_otherWanted_50 (lv_at hl 0 rfl) ?_
    refine lv_aload_n hx hb dX10_otherWanted_52 rfl (lv_at hl 2 rfl) ?_
    refine gf_X10_135 B hR (h1.at0 rfl) dX10_otherWanted_53 ?_
    obtain ⟨r_56, hc_56, h⟩ := bi_el h
    refine iv_X10_244 B hR (h1.at0 rfl) hl.1 (mX8_wantedAt fu _ h1 hc_56) (Nat.le_of_ble_eq_true rfl) dX10_otherWanted_56 (fun H locs hR => ?_)
    refine lv_icmp_eq (tgt := 79) hx hb dX10_otherWanted_59 (by decide) (fun c_59 => ?_) (fun c_59 => ?_)
    · rw [if_pos c_59] at h
      exact wX10_otherWanted_j79 B hr hlk ih9 h0 h1 h hR (lv_sub hl [1, 2, 3, 4] rfl)
    · rw [if_neg c_59] at h
      refine lv_iload_n hx hb dX10_otherWanted_62 rfl (lv_at hl 3 rfl) ?_
      refine lv_aload_n hx hb dX10_otherWanted_63 rfl (lv_at hl 1 rfl) ?_
      refine gf_X10_47 B hR (h0.at0 rfl) dX10_otherWanted_64 ?_
      refine gf_X10_429 B hR ((sb_10_5 h0).at0 rfl) dX10_otherWanted_67 ?_
      refine lv_iload_n hx hb dX10_otherWanted_70 rfl (lv_at hl 4 rfl) ?_
      refine lv_iconst (v := 1) hx hb dX10_otherWanted_71 (by decide) ?_
      refine lv_iadd hx hb dX10_otherWanted_72 ?_
      obtain ⟨hi_73, h⟩ := ifn_el h
      refine r_iald B hR ((sb_10_5 h0).at 1 rfl) hi_73 dX10_otherWanted_73 ?_
      refine lv_iload hx hb dX10_otherWanted_74 (lv_at hl 0 rfl) ?_
      refine lv_isub hx hb dX10_otherWanted_76 ?_
      refine lv_iadd hx hb dX10_otherWanted_77 ?_
      obtain ⟨x2_78, ex2_78, h⟩ := lt_el h
      refine r_nmI ex2_78 ?_
      refine lv_istore_n (lv' := [(2, .int x2_78), (4, .int x4_31), (0, .ref a0), (1, .ref a1), (3, .int x3)]) hx hb dX10_otherWanted_78 rfl hl (by decide) rfl (fun ls hl => ?_)
      exact wX10_otherWanted_j79 B hr hlk ih9 h0 h1 h hR (lv_sub hl [2, 3, 0, 4] rfl)
def fX10_otherWanted_l9 (fu : Nat) (a0 : Nat) (a1 : Nat) (M : Mm) (x2 : Int32) (x3 : Int32) : Option (Int32 × Mm) := lp (fun (rec : (Int32 × Int32) → Option (Int32 × Mm)) (s : Int32 × Int32) => fX10_otherWanted_b9 fu  (fun x2 x3 => rec (x2, x3)) a0 a1 s.1 s.2 M) fu (x2, x3)
set_option maxRecDepth 100000 in
set_option maxHeartbeats 4000000 in
theorem wX10_otherWanted_l9 {r : Int32} {M' : Mm}   {a0 : Nat} {a1 : Nat} {x2 : Int32} {x3 : Int32} {M : Mm} (B : Bx p s m args c cX10_otherWanted 5 RX10 E L) (hr : meth.sig.returnType = (some .int)) (hlk : meth.locks = false)  (h0 : At L a0 T10) (h1 : At L a1 T8) (h : fX10_otherWanted_l9 fu a0 a1 M x2 x3 = some (r, M')) (hR : Rx s E L M H locs) (hl : lv_has ls 5 [(0, .ref a0), (1, .ref a1), (2, .int x2), (3, .int x3)]) : W p l e (rmD (d + 3)) s m args below meth c H locs 0 0 (MQ below (QcM E L (some (.int r)) M') args s 0 0 E.2.2.2) (F0 m 9 ls []) := by
  refine lp_G (G := fun z : Int32 × Int32 => ∀ (H : Heap) (locs : List Loc) (ls : Array Slot), Rx s E L M H locs → lv_has ls 5 [(0, .ref a0), (1, .ref a1), (2, .int z.1), (3, .int z.2)] → W p l e (rmD (d + 3)) s m args below meth c H locs 0 0 (MQ below (QcM E L (some (.int r)) M') args s 0 0 E.2.2.2) (F0 m 9 ls [])) (fun rec ih z h H locs ls hR hl => ?_) fu _ h H locs ls hR hl
  exact wX10_otherWanted_b9 B hr hlk  (fun x2 x3 h => ih (x2, x3) h) h0 h1 h hR hl
def fX10_otherWanted (fu : Nat) (a0 : Nat) (a1 : Nat) (M : Mm) : Option (Int32 × Mm) :=
  bm (fX10_cutBoth fu a0 a1 M) fun M_2 =>
  fX10_otherWanted_l9 fu a0 a1 M_2 0 0
set_option maxRecDepth 100000 in
set_option maxHeartbeats 4000000 in
theorem mX10_otherWanted {l : Launch} {E : Ge} {L : Lay} (fu d : Nat) {a0 : Nat} {a1 : Nat} {M : Mm} {r : Int32} {M' : Mm}  (h0 : At L a0 T10) (h1 : At L a1 T8) (h : fX10_otherWanted fu a0 a1 M = some (r, M')) : Ct l E L yX10_otherWanted cX10_otherWanted 5 (some .int) (d + 3) [.ref a0, .ref a1] M (some (.int r)) M' := by
  refine Ct.of (by decide) ?_
  intro p e s m below meth c hr hlk B hR
  have B : Bx p s m _ c cX10_otherWanted 5 RX10 E L := B
  have hx := B.1
  have hb := B.2.1
  have hl := lv_entry ([.ref a0, .ref a1]) (n := 5) (Nat.le_of_ble_eq_true rfl)
  rw [lg_entry_eq]
  generalize (lg_sl ([.ref a0, .ref a1]) ++ List.replicate (5 - (lg_sl ([.ref a0, .ref a1])).length) Slot.unset).toArray = ls at hl ⊢
  have hl : lv_has ls 5 [(0, .ref a0), (1, .ref a1)] := hl
  unfold fX10_otherWanted at h
  refine lv_aload_n hx hb dX10_otherWanted_0 rfl (lv_at hl 0 rfl) ?_
  refine lv_aload_n hx hb dX10_otherWanted_1 rfl (lv_at hl 1 rfl) ?_
  obtain ⟨M_2, hc_2, h⟩ := bm_el h
  refine iv_X10_425 B hR (h0.at0 rfl) hl.1 (mX10_cutBoth fu _ h0 h1 hc_2) (Nat.le_of_ble_eq_true rfl) dX10_otherWanted_2 (fun H locs hR => ?_)
  refine lv_iconst (v := 0) hx hb dX10_otherWanted_5 (by decide) ?_
  refine lv_istore_n (lv' := [(2, .int 0), (0, .ref a0), (1, .ref a1)]) hx hb dX10_otherWanted_6 rfl hl (by decide) rfl (fun ls hl => ?_)
  refine lv_iconst (v := 0) hx hb dX10_otherWanted_7 (by decide) ?_
  refine lv_istore_n (lv' := [(3, .int 0), (2, .int 0), (0, .ref a0), (1, .ref a1)]) hx hb dX10_otherWanted_8 rfl hl (by decide) rfl (fun ls hl => ?_)
  exact wX10_otherWanted_l9 B hr hlk h0 h1 h hR (lv_sub hl [2, 3, 1, 0] rfl)
def fX10_differs (fu : Nat) (a0 : Nat) (x1 : Int32) (x2 : Int32) (M : Mm) : Option (Int32 × Mm) :=
  bi (fX10_hasKept fu a0 x1 M) fun r_2 =>
  if r_2 = 0 then
    some ((-1), M)
  else
    if x2 = 0 then
      if x1 < 0 ∨ 2 ≤ ix x1 then none else
      bw (fX10_otherKinds fu a0 ((a0 + 176) + 1 + 9 * ix x1) 0 M) fun r_44 M_44 =>
      some (r_44, M_44)
    else
      if x2 = 1 then
        if x1 < 0 ∨ 2 ≤ ix x1 then none else
        bw (fX10_otherWanted fu a0 ((a0 + 176) + 1 + 9 * ix x1) M) fun r_55 M_55 =>
        some (r_55, M_55)
      else
        if x2 = 2 then
          if x1 < 0 ∨ 2 ≤ ix x1 then none else
          bw (fX10_otherKinds fu a0 ((a0 + 176) + 1 + 9 * ix x1) 1 M) fun r_67 M_67 =>
          some (r_67, M_67)
        else
          some ((-1), M)
set_option maxRecDepth 100000 in
set_option maxHeartbeats 4000000 in
theorem mX10_differs {l : Launch} {E : Ge} {L : Lay} (fu d : Nat) {a0 : Nat} {x1 : Int32} {x2 : Int32} {M : Mm} {r : Int32} {M' : Mm}  (h0 : At L a0 T10) (h : fX10_differs fu a0 x1 x2 M = some (r, M')) : Ct l E L yX10_differs cX10_differs 3 (some .int) (d + 4) [.ref a0, .int x1, .int x2] M (some (.int r)) M' := by
  refine Ct.of (by decide) ?_
  intro p e s m below meth c hr hlk B hR
  have B : Bx p s m _ c cX10_differs 3 RX10 E L := B
  have hx := B.1
  have hb := B.2.1
  have hl := lv_entry ([.ref a0, .int x1, .int x2]) (n := 3) (Nat.le_of_ble_eq_true rfl)
  rw [lg_entry_eq]
  generalize (lg_sl ([.ref a0, .int x1, .int x2]) ++ List.replicate (3 - (lg_sl ([.ref a0, .int x1, .int x2])).length) Slot.unset).toArray = ls at hl ⊢
  have hl : lv_has ls 3 [(0, .ref a0), (1, .int x1), (2, .int x2)] := hl
  unfold fX10_differs at h
  refine lv_aload_n hx hb dX10_differs_0 rfl (lv_at hl 0 rfl) ?_
  refine lv_iload_n hx hb dX10_differs_1 rfl (lv_at hl 1 rfl) ?_
  obtain ⟨r_2, hc_2, h⟩ := bi_el h
  refine iv_X10_355 B hR (h0.at0 rfl) hl.1 (mX10_hasKept fu _ h0 hc_2) (Nat.le_of_ble_eq_true rfl) dX10_differs_2 (fun H locs hR => ?_)
  refine lv_if_ne (tgt := 10) hx hb dX10_differs_5 (by decide) (fun c_5 => ?_) (fun c_5 => ?_)
  · rw [if_neg c_5] at h
    refine lv_iload_n hx hb dX10_differs_10 rfl (lv_at hl 2 rfl) ?_
    by_cases s_11_0 : x2 = 0
    · rw [if_pos s_11_0] at h
      refine lv_tableIn (tgt := 36) hx hb dX10_differs_11 (by rw [s_11_0]; decide) (by rw [s_11_0]; decide) (by rw [s_11_0]; rfl) (by decide) ?_
      refine lv_aload_n hx hb dX10_differs_36 rfl (lv_at hl 0 rfl) ?_
      refine lv_aload_n hx hb dX10_differs_37 rfl (lv_at hl 0 rfl) ?_
      refine gf_X10_34 B hR (h0.at0 rfl) dX10_differs_38 ?_
      refine lv_iload_n hx hb dX10_differs_41 rfl (lv_at hl 1 rfl) ?_
      obtain ⟨hi_42, h⟩ := ifn_el h
      refine r_aald B hR (h0.at 176 rfl) hi_42 dX10_differs_42 ?_
      refine lv_iconst (v := 0) hx hb dX10_differs_43 (by decide) ?_
      obtain ⟨r_44, M_44, hc_44, h⟩ := bw_el h
      refine iv_X10_358 B hR (h0.at0 rfl) hl.1 (mX10_otherKinds fu _ h0 (rg_2 h0 hi_42) hc_44) (Nat.le_of_ble_eq_true rfl) dX10_differs_44 (fun H locs hR => ?_)
      exact r_iretW B hR hr hlk h dX10_differs_47
    · rw [if_neg s_11_0] at h
      by_cases s_11_1 : x2 = 1
      · rw [if_pos s_11_1] at h
        refine lv_tableIn (tgt := 48) hx hb dX10_differs_11 (by rw [s_11_1]; decide) (by rw [s_11_1]; decide) (by rw [s_11_1]; rfl) (by decide) ?_
        refine lv_aload_n hx hb dX10_differs_48 rfl (lv_at hl 0 rfl) ?_
        refine lv_aload_n hx hb dX10_differs_49 rfl (lv_at hl 0 rfl) ?_
        refine gf_X10_34 B hR (h0.at0 rfl) dX10_differs_50 ?_
        refine lv_iload_n hx hb dX10_differs_53 rfl (lv_at hl 1 rfl) ?_
        obtain ⟨hi_54, h⟩ := ifn_el h
        refine r_aald B hR (h0.at 176 rfl) hi_54 dX10_differs_54 ?_
        obtain ⟨r_55, M_55, hc_55, h⟩ := bw_el h
        refine iv_X10_362 B hR (h0.at0 rfl) hl.1 (mX10_otherWanted fu _ h0 (rg_2 h0 hi_54) hc_55) (Nat.le_of_ble_eq_true rfl) dX10_differs_55 (fun H locs hR => ?_)
        exact r_iretW B hR hr hlk h dX10_differs_58
      · rw [if_neg s_11_1] at h
        by_cases s_11_2 : x2 = 2
        · rw [if_pos s_11_2] at h
          refine lv_tableIn (tgt := 59) hx hb dX10_differs_11 (by rw [s_11_2]; decide) (by rw [s_11_2]; decide) (by rw [s_11_2]; rfl) (by decide) ?_
          refine lv_aload_n hx hb dX10_differs_59 rfl (lv_at hl 0 rfl) ?_
          refine lv_aload_n hx hb dX10_differs_60 rfl (lv_at hl 0 rfl) ?_
          refine gf_X10_34 B hR (h0.at0 rfl) dX10_differs_61 ?_
          refine lv_iload_n hx hb dX10_differs_64 rfl (lv_at hl 1 rfl) ?_
          obtain ⟨hi_65, h⟩ := ifn_el h
          refine r_aald B hR (h0.at 176 rfl) hi_65 dX10_differs_65 ?_
          refine lv_iconst (v := 1) hx hb dX10_differs_66 (by decide) ?_
          obtain ⟨r_67, M_67, hc_67, h⟩ := bw_el h
          refine iv_X10_358 B hR (h0.at0 rfl) hl.1 (mX10_otherKinds fu _ h0 (rg_2 h0 hi_65) hc_67) (Nat.le_of_ble_eq_true rfl) dX10_differs_67 (fun H locs hR => ?_)
          exact r_iretW B hR hr hlk h dX10_differs_70
        · rw [if_neg s_11_2] at h
          refine lv_tableOut (tgt := 71) hx hb dX10_differs_11 (by have := ne_toInt s_11_0 (a := 0) (by decide); have := ne_toInt s_11_1 (a := 1) (by decide); have := ne_toInt s_11_2 (a := 2) (by decide); omega) (by decide) ?_
          refine lv_iconst (v := (-1)) hx hb dX10_differs_71 (by decide) ?_
          exact r_iretW B hR hr hlk h dX10_differs_72
  · rw [if_pos c_5] at h
    refine lv_iconst (v := (-1)) hx hb dX10_differs_8 (by decide) ?_
    exact r_iretW B hR hr hlk h dX10_differs_9
def fX10_startAnew (fu : Nat) (a0 : Nat) (M : Mm) : Option Mm :=
  bm (fX4_begin fu (a0 + 21) (a0 + 12) M) fun M_8 =>
  bm (fX10_forgetAll fu a0 M_8) fun M_12 =>
  some M_12
set_option maxRecDepth 100000 in
set_option maxHeartbeats 4000000 in
theorem mX10_startAnew {l : Launch} {E : Ge} {L : Lay} (fu d : Nat) {a0 : Nat} {M : Mm} {M' : Mm}  (h0 : At L a0 T10) (h : fX10_startAnew fu a0 M = some M') : Ct l E L yX10_startAnew cX10_startAnew 1 none (d + 3) [.ref a0] M none M' := by
  refine Ct.of (by decide) ?_
  intro p e s m below meth c hr hlk B hR
  have B : Bx p s m _ c cX10_startAnew 1 RX10 E L := B
  have hx := B.1
  have hb := B.2.1
  have hl := lv_entry ([.ref a0]) (n := 1) (Nat.le_of_ble_eq_true rfl)
  rw [lg_entry_eq]
  generalize (lg_sl ([.ref a0]) ++ List.replicate (1 - (lg_sl ([.ref a0])).length) Slot.unset).toArray = ls at hl ⊢
  have hl : lv_has ls 1 [(0, .ref a0)] := hl
  unfold fX10_startAnew at h
  refine lv_aload_n hx hb dX10_startAnew_0 rfl (lv_at hl 0 rfl) ?_
  refine gf_X10_26 B hR (h0.at0 rfl) dX10_startAnew_1 ?_
  refine lv_aload_n hx hb dX10_startAnew_4 rfl (lv_at hl 0 rfl) ?_
  refine gf_X10_19 B hR (h0.at0 rfl) dX10_startAnew_5 ?_
  obtain ⟨M_8, hc_8, h⟩ := bm_el h
  refine iv_X10_30 B hR ((sb_10_2 h0).at0 rfl) hl.1 (mX4_begin fu _ (sb_10_2 h0) (sb_10_1 h0) hc_8) (Nat.le_of_ble_eq_true rfl) dX10_startAnew_8 (fun H locs hR => ?_)
  refine lv_aload_n hx hb dX10_startAnew_11 rfl (lv_at hl 0 rfl) ?_
  obtain ⟨M_12, hc_12, h⟩ := bm_el h
  refine iv_X10_213 B hR (h0.at0 rfl) hl.1 (mX10_forgetAll fu _ h0 hc_12) (Nat.le_of_ble_eq_true rfl) dX10_startAnew_12 (fun H locs hR => ?_)
  exact r_vretW B hR hr hlk h dX10_startAnew_15
def fX10_back (fu : Nat) (a0 : Nat) (x1 : Int32) (M : Mm) : Option (Int32 × Mm) :=
  bi (fX10_hasKept fu a0 x1 M) fun r_2 =>
  if r_2 = 0 then
    some ((-1), M)
  else
    if x1 < 0 ∨ 2 ≤ ix x1 then none else
    bm (fX8_copyFrom fu (a0 + 12) ((a0 + 176) + 1 + 9 * ix x1) M) fun M_20 =>
    bm (fX10_startAnew fu a0 M_20) fun M_24 =>
    some ((M_24.1 (a0 + 12) 3), M_24)
set_option maxRecDepth 100000 in
set_option maxHeartbeats 4000000 in
theorem mX10_back {l : Launch} {E : Ge} {L : Lay} (fu d : Nat) {a0 : Nat} {x1 : Int32} {M : Mm} {r : Int32} {M' : Mm}  (h0 : At L a0 T10) (h : fX10_back fu a0 x1 M = some (r, M')) : Ct l E L yX10_back cX10_back 2 (some .int) (d + 4) [.ref a0, .int x1] M (some (.int r)) M' := by
  refine Ct.of (by decide) ?_
  intro p e s m below meth c hr hlk B hR
  have B : Bx p s m _ c cX10_back 2 RX10 E L := B
  have hx := B.1
  have hb := B.2.1
  have hl := lv_entry ([.ref a0, .int x1]) (n := 2) (Nat.le_of_ble_eq_true rfl)
  rw [lg_entry_eq]
  generalize (lg_sl ([.ref a0, .int x1]) ++ List.replicate (2 - (lg_sl ([.ref a0, .int x1])).length) Slot.unset).toArray = ls at hl ⊢
  have hl : lv_has ls 2 [(0, .ref a0), (1, .int x1)] := hl
  unfold fX10_back at h
  refine lv_aload_n hx hb dX10_back_0 rfl (lv_at hl 0 rfl) ?_
  refine lv_iload_n hx hb dX10_back_1 rfl (lv_at hl 1 rfl) ?_
  obtain ⟨r_2, hc_2, h⟩ := bi_el h
  refine iv_X10_355 B hR (h0.at0 rfl) hl.1 (mX10_hasKept fu _ h0 hc_2) (Nat.le_of_ble_eq_true rfl) dX10_back_2 (fun H locs hR => ?_)
  refine lv_if_ne (tgt := 10) hx hb dX10_back_5 (by decide) (fun c_5 => ?_) (fun c_5 => ?_)
  · rw [if_neg c_5] at h
    refine lv_aload_n hx hb dX10_back_10 rfl (lv_at hl 0 rfl) ?_
    refine gf_X10_19 B hR (h0.at0 rfl) dX10_back_11 ?_
    refine lv_aload_n hx hb dX10_back_14 rfl (lv_at hl 0 rfl) ?_
    refine gf_X10_34 B hR (h0.at0 rfl) dX10_back_15 ?_
    refine lv_iload_n hx hb dX10_back_18 rfl (lv_at hl 1 rfl) ?_
    obtain ⟨hi_19, h⟩ := ifn_el h
    refine r_aald B hR (h0.at 176 rfl) hi_19 dX10_back_19 ?_
    obtain ⟨M_20, hc_20, h⟩ := bm_el h
    refine iv_X10_103 B hR ((sb_10_1 h0).at0 rfl) hl.1 (mX8_copyFrom fu _ (sb_10_1 h0) (rg_2 h0 hi_19) hc_20) (Nat.le_of_ble_eq_true rfl) dX10_back_20 (fun H locs hR => ?_)
    refine lv_aload_n hx hb dX10_back_23 rfl (lv_at hl 0 rfl) ?_
    obtain ⟨M_24, hc_24, h⟩ := bm_el h
    refine iv_X10_106 B hR (h0.at0 rfl) hl.1 (mX10_startAnew fu _ h0 hc_24) (Nat.le_of_ble_eq_true rfl) dX10_back_24 (fun H locs hR => ?_)
    refine lv_aload_n hx hb dX10_back_27 rfl (lv_at hl 0 rfl) ?_
    refine gf_X10_19 B hR (h0.at0 rfl) dX10_back_28 ?_
    refine gf_X10_109 B hR ((sb_10_1 h0).at0 rfl) dX10_back_31 ?_
    exact r_iretW B hR hr hlk h dX10_back_34
  · rw [if_pos c_5] at h
    refine lv_iconst (v := (-1)) hx hb dX10_back_8 (by decide) ?_
    exact r_iretW B hR hr hlk h dX10_back_9
def fX10_about (fu : Nat) (a0 : Nat) (x1 : Int32) (M : Mm) : Option (Int32 × Mm) :=
  if x1 = 0 then
    some ((M.1 (a0 + 12) 0), M)
  else
    if x1 = 1 then
      some ((M.1 (a0 + 12) 1), M)
    else
      if x1 = 2 then
        bi (fX8_countSet fu (a0 + 12) M) fun r_84 =>
        some (r_84, M)
      else
        if x1 = 3 then
          some ((M.1 (a0 + 12) 2), M)
        else
          if x1 = 4 then
            some ((M.1 (a0 + 12) 3), M)
          else
            if x1 = 5 then
              some ((M.1 (a0 + 12) 4), M)
            else
              if x1 = 6 then
                bm (fX10_piecesNow fu a0 M) fun M_113 =>
                some ((M_113.1 (a0 + 198) 7), M_113)
              else
                if x1 = 7 then
                  some ((M.1 (a0 + 21) 2), M)
                else
                  if x1 = 8 then
                    some ((M.1 (a0 + 21) 3), M)
                  else
                    if x1 = 9 then
                      some ((M.1 (a0 + 1) 1), M)
                    else
                      if x1 = 10 then
                        bi (fX8_pages fu (a0 + 12) M) fun r_148 =>
                        some (r_148, M)
                      else
                        if x1 = 11 then
                          bi (fX8_pages fu (a0 + 12) M) fun r_163 =>
                          bi (fX10_owned fu 64 ((a0 + 12) + 8) r_163 M) fun r_166 =>
                          some (r_166, M)
                        else
                          some ((-1), M)
set_option maxRecDepth 100000 in
set_option maxHeartbeats 4000000 in
theorem mX10_about {l : Launch} {E : Ge} {L : Lay} (fu d : Nat) {a0 : Nat} {x1 : Int32} {M : Mm} {r : Int32} {M' : Mm}  (h0 : At L a0 T10) (h : fX10_about fu a0 x1 M = some (r, M')) : Ct l E L yX10_about cX10_about 2 (some .int) (d + 5) [.ref a0, .int x1] M (some (.int r)) M' := by
  refine Ct.of (by decide) ?_
  intro p e s m below meth c hr hlk B hR
  have B : Bx p s m _ c cX10_about 2 RX10 E L := B
  have hx := B.1
  have hb := B.2.1
  have hl := lv_entry ([.ref a0, .int x1]) (n := 2) (Nat.le_of_ble_eq_true rfl)
  rw [lg_entry_eq]
  generalize (lg_sl ([.ref a0, .int x1]) ++ List.replicate (2 - (lg_sl ([.ref a0, .int x1])).length) Slot.unset).toArray = ls at hl ⊢
  have hl : lv_has ls 2 [(0, .ref a0), (1, .int x1)] := hl
  unfold fX10_about at h
  refine lv_iload_n hx hb dX10_about_0 rfl (lv_at hl 1 rfl) ?_
  by_cases s_1_0 : x1 = 0
  · rw [if_pos s_1_0] at h
    refine lv_tableIn (tgt := 64) hx hb dX10_about_1 (by rw [s_1_0]; decide) (by rw [s_1_0]; decide) (by rw [s_1_0]; rfl) (by decide) ?_
    refine lv_aload_n hx hb dX10_about_64 rfl (lv_at hl 0 rfl) ?_
    refine gf_X10_19 B hR (h0.at0 rfl) dX10_about_65 ?_
    refine gf_X10_118 B hR ((sb_10_1 h0).at0 rfl) dX10_about_68 ?_
    exact r_iretW B hR hr hlk h dX10_about_71
  · rw [if_neg s_1_0] at h
    by_cases s_1_1 : x1 = 1
    · rw [if_pos s_1_1] at h
      refine lv_tableIn (tgt := 72) hx hb dX10_about_1 (by rw [s_1_1]; decide) (by rw [s_1_1]; decide) (by rw [s_1_1]; rfl) (by decide) ?_
      refine lv_aload_n hx hb dX10_about_72 rfl (lv_at hl 0 rfl) ?_
      refine gf_X10_19 B hR (h0.at0 rfl) dX10_about_73 ?_
      refine gf_X10_172 B hR ((sb_10_1 h0).at0 rfl) dX10_about_76 ?_
      exact r_iretW B hR hr hlk h dX10_about_79
    · rw [if_neg s_1_1] at h
      by_cases s_1_2 : x1 = 2
      · rw [if_pos s_1_2] at h
        refine lv_tableIn (tgt := 80) hx hb dX10_about_1 (by rw [s_1_2]; decide) (by rw [s_1_2]; decide) (by rw [s_1_2]; rfl) (by decide) ?_
        refine lv_aload_n hx hb dX10_about_80 rfl (lv_at hl 0 rfl) ?_
        refine gf_X10_19 B hR (h0.at0 rfl) dX10_about_81 ?_
        obtain ⟨r_84, hc_84, h⟩ := bi_el h
        refine iv_X10_365 B hR ((sb_10_1 h0).at0 rfl) hl.1 (mX8_countSet fu _ (sb_10_1 h0) hc_84) (Nat.le_of_ble_eq_true rfl) dX10_about_84 (fun H locs hR => ?_)
        exact r_iretW B hR hr hlk h dX10_about_87
      · rw [if_neg s_1_2] at h
        by_cases s_1_3 : x1 = 3
        · rw [if_pos s_1_3] at h
          refine lv_tableIn (tgt := 88) hx hb dX10_about_1 (by rw [s_1_3]; decide) (by rw [s_1_3]; decide) (by rw [s_1_3]; rfl) (by decide) ?_
          refine lv_aload_n hx hb dX10_about_88 rfl (lv_at hl 0 rfl) ?_
          refine gf_X10_19 B hR (h0.at0 rfl) dX10_about_89 ?_
          refine gf_X10_135 B hR ((sb_10_1 h0).at0 rfl) dX10_about_92 ?_
          exact r_iretW B hR hr hlk h dX10_about_95
        · rw [if_neg s_1_3] at h
          by_cases s_1_4 : x1 = 4
          · rw [if_pos s_1_4] at h
            refine lv_tableIn (tgt := 96) hx hb dX10_about_1 (by rw [s_1_4]; decide) (by rw [s_1_4]; decide) (by rw [s_1_4]; rfl) (by decide) ?_
            refine lv_aload_n hx hb dX10_about_96 rfl (lv_at hl 0 rfl) ?_
            refine gf_X10_19 B hR (h0.at0 rfl) dX10_about_97 ?_
            refine gf_X10_109 B hR ((sb_10_1 h0).at0 rfl) dX10_about_100 ?_
            exact r_iretW B hR hr hlk h dX10_about_103
          · rw [if_neg s_1_4] at h
            by_cases s_1_5 : x1 = 5
            · rw [if_pos s_1_5] at h
              refine lv_tableIn (tgt := 104) hx hb dX10_about_1 (by rw [s_1_5]; decide) (by rw [s_1_5]; decide) (by rw [s_1_5]; rfl) (by decide) ?_
              refine lv_aload_n hx hb dX10_about_104 rfl (lv_at hl 0 rfl) ?_
              refine gf_X10_19 B hR (h0.at0 rfl) dX10_about_105 ?_
              refine gf_X10_273 B hR ((sb_10_1 h0).at0 rfl) dX10_about_108 ?_
              exact r_iretW B hR hr hlk h dX10_about_111
            · rw [if_neg s_1_5] at h
              by_cases s_1_6 : x1 = 6
              · rw [if_pos s_1_6] at h
                refine lv_tableIn (tgt := 112) hx hb dX10_about_1 (by rw [s_1_6]; decide) (by rw [s_1_6]; decide) (by rw [s_1_6]; rfl) (by decide) ?_
                refine lv_aload_n hx hb dX10_about_112 rfl (lv_at hl 0 rfl) ?_
                obtain ⟨M_113, hc_113, h⟩ := bm_el h
                refine iv_X10_185 B hR (h0.at0 rfl) hl.1 (mX10_piecesNow fu _ h0 hc_113) (Nat.le_of_ble_eq_true rfl) dX10_about_113 (fun H locs hR => ?_)
                refine gf_X10_200 B hR ((sb_10_6 h0).at0 rfl) dX10_about_116 ?_
                exact r_iretW B hR hr hlk h dX10_about_119
              · rw [if_neg s_1_6] at h
                by_cases s_1_7 : x1 = 7
                · rw [if_pos s_1_7] at h
                  refine lv_tableIn (tgt := 120) hx hb dX10_about_1 (by rw [s_1_7]; decide) (by rw [s_1_7]; decide) (by rw [s_1_7]; rfl) (by decide) ?_
                  refine lv_aload_n hx hb dX10_about_120 rfl (lv_at hl 0 rfl) ?_
                  refine gf_X10_26 B hR (h0.at0 rfl) dX10_about_121 ?_
                  refine gf_X10_368 B hR ((sb_10_2 h0).at0 rfl) dX10_about_124 ?_
                  exact r_iretW B hR hr hlk h dX10_about_127
                · rw [if_neg s_1_7] at h
                  by_cases s_1_8 : x1 = 8
                  · rw [if_pos s_1_8] at h
                    refine lv_tableIn (tgt := 128) hx hb dX10_about_1 (by rw [s_1_8]; decide) (by rw [s_1_8]; decide) (by rw [s_1_8]; rfl) (by decide) ?_
                    refine lv_aload_n hx hb dX10_about_128 rfl (lv_at hl 0 rfl) ?_
                    refine gf_X10_26 B hR (h0.at0 rfl) dX10_about_129 ?_
                    refine gf_X10_371 B hR ((sb_10_2 h0).at0 rfl) dX10_about_132 ?_
                    exact r_iretW B hR hr hlk h dX10_about_135
                  · rw [if_neg s_1_8] at h
                    by_cases s_1_9 : x1 = 9
                    · rw [if_pos s_1_9] at h
                      refine lv_tableIn (tgt := 136) hx hb dX10_about_1 (by rw [s_1_9]; decide) (by rw [s_1_9]; decide) (by rw [s_1_9]; rfl) (by decide) ?_
                      refine lv_aload_n hx hb dX10_about_136 rfl (lv_at hl 0 rfl) ?_
                      refine gf_X10_10 B hR (h0.at0 rfl) dX10_about_137 ?_
                      refine gf_X10_89 B hR ((sb_10_0 h0).at0 rfl) dX10_about_140 ?_
                      exact r_iretW B hR hr hlk h dX10_about_143
                    · rw [if_neg s_1_9] at h
                      by_cases s_1_10 : x1 = 10
                      · rw [if_pos s_1_10] at h
                        refine lv_tableIn (tgt := 144) hx hb dX10_about_1 (by rw [s_1_10]; decide) (by rw [s_1_10]; decide) (by rw [s_1_10]; rfl) (by decide) ?_
                        refine lv_aload_n hx hb dX10_about_144 rfl (lv_at hl 0 rfl) ?_
                        refine gf_X10_19 B hR (h0.at0 rfl) dX10_about_145 ?_
                        obtain ⟨r_148, hc_148, h⟩ := bi_el h
                        refine iv_X10_189 B hR ((sb_10_1 h0).at0 rfl) hl.1 (mX8_pages fu _ (sb_10_1 h0) hc_148) (Nat.le_of_ble_eq_true rfl) dX10_about_148 (fun H locs hR => ?_)
                        exact r_iretW B hR hr hlk h dX10_about_151
                      · rw [if_neg s_1_10] at h
                        by_cases s_1_11 : x1 = 11
                        · rw [if_pos s_1_11] at h
                          refine lv_tableIn (tgt := 152) hx hb dX10_about_1 (by rw [s_1_11]; decide) (by rw [s_1_11]; decide) (by rw [s_1_11]; rfl) (by decide) ?_
                          refine lv_aload_n hx hb dX10_about_152 rfl (lv_at hl 0 rfl) ?_
                          refine gf_X10_19 B hR (h0.at0 rfl) dX10_about_153 ?_
                          refine gf_X10_182 B hR ((sb_10_1 h0).at0 rfl) dX10_about_156 ?_
                          refine lv_aload_n hx hb dX10_about_159 rfl (lv_at hl 0 rfl) ?_
                          refine gf_X10_19 B hR (h0.at0 rfl) dX10_about_160 ?_
                          obtain ⟨r_163, hc_163, h⟩ := bi_el h
                          refine iv_X10_189 B hR ((sb_10_1 h0).at0 rfl) hl.1 (mX8_pages fu _ (sb_10_1 h0) hc_163) (Nat.le_of_ble_eq_true rfl) dX10_about_163 (fun H locs hR => ?_)
                          obtain ⟨r_166, hc_166, h⟩ := bi_el h
                          refine is_X10_266 B hR hl.1 (mX10_owned fu _ ((sb_10_1 h0).at 8 rfl) hc_166) (Nat.le_of_ble_eq_true rfl) dX10_about_166 (fun H locs hR => ?_)
                          exact r_iretW B hR hr hlk h dX10_about_169
                        · rw [if_neg s_1_11] at h
                          refine lv_tableOut (tgt := 170) hx hb dX10_about_1 (by have := ne_toInt s_1_0 (a := 0) (by decide); have := ne_toInt s_1_1 (a := 1) (by decide); have := ne_toInt s_1_2 (a := 2) (by decide); have := ne_toInt s_1_3 (a := 3) (by decide); have := ne_toInt s_1_4 (a := 4) (by decide); have := ne_toInt s_1_5 (a := 5) (by decide); have := ne_toInt s_1_6 (a := 6) (by decide); have := ne_toInt s_1_7 (a := 7) (by decide); have := ne_toInt s_1_8 (a := 8) (by decide); have := ne_toInt s_1_9 (a := 9) (by decide); have := ne_toInt s_1_10 (a := 10) (by decide); have := ne_toInt s_1_11 (a := 11) (by decide); omega) (by decide) ?_
                          refine lv_iconst (v := (-1)) hx hb dX10_about_170 (by decide) ?_
                          exact r_iretW B hR hr hlk h dX10_about_171
end G30_sk_lean_txt
