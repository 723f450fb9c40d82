theorem d0_init_0 : decode prog_2_method_1_code 0 = .ok (.aload_n 0, 1) := by decide +kernel
theorem d0_init_1 : decode prog_2_method_1_code 1 = .ok (.invokespecial 3, 3) := by decide +kernel
theorem d0_init_4 : decode prog_2_method_1_code 4 = .ok (.aload_n 0, 1) := by decide +kernel
theorem d0_init_5 : decode prog_2_method_1_code 5 = .ok (.iconst (-1), 1) := by decide +kernel
theorem d0_init_6 : decode prog_2_method_1_code 6 = .ok (.putfield 9, 3) := by decide +kernel
theorem d0_init_9 : decode prog_2_method_1_code 9 = .ok (.return_, 1) := by decide +kernel
theorem dJ9_min_7cf53_0 : decode prog_20_method_69_code 0 = .ok (.iload_n 0, 1) := by decide +kernel
theorem dJ9_min_7cf53_1 : decode prog_20_method_69_code 1 = .ok (.iload_n 1, 1) := by decide +kernel
theorem dJ9_min_7cf53_2 : decode prog_20_method_69_code 2 = .ok (.if_icmp .gt 7, 3) := by decide +kernel
theorem dJ9_min_7cf53_5 : decode prog_20_method_69_code 5 = .ok (.iload_n 0, 1) := by decide +kernel
theorem dJ9_min_7cf53_6 : decode prog_20_method_69_code 6 = .ok (.goto 4, 3) := by decide +kernel
theorem dJ9_min_7cf53_9 : decode prog_20_method_69_code 9 = .ok (.iload_n 1, 1) := by decide +kernel
theorem dJ9_min_7cf53_10 : decode prog_20_method_69_code 10 = .ok (.ireturn, 1) := by decide +kernel
theorem d0_worn_0 : decode prog_2_method_2_code 0 = .ok (.bipush 100, 2) := by decide +kernel
theorem d0_worn_2 : decode prog_2_method_2_code 2 = .ok (.aload_n 0, 1) := by decide +kernel
theorem d0_worn_3 : decode prog_2_method_2_code 3 = .ok (.getfield 15, 3) := by decide +kernel
theorem d0_worn_6 : decode prog_2_method_2_code 6 = .ok (.iconst 5, 1) := by decide +kernel
theorem d0_worn_7 : decode prog_2_method_2_code 7 = .ok (.idiv, 1) := by decide +kernel
theorem d0_worn_8 : decode prog_2_method_2_code 8 = .ok (.invokestatic 18, 3) := by decide +kernel
theorem d0_worn_11 : decode prog_2_method_2_code 11 = .ok (.ireturn, 1) := by decide +kernel
theorem d0_dressOn_0 : decode prog_2_method_3_code 0 = .ok (.aload_n 0, 1) := by decide +kernel
theorem d0_dressOn_1 : decode prog_2_method_3_code 1 = .ok (.getfield 9, 3) := by decide +kernel
theorem d0_dressOn_4 : decode prog_2_method_3_code 4 = .ok (.iload_n 1, 1) := by decide +kernel
theorem d0_dressOn_5 : decode prog_2_method_3_code 5 = .ok (.if_icmp .ne 5, 3) := by decide +kernel
theorem d0_dressOn_8 : decode prog_2_method_3_code 8 = .ok (.iconst 0, 1) := by decide +kernel
theorem d0_dressOn_9 : decode prog_2_method_3_code 9 = .ok (.ireturn, 1) := by decide +kernel
theorem d0_dressOn_10 : decode prog_2_method_3_code 10 = .ok (.aload_n 0, 1) := by decide +kernel
theorem d0_dressOn_11 : decode prog_2_method_3_code 11 = .ok (.iload_n 1, 1) := by decide +kernel
theorem d0_dressOn_12 : decode prog_2_method_3_code 12 = .ok (.putfield 9, 3) := by decide +kernel
theorem d0_dressOn_15 : decode prog_2_method_3_code 15 = .ok (.aload_n 0, 1) := by decide +kernel
theorem d0_dressOn_16 : decode prog_2_method_3_code 16 = .ok (.iconst 0, 1) := by decide +kernel
theorem d0_dressOn_17 : decode prog_2_method_3_code 17 = .ok (.putfield 15, 3) := by decide +kernel
theorem d0_dressOn_20 : decode prog_2_method_3_code 20 = .ok (.iconst 1, 1) := by decide +kernel
theorem d0_dressOn_21 : decode prog_2_method_3_code 21 = .ok (.ireturn, 1) := by decide +kernel
theorem d0_grindSacks_0 : decode prog_2_method_4_code 0 = .ok (.aload_n 0, 1) := by decide +kernel
theorem d0_grindSacks_1 : decode prog_2_method_4_code 1 = .ok (.dup, 1) := by decide +kernel
theorem d0_grindSacks_2 : decode prog_2_method_4_code 2 = .ok (.getfield 15, 3) := by decide +kernel
theorem d0_grindSacks_5 : decode prog_2_method_4_code 5 = .ok (.iload_n 1, 1) := by decide +kernel
theorem d0_grindSacks_6 : decode prog_2_method_4_code 6 = .ok (.iadd, 1) := by decide +kernel
theorem d0_grindSacks_7 : decode prog_2_method_4_code 7 = .ok (.putfield 15, 3) := by decide +kernel
theorem d0_grindSacks_10 : decode prog_2_method_4_code 10 = .ok (.aload_n 0, 1) := by decide +kernel
theorem d0_grindSacks_11 : decode prog_2_method_4_code 11 = .ok (.dup, 1) := by decide +kernel
theorem d0_grindSacks_12 : decode prog_2_method_4_code 12 = .ok (.getfield 24, 3) := by decide +kernel
theorem d0_grindSacks_15 : decode prog_2_method_4_code 15 = .ok (.iload_n 1, 1) := by decide +kernel
theorem d0_grindSacks_16 : decode prog_2_method_4_code 16 = .ok (.iadd, 1) := by decide +kernel
theorem d0_grindSacks_17 : decode prog_2_method_4_code 17 = .ok (.putfield 24, 3) := by decide +kernel
theorem d0_grindSacks_20 : decode prog_2_method_4_code 20 = .ok (.aload_n 0, 1) := by decide +kernel
theorem d0_grindSacks_21 : decode prog_2_method_4_code 21 = .ok (.dup, 1) := by decide +kernel
theorem d0_grindSacks_22 : decode prog_2_method_4_code 22 = .ok (.getfield 27, 3) := by decide +kernel
theorem d0_grindSacks_25 : decode prog_2_method_4_code 25 = .ok (.iload_n 2, 1) := by decide +kernel
theorem d0_grindSacks_26 : decode prog_2_method_4_code 26 = .ok (.iadd, 1) := by decide +kernel
theorem d0_grindSacks_27 : decode prog_2_method_4_code 27 = .ok (.putfield 27, 3) := by decide +kernel
theorem d0_grindSacks_30 : decode prog_2_method_4_code 30 = .ok (.return_, 1) := by decide +kernel
theorem dJ9_max_7cf53_0 : decode prog_20_method_65_code 0 = .ok (.iload_n 0, 1) := by decide +kernel
theorem dJ9_max_7cf53_1 : decode prog_20_method_65_code 1 = .ok (.iload_n 1, 1) := by decide +kernel
theorem dJ9_max_7cf53_2 : decode prog_20_method_65_code 2 = .ok (.if_icmp .lt 7, 3) := by decide +kernel
theorem dJ9_max_7cf53_5 : decode prog_20_method_65_code 5 = .ok (.iload_n 0, 1) := by decide +kernel
theorem dJ9_max_7cf53_6 : decode prog_20_method_65_code 6 = .ok (.goto 4, 3) := by decide +kernel
theorem dJ9_max_7cf53_9 : decode prog_20_method_65_code 9 = .ok (.iload_n 1, 1) := by decide +kernel
theorem dJ9_max_7cf53_10 : decode prog_20_method_65_code 10 = .ok (.ireturn, 1) := by decide +kernel
theorem d1_init_0 : decode prog_3_method_1_code 0 = .ok (.aload_n 0, 1) := by decide +kernel
theorem d1_init_1 : decode prog_3_method_1_code 1 = .ok (.invokespecial 3, 3) := by decide +kernel
theorem d1_init_4 : decode prog_3_method_1_code 4 = .ok (.iconst 0, 1) := by decide +kernel
theorem d1_init_5 : decode prog_3_method_1_code 5 = .ok (.iload_n 1, 1) := by decide +kernel
theorem d1_init_6 : decode prog_3_method_1_code 6 = .ok (.invokestatic 9, 3) := by decide +kernel
theorem d1_init_9 : decode prog_3_method_1_code 9 = .ok (.istore_n 2, 1) := by decide +kernel
theorem d1_init_10 : decode prog_3_method_1_code 10 = .ok (.aload_n 0, 1) := by decide +kernel
theorem d1_init_11 : decode prog_3_method_1_code 11 = .ok (.iload_n 2, 1) := by decide +kernel
theorem d1_init_12 : decode prog_3_method_1_code 12 = .ok (.newarray .int, 2) := by decide +kernel
theorem d1_init_14 : decode prog_3_method_1_code 14 = .ok (.putfield 15, 3) := by decide +kernel
theorem d1_init_17 : decode prog_3_method_1_code 17 = .ok (.aload_n 0, 1) := by decide +kernel
theorem d1_init_18 : decode prog_3_method_1_code 18 = .ok (.iload_n 2, 1) := by decide +kernel
theorem d1_init_19 : decode prog_3_method_1_code 19 = .ok (.newarray .int, 2) := by decide +kernel
theorem d1_init_21 : decode prog_3_method_1_code 21 = .ok (.putfield 21, 3) := by decide +kernel
theorem d1_init_24 : decode prog_3_method_1_code 24 = .ok (.aload_n 0, 1) := by decide +kernel
theorem d1_init_25 : decode prog_3_method_1_code 25 = .ok (.iload_n 2, 1) := by decide +kernel
theorem d1_init_26 : decode prog_3_method_1_code 26 = .ok (.newarray .int, 2) := by decide +kernel
theorem d1_init_28 : decode prog_3_method_1_code 28 = .ok (.putfield 24, 3) := by decide +kernel
theorem d1_init_31 : decode prog_3_method_1_code 31 = .ok (.return_, 1) := by decide +kernel
theorem d1_tell_0 : decode prog_3_method_2_code 0 = .ok (.aload_n 0, 1) := by decide +kernel
theorem d1_tell_1 : decode prog_3_method_2_code 1 = .ok (.getfield 27, 3) := by decide +kernel
theorem d1_tell_4 : decode prog_3_method_2_code 4 = .ok (.aload_n 0, 1) := by decide +kernel
theorem d1_tell_5 : decode prog_3_method_2_code 5 = .ok (.getfield 15, 3) := by decide +kernel
theorem d1_tell_8 : decode prog_3_method_2_code 8 = .ok (.arraylength, 1) := by decide +kernel
theorem d1_tell_9 : decode prog_3_method_2_code 9 = .ok (.if_icmp .lt 5, 3) := by decide +kernel
theorem d1_tell_12 : decode prog_3_method_2_code 12 = .ok (.iconst 0, 1) := by decide +kernel
theorem d1_tell_13 : decode prog_3_method_2_code 13 = .ok (.ireturn, 1) := by decide +kernel
theorem d1_tell_14 : decode prog_3_method_2_code 14 = .ok (.aload_n 0, 1) := by decide +kernel
theorem d1_tell_15 : decode prog_3_method_2_code 15 = .ok (.getfield 15, 3) := by decide +kernel
theorem d1_tell_18 : decode prog_3_method_2_code 18 = .ok (.aload_n 0, 1) := by decide +kernel
theorem d1_tell_19 : decode prog_3_method_2_code 19 = .ok (.getfield 27, 3) := by decide +kernel
theorem d1_tell_22 : decode prog_3_method_2_code 22 = .ok (.iload_n 1, 1) := by decide +kernel
theorem d1_tell_23 : decode prog_3_method_2_code 23 = .ok (.iastore, 1) := by decide +kernel
theorem d1_tell_24 : decode prog_3_method_2_code 24 = .ok (.aload_n 0, 1) := by decide +kernel
theorem d1_tell_25 : decode prog_3_method_2_code 25 = .ok (.getfield 21, 3) := by decide +kernel
theorem d1_tell_28 : decode prog_3_method_2_code 28 = .ok (.aload_n 0, 1) := by decide +kernel
theorem d1_tell_29 : decode prog_3_method_2_code 29 = .ok (.getfield 27, 3) := by decide +kernel
theorem d1_tell_32 : decode prog_3_method_2_code 32 = .ok (.iload_n 3, 1) := by decide +kernel
theorem d1_tell_33 : decode prog_3_method_2_code 33 = .ok (.iastore, 1) := by decide +kernel
theorem d1_tell_34 : decode prog_3_method_2_code 34 = .ok (.aload_n 0, 1) := by decide +kernel
theorem d1_tell_35 : decode prog_3_method_2_code 35 = .ok (.getfield 24, 3) := by decide +kernel
theorem d1_tell_38 : decode prog_3_method_2_code 38 = .ok (.aload_n 0, 1) := by decide +kernel
theorem d1_tell_39 : decode prog_3_method_2_code 39 = .ok (.getfield 27, 3) := by decide +kernel
theorem d1_tell_42 : decode prog_3_method_2_code 42 = .ok (.iload_n 2, 1) := by decide +kernel
theorem d1_tell_43 : decode prog_3_method_2_code 43 = .ok (.iastore, 1) := by decide +kernel
theorem d1_tell_44 : decode prog_3_method_2_code 44 = .ok (.aload_n 0, 1) := by decide +kernel
theorem d1_tell_45 : decode prog_3_method_2_code 45 = .ok (.dup, 1) := by decide +kernel
theorem d1_tell_46 : decode prog_3_method_2_code 46 = .ok (.getfield 27, 3) := by decide +kernel
theorem d1_tell_49 : decode prog_3_method_2_code 49 = .ok (.iconst 1, 1) := by decide +kernel
theorem d1_tell_50 : decode prog_3_method_2_code 50 = .ok (.iadd, 1) := by decide +kernel
theorem d1_tell_51 : decode prog_3_method_2_code 51 = .ok (.putfield 27, 3) := by decide +kernel
theorem d1_tell_54 : decode prog_3_method_2_code 54 = .ok (.iconst 1, 1) := by decide +kernel
theorem d1_tell_55 : decode prog_3_method_2_code 55 = .ok (.ireturn, 1) := by decide +kernel
theorem d1_latest_0 : decode prog_3_method_3_code 0 = .ok (.iconst (-1), 1) := by decide +kernel
theorem d1_latest_1 : decode prog_3_method_3_code 1 = .ok (.istore_n 3, 1) := by decide +kernel
theorem d1_latest_2 : decode prog_3_method_3_code 2 = .ok (.iconst 0, 1) := by decide +kernel
theorem d1_latest_3 : decode prog_3_method_3_code 3 = .ok (.istore 4, 2) := by decide +kernel
theorem d1_latest_5 : decode prog_3_method_3_code 5 = .ok (.iload 4, 2) := by decide +kernel
theorem d1_latest_7 : decode prog_3_method_3_code 7 = .ok (.aload_n 0, 1) := by decide +kernel
theorem d1_latest_8 : decode prog_3_method_3_code 8 = .ok (.getfield 27, 3) := by decide +kernel
theorem d1_latest_11 : decode prog_3_method_3_code 11 = .ok (.if_icmp .ge 54, 3) := by decide +kernel
theorem d1_latest_14 : decode prog_3_method_3_code 14 = .ok (.aload_n 0, 1) := by decide +kernel
theorem d1_latest_15 : decode prog_3_method_3_code 15 = .ok (.getfield 21, 3) := by decide +kernel
theorem d1_latest_18 : decode prog_3_method_3_code 18 = .ok (.iload 4, 2) := by decide +kernel
theorem d1_latest_20 : decode prog_3_method_3_code 20 = .ok (.iaload, 1) := by decide +kernel
theorem d1_latest_21 : decode prog_3_method_3_code 21 = .ok (.iload_n 2, 1) := by decide +kernel
theorem d1_latest_22 : decode prog_3_method_3_code 22 = .ok (.if_icmp .gt 37, 3) := by decide +kernel
theorem d1_latest_25 : decode prog_3_method_3_code 25 = .ok (.aload_n 0, 1) := by decide +kernel
theorem d1_latest_26 : decode prog_3_method_3_code 26 = .ok (.getfield 15, 3) := by decide +kernel
theorem d1_latest_29 : decode prog_3_method_3_code 29 = .ok (.iload 4, 2) := by decide +kernel
theorem d1_latest_31 : decode prog_3_method_3_code 31 = .ok (.iaload, 1) := by decide +kernel
theorem d1_latest_32 : decode prog_3_method_3_code 32 = .ok (.iload_n 1, 1) := by decide +kernel
theorem d1_latest_33 : decode prog_3_method_3_code 33 = .ok (.if_icmp .gt 26, 3) := by decide +kernel
theorem d1_latest_36 : decode prog_3_method_3_code 36 = .ok (.iload_n 3, 1) := by decide +kernel
theorem d1_latest_37 : decode prog_3_method_3_code 37 = .ok (.ifCond .lt 19, 3) := by decide +kernel
theorem d1_latest_40 : decode prog_3_method_3_code 40 = .ok (.aload_n 0, 1) := by decide +kernel
theorem d1_latest_41 : decode prog_3_method_3_code 41 = .ok (.getfield 15, 3) := by decide +kernel
theorem d1_latest_44 : decode prog_3_method_3_code 44 = .ok (.iload 4, 2) := by decide +kernel
theorem d1_latest_46 : decode prog_3_method_3_code 46 = .ok (.iaload, 1) := by decide +kernel
theorem d1_latest_47 : decode prog_3_method_3_code 47 = .ok (.aload_n 0, 1) := by decide +kernel
theorem d1_latest_48 : decode prog_3_method_3_code 48 = .ok (.getfield 15, 3) := by decide +kernel
theorem d1_latest_51 : decode prog_3_method_3_code 51 = .ok (.iload_n 3, 1) := by decide +kernel
theorem d1_latest_52 : decode prog_3_method_3_code 52 = .ok (.iaload, 1) := by decide +kernel
theorem d1_latest_53 : decode prog_3_method_3_code 53 = .ok (.if_icmp .lt 6, 3) := by decide +kernel
theorem d1_latest_56 : decode prog_3_method_3_code 56 = .ok (.iload 4, 2) := by decide +kernel
theorem d1_latest_58 : decode prog_3_method_3_code 58 = .ok (.istore_n 3, 1) := by decide +kernel
theorem d1_latest_59 : decode prog_3_method_3_code 59 = .ok (.iinc 4 1, 3) := by decide +kernel
theorem d1_latest_62 : decode prog_3_method_3_code 62 = .ok (.goto (-57), 3) := by decide +kernel
theorem d1_latest_65 : decode prog_3_method_3_code 65 = .ok (.iload_n 3, 1) := by decide +kernel
theorem d1_latest_66 : decode prog_3_method_3_code 66 = .ok (.ireturn, 1) := by decide +kernel
theorem d1_latestOr_0 : decode prog_3_method_4_code 0 = .ok (.aload_n 0, 1) := by decide +kernel
theorem d1_latestOr_1 : decode prog_3_method_4_code 1 = .ok (.iload_n 1, 1) := by decide +kernel
theorem d1_latestOr_2 : decode prog_3_method_4_code 2 = .ok (.iload_n 2, 1) := by decide +kernel
theorem d1_latestOr_3 : decode prog_3_method_4_code 3 = .ok (.invokevirtual 31, 3) := by decide +kernel
theorem d1_latestOr_6 : decode prog_3_method_4_code 6 = .ok (.istore 4, 2) := by decide +kernel
theorem d1_latestOr_8 : decode prog_3_method_4_code 8 = .ok (.iload 4, 2) := by decide +kernel
theorem d1_latestOr_10 : decode prog_3_method_4_code 10 = .ok (.ifCond .ge 7, 3) := by decide +kernel
theorem d1_latestOr_13 : decode prog_3_method_4_code 13 = .ok (.iload_n 3, 1) := by decide +kernel
theorem d1_latestOr_14 : decode prog_3_method_4_code 14 = .ok (.goto 10, 3) := by decide +kernel
theorem d1_latestOr_17 : decode prog_3_method_4_code 17 = .ok (.aload_n 0, 1) := by decide +kernel
theorem d1_latestOr_18 : decode prog_3_method_4_code 18 = .ok (.getfield 24, 3) := by decide +kernel
theorem d1_latestOr_21 : decode prog_3_method_4_code 21 = .ok (.iload 4, 2) := by decide +kernel
theorem d1_latestOr_23 : decode prog_3_method_4_code 23 = .ok (.iaload, 1) := by decide +kernel
theorem d1_latestOr_24 : decode prog_3_method_4_code 24 = .ok (.ireturn, 1) := by decide +kernel
theorem d1_exactOr_0 : decode prog_3_method_5_code 0 = .ok (.aload_n 0, 1) := by decide +kernel
theorem d1_exactOr_1 : decode prog_3_method_5_code 1 = .ok (.iload_n 1, 1) := by decide +kernel
theorem d1_exactOr_2 : decode prog_3_method_5_code 2 = .ok (.iload_n 2, 1) := by decide +kernel
theorem d1_exactOr_3 : decode prog_3_method_5_code 3 = .ok (.invokevirtual 31, 3) := by decide +kernel
theorem d1_exactOr_6 : decode prog_3_method_5_code 6 = .ok (.istore 4, 2) := by decide +kernel
theorem d1_exactOr_8 : decode prog_3_method_5_code 8 = .ok (.iload 4, 2) := by decide +kernel
theorem d1_exactOr_10 : decode prog_3_method_5_code 10 = .ok (.ifCond .lt 14, 3) := by decide +kernel
theorem d1_exactOr_13 : decode prog_3_method_5_code 13 = .ok (.aload_n 0, 1) := by decide +kernel
theorem d1_exactOr_14 : decode prog_3_method_5_code 14 = .ok (.getfield 15, 3) := by decide +kernel
theorem d1_exactOr_17 : decode prog_3_method_5_code 17 = .ok (.iload 4, 2) := by decide +kernel
theorem d1_exactOr_19 : decode prog_3_method_5_code 19 = .ok (.iaload, 1) := by decide +kernel
theorem d1_exactOr_20 : decode prog_3_method_5_code 20 = .ok (.iload_n 1, 1) := by decide +kernel
theorem d1_exactOr_21 : decode prog_3_method_5_code 21 = .ok (.if_icmp .eq 7, 3) := by decide +kernel
theorem d1_exactOr_24 : decode prog_3_method_5_code 24 = .ok (.iload_n 3, 1) := by decide +kernel
theorem d1_exactOr_25 : decode prog_3_method_5_code 25 = .ok (.goto 10, 3) := by decide +kernel
theorem d1_exactOr_28 : decode prog_3_method_5_code 28 = .ok (.aload_n 0, 1) := by decide +kernel
theorem d1_exactOr_29 : decode prog_3_method_5_code 29 = .ok (.getfield 24, 3) := by decide +kernel
theorem d1_exactOr_32 : decode prog_3_method_5_code 32 = .ok (.iload 4, 2) := by decide +kernel
theorem d1_exactOr_34 : decode prog_3_method_5_code 34 = .ok (.iaload, 1) := by decide +kernel
theorem d1_exactOr_35 : decode prog_3_method_5_code 35 = .ok (.ireturn, 1) := by decide +kernel
theorem d2_init_0 : decode prog_4_method_1_code 0 = .ok (.aload_n 0, 1) := by decide +kernel
theorem d2_init_1 : decode prog_4_method_1_code 1 = .ok (.invokespecial 3, 3) := by decide +kernel
theorem d2_init_4 : decode prog_4_method_1_code 4 = .ok (.aload_n 0, 1) := by decide +kernel
theorem d2_init_5 : decode prog_4_method_1_code 5 = .ok (.sipush 1500, 3) := by decide +kernel
theorem d2_init_8 : decode prog_4_method_1_code 8 = .ok (.newarray .int, 2) := by decide +kernel
theorem d2_init_10 : decode prog_4_method_1_code 10 = .ok (.putfield 11, 3) := by decide +kernel
theorem d2_init_13 : decode prog_4_method_1_code 13 = .ok (.aload_n 0, 1) := by decide +kernel
theorem d2_init_14 : decode prog_4_method_1_code 14 = .ok (.aload_n 1, 1) := by decide +kernel
theorem d2_init_15 : decode prog_4_method_1_code 15 = .ok (.putfield 15, 3) := by decide +kernel
theorem d2_init_18 : decode prog_4_method_1_code 18 = .ok (.return_, 1) := by decide +kernel
theorem d2_told_0 : decode prog_4_method_2_code 0 = .ok (.iload_n 1, 1) := by decide +kernel
theorem d2_told_1 : decode prog_4_method_2_code 1 = .ok (.ifCond .lt 20, 3) := by decide +kernel
theorem d2_told_4 : decode prog_4_method_2_code 4 = .ok (.iload_n 1, 1) := by decide +kernel
theorem d2_told_5 : decode prog_4_method_2_code 5 = .ok (.aload_n 0, 1) := by decide +kernel
theorem d2_told_6 : decode prog_4_method_2_code 6 = .ok (.getfield 19, 3) := by decide +kernel
theorem d2_told_9 : decode prog_4_method_2_code 9 = .ok (.if_icmp .ge 12, 3) := by decide +kernel
theorem d2_told_12 : decode prog_4_method_2_code 12 = .ok (.iload_n 2, 1) := by decide +kernel
theorem d2_told_13 : decode prog_4_method_2_code 13 = .ok (.ifCond .lt 8, 3) := by decide +kernel
theorem d2_told_16 : decode prog_4_method_2_code 16 = .ok (.iload_n 2, 1) := by decide +kernel
theorem d2_told_17 : decode prog_4_method_2_code 17 = .ok (.iconst 5, 1) := by decide +kernel
theorem d2_told_18 : decode prog_4_method_2_code 18 = .ok (.if_icmp .lt 5, 3) := by decide +kernel
theorem d2_told_21 : decode prog_4_method_2_code 21 = .ok (.iconst (-1), 1) := by decide +kernel
theorem d2_told_22 : decode prog_4_method_2_code 22 = .ok (.ireturn, 1) := by decide +kernel
theorem d2_told_23 : decode prog_4_method_2_code 23 = .ok (.aload_n 0, 1) := by decide +kernel
theorem d2_told_24 : decode prog_4_method_2_code 24 = .ok (.getfield 11, 3) := by decide +kernel
theorem d2_told_27 : decode prog_4_method_2_code 27 = .ok (.iload_n 1, 1) := by decide +kernel
theorem d2_told_28 : decode prog_4_method_2_code 28 = .ok (.iconst 5, 1) := by decide +kernel
theorem d2_told_29 : decode prog_4_method_2_code 29 = .ok (.imul, 1) := by decide +kernel
theorem d2_told_30 : decode prog_4_method_2_code 30 = .ok (.iload_n 2, 1) := by decide +kernel
theorem d2_told_31 : decode prog_4_method_2_code 31 = .ok (.iadd, 1) := by decide +kernel
theorem d2_told_32 : decode prog_4_method_2_code 32 = .ok (.iaload, 1) := by decide +kernel
theorem d2_told_33 : decode prog_4_method_2_code 33 = .ok (.ireturn, 1) := by decide +kernel
theorem d2_tell_0 : decode prog_4_method_3_code 0 = .ok (.aload_n 0, 1) := by decide +kernel
theorem d2_tell_1 : decode prog_4_method_3_code 1 = .ok (.getfield 19, 3) := by decide +kernel
theorem d2_tell_4 : decode prog_4_method_3_code 4 = .ok (.sipush 300, 3) := by decide +kernel
theorem d2_tell_7 : decode prog_4_method_3_code 7 = .ok (.if_icmp .ge 73, 3) := by decide +kernel
theorem d2_tell_10 : decode prog_4_method_3_code 10 = .ok (.aload_n 0, 1) := by decide +kernel
theorem d2_tell_11 : decode prog_4_method_3_code 11 = .ok (.getfield 19, 3) := by decide +kernel
theorem d2_tell_14 : decode prog_4_method_3_code 14 = .ok (.iconst 5, 1) := by decide +kernel
theorem d2_tell_15 : decode prog_4_method_3_code 15 = .ok (.imul, 1) := by decide +kernel
theorem d2_tell_16 : decode prog_4_method_3_code 16 = .ok (.istore 5, 2) := by decide +kernel
theorem d2_tell_18 : decode prog_4_method_3_code 18 = .ok (.aload_n 0, 1) := by decide +kernel
theorem d2_tell_19 : decode prog_4_method_3_code 19 = .ok (.getfield 11, 3) := by decide +kernel
theorem d2_tell_22 : decode prog_4_method_3_code 22 = .ok (.iload 5, 2) := by decide +kernel
theorem d2_tell_24 : decode prog_4_method_3_code 24 = .ok (.aload_n 0, 1) := by decide +kernel
theorem d2_tell_25 : decode prog_4_method_3_code 25 = .ok (.getfield 23, 3) := by decide +kernel
theorem d2_tell_28 : decode prog_4_method_3_code 28 = .ok (.iastore, 1) := by decide +kernel
theorem d2_tell_29 : decode prog_4_method_3_code 29 = .ok (.aload_n 0, 1) := by decide +kernel
theorem d2_tell_30 : decode prog_4_method_3_code 30 = .ok (.getfield 11, 3) := by decide +kernel
theorem d2_tell_33 : decode prog_4_method_3_code 33 = .ok (.iload 5, 2) := by decide +kernel
theorem d2_tell_35 : decode prog_4_method_3_code 35 = .ok (.iconst 1, 1) := by decide +kernel
theorem d2_tell_36 : decode prog_4_method_3_code 36 = .ok (.iadd, 1) := by decide +kernel
theorem d2_tell_37 : decode prog_4_method_3_code 37 = .ok (.iload_n 1, 1) := by decide +kernel
theorem d2_tell_38 : decode prog_4_method_3_code 38 = .ok (.iastore, 1) := by decide +kernel
theorem d2_tell_39 : decode prog_4_method_3_code 39 = .ok (.aload_n 0, 1) := by decide +kernel
theorem d2_tell_40 : decode prog_4_method_3_code 40 = .ok (.getfield 11, 3) := by decide +kernel
theorem d2_tell_43 : decode prog_4_method_3_code 43 = .ok (.iload 5, 2) := by decide +kernel
theorem d2_tell_45 : decode prog_4_method_3_code 45 = .ok (.iconst 2, 1) := by decide +kernel
theorem d2_tell_46 : decode prog_4_method_3_code 46 = .ok (.iadd, 1) := by decide +kernel
theorem d2_tell_47 : decode prog_4_method_3_code 47 = .ok (.iload_n 2, 1) := by decide +kernel
theorem d2_tell_48 : decode prog_4_method_3_code 48 = .ok (.iastore, 1) := by decide +kernel
theorem d2_tell_49 : decode prog_4_method_3_code 49 = .ok (.aload_n 0, 1) := by decide +kernel
theorem d2_tell_50 : decode prog_4_method_3_code 50 = .ok (.getfield 11, 3) := by decide +kernel
theorem d2_tell_53 : decode prog_4_method_3_code 53 = .ok (.iload 5, 2) := by decide +kernel
theorem d2_tell_55 : decode prog_4_method_3_code 55 = .ok (.iconst 3, 1) := by decide +kernel
theorem d2_tell_56 : decode prog_4_method_3_code 56 = .ok (.iadd, 1) := by decide +kernel
theorem d2_tell_57 : decode prog_4_method_3_code 57 = .ok (.iload_n 3, 1) := by decide +kernel
theorem d2_tell_58 : decode prog_4_method_3_code 58 = .ok (.iastore, 1) := by decide +kernel
theorem d2_tell_59 : decode prog_4_method_3_code 59 = .ok (.aload_n 0, 1) := by decide +kernel
theorem d2_tell_60 : decode prog_4_method_3_code 60 = .ok (.getfield 11, 3) := by decide +kernel
theorem d2_tell_63 : decode prog_4_method_3_code 63 = .ok (.iload 5, 2) := by decide +kernel
theorem d2_tell_65 : decode prog_4_method_3_code 65 = .ok (.iconst 4, 1) := by decide +kernel
theorem d2_tell_66 : decode prog_4_method_3_code 66 = .ok (.iadd, 1) := by decide +kernel
theorem d2_tell_67 : decode prog_4_method_3_code 67 = .ok (.iload 4, 2) := by decide +kernel
theorem d2_tell_69 : decode prog_4_method_3_code 69 = .ok (.iastore, 1) := by decide +kernel
theorem d2_tell_70 : decode prog_4_method_3_code 70 = .ok (.aload_n 0, 1) := by decide +kernel
theorem d2_tell_71 : decode prog_4_method_3_code 71 = .ok (.dup, 1) := by decide +kernel
theorem d2_tell_72 : decode prog_4_method_3_code 72 = .ok (.getfield 19, 3) := by decide +kernel
theorem d2_tell_75 : decode prog_4_method_3_code 75 = .ok (.iconst 1, 1) := by decide +kernel
theorem d2_tell_76 : decode prog_4_method_3_code 76 = .ok (.iadd, 1) := by decide +kernel
theorem d2_tell_77 : decode prog_4_method_3_code 77 = .ok (.putfield 19, 3) := by decide +kernel
theorem d2_tell_80 : decode prog_4_method_3_code 80 = .ok (.return_, 1) := by decide +kernel
theorem d11_stretchOf_0 : decode prog_1_method_45_code 0 = .ok (.iload_n 0, 1) := by decide +kernel
theorem d11_stretchOf_1 : decode prog_1_method_45_code 1 = .ok (.bipush 12, 2) := by decide +kernel
theorem d11_stretchOf_3 : decode prog_1_method_45_code 3 = .ok (.irem, 1) := by decide +kernel
theorem d11_stretchOf_4 : decode prog_1_method_45_code 4 = .ok (.ireturn, 1) := by decide +kernel
theorem d11_isBerth_0 : decode prog_1_method_43_code 0 = .ok (.iload_n 0, 1) := by decide +kernel
theorem d11_isBerth_1 : decode prog_1_method_43_code 1 = .ok (.ifCond .lt 13, 3) := by decide +kernel
theorem d11_isBerth_4 : decode prog_1_method_43_code 4 = .ok (.iload_n 0, 1) := by decide +kernel
theorem d11_isBerth_5 : decode prog_1_method_43_code 5 = .ok (.bipush 72, 2) := by decide +kernel
theorem d11_isBerth_7 : decode prog_1_method_43_code 7 = .ok (.if_icmp .ge 7, 3) := by decide +kernel
theorem d11_isBerth_10 : decode prog_1_method_43_code 10 = .ok (.iconst 1, 1) := by decide +kernel
theorem d11_isBerth_11 : decode prog_1_method_43_code 11 = .ok (.goto 4, 3) := by decide +kernel
theorem d11_isBerth_14 : decode prog_1_method_43_code 14 = .ok (.iconst 0, 1) := by decide +kernel
theorem d11_isBerth_15 : decode prog_1_method_43_code 15 = .ok (.ireturn, 1) := by decide +kernel
theorem d8_depth_0 : decode prog_10_method_6_code 0 = .ok (.iload_n 2, 1) := by decide +kernel
theorem d8_depth_1 : decode prog_10_method_6_code 1 = .ok (.aload_n 0, 1) := by decide +kernel
theorem d8_depth_2 : decode prog_10_method_6_code 2 = .ok (.getfield 9, 3) := by decide +kernel
theorem d8_depth_5 : decode prog_10_method_6_code 5 = .ok (.iload_n 1, 1) := by decide +kernel
theorem d8_depth_6 : decode prog_10_method_6_code 6 = .ok (.iaload, 1) := by decide +kernel
theorem d8_depth_7 : decode prog_10_method_6_code 7 = .ok (.isub, 1) := by decide +kernel
theorem d8_depth_8 : decode prog_10_method_6_code 8 = .ok (.istore_n 3, 1) := by decide +kernel
theorem d8_depth_9 : decode prog_10_method_6_code 9 = .ok (.iload_n 3, 1) := by decide +kernel
theorem d8_depth_10 : decode prog_10_method_6_code 10 = .ok (.ifCond .ge 7, 3) := by decide +kernel
theorem d8_depth_13 : decode prog_10_method_6_code 13 = .ok (.iconst 0, 1) := by decide +kernel
theorem d8_depth_14 : decode prog_10_method_6_code 14 = .ok (.goto 4, 3) := by decide +kernel
theorem d8_depth_17 : decode prog_10_method_6_code 17 = .ok (.iload_n 3, 1) := by decide +kernel
theorem d8_depth_18 : decode prog_10_method_6_code 18 = .ok (.ireturn, 1) := by decide +kernel
theorem d8_bears_0 : decode prog_10_method_7_code 0 = .ok (.aload_n 0, 1) := by decide +kernel
theorem d8_bears_1 : decode prog_10_method_7_code 1 = .ok (.iload_n 1, 1) := by decide +kernel
theorem d8_bears_2 : decode prog_10_method_7_code 2 = .ok (.iload_n 3, 1) := by decide +kernel
theorem d8_bears_3 : decode prog_10_method_7_code 3 = .ok (.invokevirtual 58, 3) := by decide +kernel
theorem d8_bears_6 : decode prog_10_method_7_code 6 = .ok (.aload_n 0, 1) := by decide +kernel
theorem d8_bears_7 : decode prog_10_method_7_code 7 = .ok (.getfield 23, 3) := by decide +kernel
theorem d8_bears_10 : decode prog_10_method_7_code 10 = .ok (.iload_n 2, 1) := by decide +kernel
theorem d8_bears_11 : decode prog_10_method_7_code 11 = .ok (.aaload, 1) := by decide +kernel
theorem d8_bears_12 : decode prog_10_method_7_code 12 = .ok (.getfield 49, 3) := by decide +kernel
theorem d8_bears_15 : decode prog_10_method_7_code 15 = .ok (.if_icmp .lt 7, 3) := by decide +kernel
theorem d8_bears_18 : decode prog_10_method_7_code 18 = .ok (.iconst 1, 1) := by decide +kernel
theorem d8_bears_19 : decode prog_10_method_7_code 19 = .ok (.goto 4, 3) := by decide +kernel
theorem d8_bears_22 : decode prog_10_method_7_code 22 = .ok (.iconst 0, 1) := by decide +kernel
theorem d8_bears_23 : decode prog_10_method_7_code 23 = .ok (.ireturn, 1) := by decide +kernel
theorem d11_laneOf_0 : decode prog_1_method_44_code 0 = .ok (.iload_n 0, 1) := by decide +kernel
theorem d11_laneOf_1 : decode prog_1_method_44_code 1 = .ok (.bipush 12, 2) := by decide +kernel
theorem d11_laneOf_3 : decode prog_1_method_44_code 3 = .ok (.idiv, 1) := by decide +kernel
theorem d11_laneOf_4 : decode prog_1_method_44_code 4 = .ok (.ireturn, 1) := by decide +kernel
theorem d8_shadow_0 : decode prog_10_method_9_code 0 = .ok (.iload_n 3, 1) := by decide +kernel
theorem d8_shadow_1 : decode prog_10_method_9_code 1 = .ok (.iload_n 2, 1) := by decide +kernel
theorem d8_shadow_2 : decode prog_10_method_9_code 2 = .ok (.isub, 1) := by decide +kernel
theorem d8_shadow_3 : decode prog_10_method_9_code 3 = .ok (.istore 4, 2) := by decide +kernel
theorem d8_shadow_5 : decode prog_10_method_9_code 5 = .ok (.iload_n 2, 1) := by decide +kernel
theorem d8_shadow_6 : decode prog_10_method_9_code 6 = .ok (.ifCond .lt 26, 3) := by decide +kernel
theorem d8_shadow_9 : decode prog_10_method_9_code 9 = .ok (.iload_n 2, 1) := by decide +kernel
theorem d8_shadow_10 : decode prog_10_method_9_code 10 = .ok (.invokestatic 65, 3) := by decide +kernel
theorem d8_shadow_13 : decode prog_10_method_9_code 13 = .ok (.iload_n 3, 1) := by decide +kernel
theorem d8_shadow_14 : decode prog_10_method_9_code 14 = .ok (.invokestatic 65, 3) := by decide +kernel
theorem d8_shadow_17 : decode prog_10_method_9_code 17 = .ok (.if_icmp .ne 15, 3) := by decide +kernel
theorem d8_shadow_20 : decode prog_10_method_9_code 20 = .ok (.iload 4, 2) := by decide +kernel
theorem d8_shadow_22 : decode prog_10_method_9_code 22 = .ok (.iconst 1, 1) := by decide +kernel
theorem d8_shadow_23 : decode prog_10_method_9_code 23 = .ok (.if_icmp .lt 9, 3) := by decide +kernel
theorem d8_shadow_26 : decode prog_10_method_9_code 26 = .ok (.iload 4, 2) := by decide +kernel
theorem d8_shadow_28 : decode prog_10_method_9_code 28 = .ok (.iconst 3, 1) := by decide +kernel
theorem d8_shadow_29 : decode prog_10_method_9_code 29 = .ok (.if_icmp .le 5, 3) := by decide +kernel
theorem d8_shadow_32 : decode prog_10_method_9_code 32 = .ok (.iconst 0, 1) := by decide +kernel
theorem d8_shadow_33 : decode prog_10_method_9_code 33 = .ok (.ireturn, 1) := by decide +kernel
theorem d8_shadow_34 : decode prog_10_method_9_code 34 = .ok (.iload_n 0, 1) := by decide +kernel
theorem d8_shadow_35 : decode prog_10_method_9_code 35 = .ok (.iload_n 1, 1) := by decide +kernel
theorem d8_shadow_36 : decode prog_10_method_9_code 36 = .ok (.imul, 1) := by decide +kernel
theorem d8_shadow_37 : decode prog_10_method_9_code 37 = .ok (.iconst 4, 1) := by decide +kernel
theorem d8_shadow_38 : decode prog_10_method_9_code 38 = .ok (.iload 4, 2) := by decide +kernel
theorem d8_shadow_40 : decode prog_10_method_9_code 40 = .ok (.isub, 1) := by decide +kernel
theorem d8_shadow_41 : decode prog_10_method_9_code 41 = .ok (.imul, 1) := by decide +kernel
theorem d8_shadow_42 : decode prog_10_method_9_code 42 = .ok (.sipush 400, 3) := by decide +kernel
theorem d8_shadow_45 : decode prog_10_method_9_code 45 = .ok (.idiv, 1) := by decide +kernel
theorem d8_shadow_46 : decode prog_10_method_9_code 46 = .ok (.ireturn, 1) := by decide +kernel
theorem dJ9_floorDiv_7cf53_0 : decode prog_20_method_47_code 0 = .ok (.iload_n 0, 1) := by decide +kernel
theorem dJ9_floorDiv_7cf53_1 : decode prog_20_method_47_code 1 = .ok (.iload_n 1, 1) := by decide +kernel
theorem dJ9_floorDiv_7cf53_2 : decode prog_20_method_47_code 2 = .ok (.idiv, 1) := by decide +kernel
theorem dJ9_floorDiv_7cf53_3 : decode prog_20_method_47_code 3 = .ok (.istore_n 2, 1) := by decide +kernel
theorem dJ9_floorDiv_7cf53_4 : decode prog_20_method_47_code 4 = .ok (.iload_n 0, 1) := by decide +kernel
theorem dJ9_floorDiv_7cf53_5 : decode prog_20_method_47_code 5 = .ok (.iload_n 1, 1) := by decide +kernel
theorem dJ9_floorDiv_7cf53_6 : decode prog_20_method_47_code 6 = .ok (.ixor, 1) := by decide +kernel
theorem dJ9_floorDiv_7cf53_7 : decode prog_20_method_47_code 7 = .ok (.ifCond .ge 14, 3) := by decide +kernel
theorem dJ9_floorDiv_7cf53_10 : decode prog_20_method_47_code 10 = .ok (.iload_n 2, 1) := by decide +kernel
theorem dJ9_floorDiv_7cf53_11 : decode prog_20_method_47_code 11 = .ok (.iload_n 1, 1) := by decide +kernel
theorem dJ9_floorDiv_7cf53_12 : decode prog_20_method_47_code 12 = .ok (.imul, 1) := by decide +kernel
theorem dJ9_floorDiv_7cf53_13 : decode prog_20_method_47_code 13 = .ok (.iload_n 0, 1) := by decide +kernel
theorem dJ9_floorDiv_7cf53_14 : decode prog_20_method_47_code 14 = .ok (.if_icmp .eq 7, 3) := by decide +kernel
theorem dJ9_floorDiv_7cf53_17 : decode prog_20_method_47_code 17 = .ok (.iload_n 2, 1) := by decide +kernel
theorem dJ9_floorDiv_7cf53_18 : decode prog_20_method_47_code 18 = .ok (.iconst 1, 1) := by decide +kernel
theorem dJ9_floorDiv_7cf53_19 : decode prog_20_method_47_code 19 = .ok (.isub, 1) := by decide +kernel
theorem dJ9_floorDiv_7cf53_20 : decode prog_20_method_47_code 20 = .ok (.ireturn, 1) := by decide +kernel
theorem dJ9_floorDiv_7cf53_21 : decode prog_20_method_47_code 21 = .ok (.iload_n 2, 1) := by decide +kernel
theorem dJ9_floorDiv_7cf53_22 : decode prog_20_method_47_code 22 = .ok (.ireturn, 1) := by decide +kernel
theorem d9_at_0 : decode prog_11_method_3_code 0 = .ok (.aload_n 0, 1) := by decide +kernel
theorem d9_at_1 : decode prog_11_method_3_code 1 = .ok (.getfield 16, 3) := by decide +kernel
theorem d9_at_4 : decode prog_11_method_3_code 4 = .ok (.ifCond .ne 5, 3) := by decide +kernel
theorem d9_at_7 : decode prog_11_method_3_code 7 = .ok (.iconst 0, 1) := by decide +kernel
theorem d9_at_8 : decode prog_11_method_3_code 8 = .ok (.ireturn, 1) := by decide +kernel
theorem d9_at_9 : decode prog_11_method_3_code 9 = .ok (.iload_n 1, 1) := by decide +kernel
theorem d9_at_10 : decode prog_11_method_3_code 10 = .ok (.aload_n 0, 1) := by decide +kernel
theorem d9_at_11 : decode prog_11_method_3_code 11 = .ok (.getfield 9, 3) := by decide +kernel
theorem d9_at_14 : decode prog_11_method_3_code 14 = .ok (.iconst 0, 1) := by decide +kernel
theorem d9_at_15 : decode prog_11_method_3_code 15 = .ok (.iaload, 1) := by decide +kernel
theorem d9_at_16 : decode prog_11_method_3_code 16 = .ok (.if_icmp .gt 10, 3) := by decide +kernel
theorem d9_at_19 : decode prog_11_method_3_code 19 = .ok (.aload_n 0, 1) := by decide +kernel
theorem d9_at_20 : decode prog_11_method_3_code 20 = .ok (.getfield 13, 3) := by decide +kernel
theorem d9_at_23 : decode prog_11_method_3_code 23 = .ok (.iconst 0, 1) := by decide +kernel
theorem d9_at_24 : decode prog_11_method_3_code 24 = .ok (.iaload, 1) := by decide +kernel
theorem d9_at_25 : decode prog_11_method_3_code 25 = .ok (.ireturn, 1) := by decide +kernel
theorem d9_at_26 : decode prog_11_method_3_code 26 = .ok (.iconst 1, 1) := by decide +kernel
theorem d9_at_27 : decode prog_11_method_3_code 27 = .ok (.istore_n 2, 1) := by decide +kernel
theorem d9_at_28 : decode prog_11_method_3_code 28 = .ok (.iload_n 2, 1) := by decide +kernel
theorem d9_at_29 : decode prog_11_method_3_code 29 = .ok (.aload_n 0, 1) := by decide +kernel
theorem d9_at_30 : decode prog_11_method_3_code 30 = .ok (.getfield 16, 3) := by decide +kernel
theorem d9_at_33 : decode prog_11_method_3_code 33 = .ok (.if_icmp .ge 19, 3) := by decide +kernel
theorem d9_at_36 : decode prog_11_method_3_code 36 = .ok (.aload_n 0, 1) := by decide +kernel
theorem d9_at_37 : decode prog_11_method_3_code 37 = .ok (.getfield 9, 3) := by decide +kernel
theorem d9_at_40 : decode prog_11_method_3_code 40 = .ok (.iload_n 2, 1) := by decide +kernel
theorem d9_at_41 : decode prog_11_method_3_code 41 = .ok (.iaload, 1) := by decide +kernel
theorem d9_at_42 : decode prog_11_method_3_code 42 = .ok (.iload_n 1, 1) := by decide +kernel
theorem d9_at_43 : decode prog_11_method_3_code 43 = .ok (.if_icmp .ge 9, 3) := by decide +kernel
theorem d9_at_46 : decode prog_11_method_3_code 46 = .ok (.iinc 2 1, 3) := by decide +kernel
theorem d9_at_49 : decode prog_11_method_3_code 49 = .ok (.goto (-21), 3) := by decide +kernel
theorem d9_at_52 : decode prog_11_method_3_code 52 = .ok (.iload_n 2, 1) := by decide +kernel
theorem d9_at_53 : decode prog_11_method_3_code 53 = .ok (.aload_n 0, 1) := by decide +kernel
theorem d9_at_54 : decode prog_11_method_3_code 54 = .ok (.getfield 16, 3) := by decide +kernel
theorem d9_at_57 : decode prog_11_method_3_code 57 = .ok (.if_icmp .lt 15, 3) := by decide +kernel
theorem d9_at_60 : decode prog_11_method_3_code 60 = .ok (.aload_n 0, 1) := by decide +kernel
theorem d9_at_61 : decode prog_11_method_3_code 61 = .ok (.getfield 13, 3) := by decide +kernel
theorem d9_at_64 : decode prog_11_method_3_code 64 = .ok (.aload_n 0, 1) := by decide +kernel
theorem d9_at_65 : decode prog_11_method_3_code 65 = .ok (.getfield 16, 3) := by decide +kernel
theorem d9_at_68 : decode prog_11_method_3_code 68 = .ok (.iconst 1, 1) := by decide +kernel
theorem d9_at_69 : decode prog_11_method_3_code 69 = .ok (.isub, 1) := by decide +kernel
theorem d9_at_70 : decode prog_11_method_3_code 70 = .ok (.iaload, 1) := by decide +kernel
theorem d9_at_71 : decode prog_11_method_3_code 71 = .ok (.ireturn, 1) := by decide +kernel
theorem d9_at_72 : decode prog_11_method_3_code 72 = .ok (.aload_n 0, 1) := by decide +kernel
theorem d9_at_73 : decode prog_11_method_3_code 73 = .ok (.getfield 9, 3) := by decide +kernel
theorem d9_at_76 : decode prog_11_method_3_code 76 = .ok (.iload_n 2, 1) := by decide +kernel
theorem d9_at_77 : decode prog_11_method_3_code 77 = .ok (.iaload, 1) := by decide +kernel
theorem d9_at_78 : decode prog_11_method_3_code 78 = .ok (.aload_n 0, 1) := by decide +kernel
theorem d9_at_79 : decode prog_11_method_3_code 79 = .ok (.getfield 9, 3) := by decide +kernel
theorem d9_at_82 : decode prog_11_method_3_code 82 = .ok (.iload_n 2, 1) := by decide +kernel
theorem d9_at_83 : decode prog_11_method_3_code 83 = .ok (.iconst 1, 1) := by decide +kernel
theorem d9_at_84 : decode prog_11_method_3_code 84 = .ok (.isub, 1) := by decide +kernel
theorem d9_at_85 : decode prog_11_method_3_code 85 = .ok (.iaload, 1) := by decide +kernel
theorem d9_at_86 : decode prog_11_method_3_code 86 = .ok (.isub, 1) := by decide +kernel
theorem d9_at_87 : decode prog_11_method_3_code 87 = .ok (.istore_n 3, 1) := by decide +kernel
theorem d9_at_88 : decode prog_11_method_3_code 88 = .ok (.iload_n 3, 1) := by decide +kernel
theorem d9_at_89 : decode prog_11_method_3_code 89 = .ok (.ifCond .gt 10, 3) := by decide +kernel
theorem d9_at_92 : decode prog_11_method_3_code 92 = .ok (.aload_n 0, 1) := by decide +kernel
theorem d9_at_93 : decode prog_11_method_3_code 93 = .ok (.getfield 13, 3) := by decide +kernel
theorem d9_at_96 : decode prog_11_method_3_code 96 = .ok (.iload_n 2, 1) := by decide +kernel
theorem d9_at_97 : decode prog_11_method_3_code 97 = .ok (.iaload, 1) := by decide +kernel
theorem d9_at_98 : decode prog_11_method_3_code 98 = .ok (.ireturn, 1) := by decide +kernel
theorem d9_at_99 : decode prog_11_method_3_code 99 = .ok (.aload_n 0, 1) := by decide +kernel
theorem d9_at_100 : decode prog_11_method_3_code 100 = .ok (.getfield 13, 3) := by decide +kernel
theorem d9_at_103 : decode prog_11_method_3_code 103 = .ok (.iload_n 2, 1) := by decide +kernel
theorem d9_at_104 : decode prog_11_method_3_code 104 = .ok (.iaload, 1) := by decide +kernel
theorem d9_at_105 : decode prog_11_method_3_code 105 = .ok (.aload_n 0, 1) := by decide +kernel
theorem d9_at_106 : decode prog_11_method_3_code 106 = .ok (.getfield 13, 3) := by decide +kernel
theorem d9_at_109 : decode prog_11_method_3_code 109 = .ok (.iload_n 2, 1) := by decide +kernel
theorem d9_at_110 : decode prog_11_method_3_code 110 = .ok (.iconst 1, 1) := by decide +kernel
theorem d9_at_111 : decode prog_11_method_3_code 111 = .ok (.isub, 1) := by decide +kernel
theorem d9_at_112 : decode prog_11_method_3_code 112 = .ok (.iaload, 1) := by decide +kernel
theorem d9_at_113 : decode prog_11_method_3_code 113 = .ok (.isub, 1) := by decide +kernel
theorem d9_at_114 : decode prog_11_method_3_code 114 = .ok (.istore 4, 2) := by decide +kernel
theorem d9_at_116 : decode prog_11_method_3_code 116 = .ok (.aload_n 0, 1) := by decide +kernel
theorem d9_at_117 : decode prog_11_method_3_code 117 = .ok (.getfield 13, 3) := by decide +kernel
theorem d9_at_120 : decode prog_11_method_3_code 120 = .ok (.iload_n 2, 1) := by decide +kernel
theorem d9_at_121 : decode prog_11_method_3_code 121 = .ok (.iconst 1, 1) := by decide +kernel
theorem d9_at_122 : decode prog_11_method_3_code 122 = .ok (.isub, 1) := by decide +kernel
theorem d9_at_123 : decode prog_11_method_3_code 123 = .ok (.iaload, 1) := by decide +kernel
theorem d9_at_124 : decode prog_11_method_3_code 124 = .ok (.iload 4, 2) := by decide +kernel
theorem d9_at_126 : decode prog_11_method_3_code 126 = .ok (.iload_n 1, 1) := by decide +kernel
theorem d9_at_127 : decode prog_11_method_3_code 127 = .ok (.aload_n 0, 1) := by decide +kernel
theorem d9_at_128 : decode prog_11_method_3_code 128 = .ok (.getfield 9, 3) := by decide +kernel
theorem d9_at_131 : decode prog_11_method_3_code 131 = .ok (.iload_n 2, 1) := by decide +kernel
theorem d9_at_132 : decode prog_11_method_3_code 132 = .ok (.iconst 1, 1) := by decide +kernel
theorem d9_at_133 : decode prog_11_method_3_code 133 = .ok (.isub, 1) := by decide +kernel
theorem d9_at_134 : decode prog_11_method_3_code 134 = .ok (.iaload, 1) := by decide +kernel
theorem d9_at_135 : decode prog_11_method_3_code 135 = .ok (.isub, 1) := by decide +kernel
theorem d9_at_136 : decode prog_11_method_3_code 136 = .ok (.imul, 1) := by decide +kernel
theorem d9_at_137 : decode prog_11_method_3_code 137 = .ok (.iload_n 3, 1) := by decide +kernel
theorem d9_at_138 : decode prog_11_method_3_code 138 = .ok (.invokestatic 20, 3) := by decide +kernel
theorem d9_at_141 : decode prog_11_method_3_code 141 = .ok (.iadd, 1) := by decide +kernel
theorem d9_at_142 : decode prog_11_method_3_code 142 = .ok (.ireturn, 1) := by decide +kernel
theorem d8_flowMet_0 : decode prog_10_method_8_code 0 = .ok (.aload_n 2, 1) := by decide +kernel
theorem d8_flowMet_1 : decode prog_10_method_8_code 1 = .ok (.iload_n 1, 1) := by decide +kernel
theorem d8_flowMet_2 : decode prog_10_method_8_code 2 = .ok (.iaload, 1) := by decide +kernel
theorem d8_flowMet_3 : decode prog_10_method_8_code 3 = .ok (.istore 4, 2) := by decide +kernel
theorem d8_flowMet_5 : decode prog_10_method_8_code 5 = .ok (.iload 4, 2) := by decide +kernel
theorem d8_flowMet_7 : decode prog_10_method_8_code 7 = .ok (.invokestatic 62, 3) := by decide +kernel
theorem d8_flowMet_10 : decode prog_10_method_8_code 10 = .ok (.ifCond .ne 5, 3) := by decide +kernel
theorem d8_flowMet_13 : decode prog_10_method_8_code 13 = .ok (.iconst 0, 1) := by decide +kernel
theorem d8_flowMet_14 : decode prog_10_method_8_code 14 = .ok (.ireturn, 1) := by decide +kernel
theorem d8_flowMet_15 : decode prog_10_method_8_code 15 = .ok (.aload_n 0, 1) := by decide +kernel
theorem d8_flowMet_16 : decode prog_10_method_8_code 16 = .ok (.getfield 17, 3) := by decide +kernel
theorem d8_flowMet_19 : decode prog_10_method_8_code 19 = .ok (.iload 4, 2) := by decide +kernel
theorem d8_flowMet_21 : decode prog_10_method_8_code 21 = .ok (.invokestatic 65, 3) := by decide +kernel
theorem d8_flowMet_24 : decode prog_10_method_8_code 24 = .ok (.aaload, 1) := by decide +kernel
theorem d8_flowMet_25 : decode prog_10_method_8_code 25 = .ok (.iload_n 3, 1) := by decide +kernel
theorem d8_flowMet_26 : decode prog_10_method_8_code 26 = .ok (.invokevirtual 69, 3) := by decide +kernel
theorem d8_flowMet_29 : decode prog_10_method_8_code 29 = .ok (.istore 5, 2) := by decide +kernel
theorem d8_flowMet_31 : decode prog_10_method_8_code 31 = .ok (.iload 5, 2) := by decide +kernel
theorem d8_flowMet_33 : decode prog_10_method_8_code 33 = .ok (.istore 6, 2) := by decide +kernel
theorem d8_flowMet_35 : decode prog_10_method_8_code 35 = .ok (.iconst 0, 1) := by decide +kernel
theorem d8_flowMet_36 : decode prog_10_method_8_code 36 = .ok (.istore 7, 2) := by decide +kernel
theorem d8_flowMet_38 : decode prog_10_method_8_code 38 = .ok (.iload 7, 2) := by decide +kernel
theorem d8_flowMet_40 : decode prog_10_method_8_code 40 = .ok (.aload_n 0, 1) := by decide +kernel
theorem d8_flowMet_41 : decode prog_10_method_8_code 41 = .ok (.getfield 41, 3) := by decide +kernel
theorem d8_flowMet_44 : decode prog_10_method_8_code 44 = .ok (.if_icmp .ge 35, 3) := by decide +kernel
theorem d8_flowMet_47 : decode prog_10_method_8_code 47 = .ok (.iload 6, 2) := by decide +kernel
theorem d8_flowMet_49 : decode prog_10_method_8_code 49 = .ok (.iload 5, 2) := by decide +kernel
theorem d8_flowMet_51 : decode prog_10_method_8_code 51 = .ok (.aload_n 0, 1) := by decide +kernel
theorem d8_flowMet_52 : decode prog_10_method_8_code 52 = .ok (.getfield 23, 3) := by decide +kernel
theorem d8_flowMet_55 : decode prog_10_method_8_code 55 = .ok (.iload 7, 2) := by decide +kernel
theorem d8_flowMet_57 : decode prog_10_method_8_code 57 = .ok (.aaload, 1) := by decide +kernel
theorem d8_flowMet_58 : decode prog_10_method_8_code 58 = .ok (.getfield 52, 3) := by decide +kernel
theorem d8_flowMet_61 : decode prog_10_method_8_code 61 = .ok (.aload_n 2, 1) := by decide +kernel
theorem d8_flowMet_62 : decode prog_10_method_8_code 62 = .ok (.iload 7, 2) := by decide +kernel
theorem d8_flowMet_64 : decode prog_10_method_8_code 64 = .ok (.iaload, 1) := by decide +kernel
theorem d8_flowMet_65 : decode prog_10_method_8_code 65 = .ok (.iload 4, 2) := by decide +kernel
theorem d8_flowMet_67 : decode prog_10_method_8_code 67 = .ok (.invokestatic 72, 3) := by decide +kernel
theorem d8_flowMet_70 : decode prog_10_method_8_code 70 = .ok (.isub, 1) := by decide +kernel
theorem d8_flowMet_71 : decode prog_10_method_8_code 71 = .ok (.istore 6, 2) := by decide +kernel
theorem d8_flowMet_73 : decode prog_10_method_8_code 73 = .ok (.iinc 7 1, 3) := by decide +kernel
theorem d8_flowMet_76 : decode prog_10_method_8_code 76 = .ok (.goto (-38), 3) := by decide +kernel
theorem d8_flowMet_79 : decode prog_10_method_8_code 79 = .ok (.iconst 0, 1) := by decide +kernel
theorem d8_flowMet_80 : decode prog_10_method_8_code 80 = .ok (.iload 6, 2) := by decide +kernel
theorem d8_flowMet_82 : decode prog_10_method_8_code 82 = .ok (.invokestatic 76, 3) := by decide +kernel
theorem d8_flowMet_85 : decode prog_10_method_8_code 85 = .ok (.ireturn, 1) := by decide +kernel
theorem d8_pullBorne_0 : decode prog_10_method_13_code 0 = .ok (.aload_n 2, 1) := by decide +kernel
theorem d8_pullBorne_1 : decode prog_10_method_13_code 1 = .ok (.iload_n 1, 1) := by decide +kernel
theorem d8_pullBorne_2 : decode prog_10_method_13_code 2 = .ok (.iaload, 1) := by decide +kernel
theorem d8_pullBorne_3 : decode prog_10_method_13_code 3 = .ok (.invokestatic 62, 3) := by decide +kernel
theorem d8_pullBorne_6 : decode prog_10_method_13_code 6 = .ok (.ifCond .eq 15, 3) := by decide +kernel
theorem d8_pullBorne_9 : decode prog_10_method_13_code 9 = .ok (.aload_n 0, 1) := by decide +kernel
theorem d8_pullBorne_10 : decode prog_10_method_13_code 10 = .ok (.aload_n 2, 1) := by decide +kernel
theorem d8_pullBorne_11 : decode prog_10_method_13_code 11 = .ok (.iload_n 1, 1) := by decide +kernel
theorem d8_pullBorne_12 : decode prog_10_method_13_code 12 = .ok (.iaload, 1) := by decide +kernel
theorem d8_pullBorne_13 : decode prog_10_method_13_code 13 = .ok (.iload_n 1, 1) := by decide +kernel
theorem d8_pullBorne_14 : decode prog_10_method_13_code 14 = .ok (.iload_n 3, 1) := by decide +kernel
theorem d8_pullBorne_15 : decode prog_10_method_13_code 15 = .ok (.invokevirtual 81, 3) := by decide +kernel
theorem d8_pullBorne_18 : decode prog_10_method_13_code 18 = .ok (.ifCond .ne 5, 3) := by decide +kernel
theorem d8_pullBorne_21 : decode prog_10_method_13_code 21 = .ok (.iconst 0, 1) := by decide +kernel
theorem d8_pullBorne_22 : decode prog_10_method_13_code 22 = .ok (.ireturn, 1) := by decide +kernel
theorem d8_pullBorne_23 : decode prog_10_method_13_code 23 = .ok (.aload_n 0, 1) := by decide +kernel
theorem d8_pullBorne_24 : decode prog_10_method_13_code 24 = .ok (.iload_n 1, 1) := by decide +kernel
theorem d8_pullBorne_25 : decode prog_10_method_13_code 25 = .ok (.aload_n 2, 1) := by decide +kernel
theorem d8_pullBorne_26 : decode prog_10_method_13_code 26 = .ok (.iload_n 3, 1) := by decide +kernel
theorem d8_pullBorne_27 : decode prog_10_method_13_code 27 = .ok (.invokevirtual 85, 3) := by decide +kernel
theorem d8_pullBorne_30 : decode prog_10_method_13_code 30 = .ok (.bipush 20, 2) := by decide +kernel
theorem d8_pullBorne_32 : decode prog_10_method_13_code 32 = .ok (.aload_n 0, 1) := by decide +kernel
theorem d8_pullBorne_33 : decode prog_10_method_13_code 33 = .ok (.getfield 23, 3) := by decide +kernel
theorem d8_pullBorne_36 : decode prog_10_method_13_code 36 = .ok (.iload_n 1, 1) := by decide +kernel
theorem d8_pullBorne_37 : decode prog_10_method_13_code 37 = .ok (.aaload, 1) := by decide +kernel
theorem d8_pullBorne_38 : decode prog_10_method_13_code 38 = .ok (.getfield 52, 3) := by decide +kernel
theorem d8_pullBorne_41 : decode prog_10_method_13_code 41 = .ok (.iadd, 1) := by decide +kernel
theorem d8_pullBorne_42 : decode prog_10_method_13_code 42 = .ok (.imul, 1) := by decide +kernel
theorem d8_pullBorne_43 : decode prog_10_method_13_code 43 = .ok (.bipush 20, 2) := by decide +kernel
theorem d8_pullBorne_45 : decode prog_10_method_13_code 45 = .ok (.idiv, 1) := by decide +kernel
theorem d8_pullBorne_46 : decode prog_10_method_13_code 46 = .ok (.istore 5, 2) := by decide +kernel
theorem d8_pullBorne_48 : decode prog_10_method_13_code 48 = .ok (.iload 4, 2) := by decide +kernel
theorem d8_pullBorne_50 : decode prog_10_method_13_code 50 = .ok (.ifCond .eq 10, 3) := by decide +kernel
theorem d8_pullBorne_53 : decode prog_10_method_13_code 53 = .ok (.iconst 2, 1) := by decide +kernel
theorem d8_pullBorne_54 : decode prog_10_method_13_code 54 = .ok (.iload 5, 2) := by decide +kernel
theorem d8_pullBorne_56 : decode prog_10_method_13_code 56 = .ok (.imul, 1) := by decide +kernel
theorem d8_pullBorne_57 : decode prog_10_method_13_code 57 = .ok (.goto 5, 3) := by decide +kernel
theorem d8_pullBorne_60 : decode prog_10_method_13_code 60 = .ok (.iload 5, 2) := by decide +kernel
theorem d8_pullBorne_62 : decode prog_10_method_13_code 62 = .ok (.ireturn, 1) := by decide +kernel
theorem d2_nextBerth_0 : decode prog_4_method_7_code 0 = .ok (.iload_n 2, 1) := by decide +kernel
theorem d2_nextBerth_1 : decode prog_4_method_7_code 1 = .ok (.invokestatic 80, 3) := by decide +kernel
theorem d2_nextBerth_4 : decode prog_4_method_7_code 4 = .ok (.istore_n 3, 1) := by decide +kernel
theorem d2_nextBerth_5 : decode prog_4_method_7_code 5 = .ok (.iconst (-1), 1) := by decide +kernel
theorem d2_nextBerth_6 : decode prog_4_method_7_code 6 = .ok (.istore 4, 2) := by decide +kernel
theorem d2_nextBerth_8 : decode prog_4_method_7_code 8 = .ok (.iconst (-1), 1) := by decide +kernel
theorem d2_nextBerth_9 : decode prog_4_method_7_code 9 = .ok (.istore 5, 2) := by decide +kernel
theorem d2_nextBerth_11 : decode prog_4_method_7_code 11 = .ok (.iconst 0, 1) := by decide +kernel
theorem d2_nextBerth_12 : decode prog_4_method_7_code 12 = .ok (.istore 6, 2) := by decide +kernel
theorem d2_nextBerth_14 : decode prog_4_method_7_code 14 = .ok (.iload 6, 2) := by decide +kernel
theorem d2_nextBerth_16 : decode prog_4_method_7_code 16 = .ok (.iconst 3, 1) := by decide +kernel
theorem d2_nextBerth_17 : decode prog_4_method_7_code 17 = .ok (.if_icmp .ge 112, 3) := by decide +kernel
theorem d2_nextBerth_20 : decode prog_4_method_7_code 20 = .ok (.iload 6, 2) := by decide +kernel
theorem d2_nextBerth_22 : decode prog_4_method_7_code 22 = .ok (.ifCond .ne 7, 3) := by decide +kernel
theorem d2_nextBerth_25 : decode prog_4_method_7_code 25 = .ok (.iload_n 3, 1) := by decide +kernel
theorem d2_nextBerth_26 : decode prog_4_method_7_code 26 = .ok (.goto 18, 3) := by decide +kernel
theorem d2_nextBerth_29 : decode prog_4_method_7_code 29 = .ok (.iload 6, 2) := by decide +kernel
theorem d2_nextBerth_31 : decode prog_4_method_7_code 31 = .ok (.iconst 1, 1) := by decide +kernel
theorem d2_nextBerth_32 : decode prog_4_method_7_code 32 = .ok (.if_icmp .ne 9, 3) := by decide +kernel
theorem d2_nextBerth_35 : decode prog_4_method_7_code 35 = .ok (.iload_n 3, 1) := by decide +kernel
theorem d2_nextBerth_36 : decode prog_4_method_7_code 36 = .ok (.iconst 1, 1) := by decide +kernel
theorem d2_nextBerth_37 : decode prog_4_method_7_code 37 = .ok (.isub, 1) := by decide +kernel
theorem d2_nextBerth_38 : decode prog_4_method_7_code 38 = .ok (.goto 6, 3) := by decide +kernel
theorem d2_nextBerth_41 : decode prog_4_method_7_code 41 = .ok (.iload_n 3, 1) := by decide +kernel
theorem d2_nextBerth_42 : decode prog_4_method_7_code 42 = .ok (.iconst 1, 1) := by decide +kernel
theorem d2_nextBerth_43 : decode prog_4_method_7_code 43 = .ok (.iadd, 1) := by decide +kernel
theorem d2_nextBerth_44 : decode prog_4_method_7_code 44 = .ok (.istore 7, 2) := by decide +kernel
theorem d2_nextBerth_46 : decode prog_4_method_7_code 46 = .ok (.iload 7, 2) := by decide +kernel
theorem d2_nextBerth_48 : decode prog_4_method_7_code 48 = .ok (.bipush 12, 2) := by decide +kernel
theorem d2_nextBerth_50 : decode prog_4_method_7_code 50 = .ok (.imul, 1) := by decide +kernel
theorem d2_nextBerth_51 : decode prog_4_method_7_code 51 = .ok (.iload_n 2, 1) := by decide +kernel
theorem d2_nextBerth_52 : decode prog_4_method_7_code 52 = .ok (.invokestatic 64, 3) := by decide +kernel
theorem d2_nextBerth_55 : decode prog_4_method_7_code 55 = .ok (.iadd, 1) := by decide +kernel
theorem d2_nextBerth_56 : decode prog_4_method_7_code 56 = .ok (.iconst 1, 1) := by decide +kernel
theorem d2_nextBerth_57 : decode prog_4_method_7_code 57 = .ok (.iadd, 1) := by decide +kernel
theorem d2_nextBerth_58 : decode prog_4_method_7_code 58 = .ok (.istore 8, 2) := by decide +kernel
theorem d2_nextBerth_60 : decode prog_4_method_7_code 60 = .ok (.iload 7, 2) := by decide +kernel
theorem d2_nextBerth_62 : decode prog_4_method_7_code 62 = .ok (.ifCond .lt 61, 3) := by decide +kernel
theorem d2_nextBerth_65 : decode prog_4_method_7_code 65 = .ok (.iload 7, 2) := by decide +kernel
theorem d2_nextBerth_67 : decode prog_4_method_7_code 67 = .ok (.bipush 6, 2) := by decide +kernel
theorem d2_nextBerth_69 : decode prog_4_method_7_code 69 = .ok (.if_icmp .ge 54, 3) := by decide +kernel
theorem d2_nextBerth_72 : decode prog_4_method_7_code 72 = .ok (.aload_n 0, 1) := by decide +kernel
theorem d2_nextBerth_73 : decode prog_4_method_7_code 73 = .ok (.getfield 15, 3) := by decide +kernel
theorem d2_nextBerth_76 : decode prog_4_method_7_code 76 = .ok (.iload 8, 2) := by decide +kernel
theorem d2_nextBerth_78 : decode prog_4_method_7_code 78 = .ok (.iload_n 1, 1) := by decide +kernel
theorem d2_nextBerth_79 : decode prog_4_method_7_code 79 = .ok (.aload_n 0, 1) := by decide +kernel
theorem d2_nextBerth_80 : decode prog_4_method_7_code 80 = .ok (.getfield 26, 3) := by decide +kernel
theorem d2_nextBerth_83 : decode prog_4_method_7_code 83 = .ok (.invokevirtual 83, 3) := by decide +kernel
theorem d2_nextBerth_86 : decode prog_4_method_7_code 86 = .ok (.ifCond .eq 37, 3) := by decide +kernel
theorem d2_nextBerth_89 : decode prog_4_method_7_code 89 = .ok (.aload_n 0, 1) := by decide +kernel
theorem d2_nextBerth_90 : decode prog_4_method_7_code 90 = .ok (.getfield 15, 3) := by decide +kernel
theorem d2_nextBerth_93 : decode prog_4_method_7_code 93 = .ok (.getfield 87, 3) := by decide +kernel
theorem d2_nextBerth_96 : decode prog_4_method_7_code 96 = .ok (.iload 7, 2) := by decide +kernel
theorem d2_nextBerth_98 : decode prog_4_method_7_code 98 = .ok (.aaload, 1) := by decide +kernel
theorem d2_nextBerth_99 : decode prog_4_method_7_code 99 = .ok (.aload_n 0, 1) := by decide +kernel
theorem d2_nextBerth_100 : decode prog_4_method_7_code 100 = .ok (.getfield 26, 3) := by decide +kernel
theorem d2_nextBerth_103 : decode prog_4_method_7_code 103 = .ok (.invokevirtual 91, 3) := by decide +kernel
theorem d2_nextBerth_106 : decode prog_4_method_7_code 106 = .ok (.istore 9, 2) := by decide +kernel
theorem d2_nextBerth_108 : decode prog_4_method_7_code 108 = .ok (.iload 9, 2) := by decide +kernel
theorem d2_nextBerth_110 : decode prog_4_method_7_code 110 = .ok (.iload 5, 2) := by decide +kernel
theorem d2_nextBerth_112 : decode prog_4_method_7_code 112 = .ok (.if_icmp .le 11, 3) := by decide +kernel
theorem d2_nextBerth_115 : decode prog_4_method_7_code 115 = .ok (.iload 8, 2) := by decide +kernel
theorem d2_nextBerth_117 : decode prog_4_method_7_code 117 = .ok (.istore 4, 2) := by decide +kernel
theorem d2_nextBerth_119 : decode prog_4_method_7_code 119 = .ok (.iload 9, 2) := by decide +kernel
theorem d2_nextBerth_121 : decode prog_4_method_7_code 121 = .ok (.istore 5, 2) := by decide +kernel
theorem d2_nextBerth_123 : decode prog_4_method_7_code 123 = .ok (.iinc 6 1, 3) := by decide +kernel
theorem d2_nextBerth_126 : decode prog_4_method_7_code 126 = .ok (.goto (-112), 3) := by decide +kernel
theorem d2_nextBerth_129 : decode prog_4_method_7_code 129 = .ok (.iload 4, 2) := by decide +kernel
theorem d2_nextBerth_131 : decode prog_4_method_7_code 131 = .ok (.ireturn, 1) := by decide +kernel
theorem d8_has_0 : decode prog_10_method_2_code 0 = .ok (.iload_n 1, 1) := by decide +kernel
theorem d8_has_1 : decode prog_10_method_2_code 1 = .ok (.ifCond .lt 15, 3) := by decide +kernel
theorem d8_has_4 : decode prog_10_method_2_code 4 = .ok (.iload_n 1, 1) := by decide +kernel
theorem d8_has_5 : decode prog_10_method_2_code 5 = .ok (.aload_n 0, 1) := by decide +kernel
theorem d8_has_6 : decode prog_10_method_2_code 6 = .ok (.getfield 41, 3) := by decide +kernel
theorem d8_has_9 : decode prog_10_method_2_code 9 = .ok (.if_icmp .ge 7, 3) := by decide +kernel
theorem d8_has_12 : decode prog_10_method_2_code 12 = .ok (.iconst 1, 1) := by decide +kernel
theorem d8_has_13 : decode prog_10_method_2_code 13 = .ok (.goto 4, 3) := by decide +kernel
theorem d8_has_16 : decode prog_10_method_2_code 16 = .ok (.iconst 0, 1) := by decide +kernel
theorem d8_has_17 : decode prog_10_method_2_code 17 = .ok (.ireturn, 1) := by decide +kernel
theorem d8_liesAtBerth_0 : decode prog_10_method_3_code 0 = .ok (.aload_n 0, 1) := by decide +kernel
theorem d8_liesAtBerth_1 : decode prog_10_method_3_code 1 = .ok (.iload_n 1, 1) := by decide +kernel
theorem d8_liesAtBerth_2 : decode prog_10_method_3_code 2 = .ok (.invokevirtual 45, 3) := by decide +kernel
theorem d8_liesAtBerth_5 : decode prog_10_method_3_code 5 = .ok (.ifCond .eq 16, 3) := by decide +kernel
theorem d8_liesAtBerth_8 : decode prog_10_method_3_code 8 = .ok (.aload_n 0, 1) := by decide +kernel
theorem d8_liesAtBerth_9 : decode prog_10_method_3_code 9 = .ok (.getfield 27, 3) := by decide +kernel
theorem d8_liesAtBerth_12 : decode prog_10_method_3_code 12 = .ok (.iload_n 1, 1) := by decide +kernel
theorem d8_liesAtBerth_13 : decode prog_10_method_3_code 13 = .ok (.iaload, 1) := by decide +kernel
theorem d8_liesAtBerth_14 : decode prog_10_method_3_code 14 = .ok (.ifCond .lt 7, 3) := by decide +kernel
theorem d8_liesAtBerth_17 : decode prog_10_method_3_code 17 = .ok (.iconst 1, 1) := by decide +kernel
theorem d8_liesAtBerth_18 : decode prog_10_method_3_code 18 = .ok (.goto 4, 3) := by decide +kernel
theorem d8_liesAtBerth_21 : decode prog_10_method_3_code 21 = .ok (.iconst 0, 1) := by decide +kernel
theorem d8_liesAtBerth_22 : decode prog_10_method_3_code 22 = .ok (.ireturn, 1) := by decide +kernel
theorem d8_lyingAt_0 : decode prog_10_method_5_code 0 = .ok (.iconst 0, 1) := by decide +kernel
theorem d8_lyingAt_1 : decode prog_10_method_5_code 1 = .ok (.istore_n 3, 1) := by decide +kernel
theorem d8_lyingAt_2 : decode prog_10_method_5_code 2 = .ok (.iload_n 3, 1) := by decide +kernel
theorem d8_lyingAt_3 : decode prog_10_method_5_code 3 = .ok (.aload_n 0, 1) := by decide +kernel
theorem d8_lyingAt_4 : decode prog_10_method_5_code 4 = .ok (.getfield 41, 3) := by decide +kernel
theorem d8_lyingAt_7 : decode prog_10_method_5_code 7 = .ok (.if_icmp .ge 18, 3) := by decide +kernel
theorem d8_lyingAt_10 : decode prog_10_method_5_code 10 = .ok (.aload_n 2, 1) := by decide +kernel
theorem d8_lyingAt_11 : decode prog_10_method_5_code 11 = .ok (.iload_n 3, 1) := by decide +kernel
theorem d8_lyingAt_12 : decode prog_10_method_5_code 12 = .ok (.iaload, 1) := by decide +kernel
theorem d8_lyingAt_13 : decode prog_10_method_5_code 13 = .ok (.iload_n 1, 1) := by decide +kernel
theorem d8_lyingAt_14 : decode prog_10_method_5_code 14 = .ok (.if_icmp .ne 5, 3) := by decide +kernel
theorem d8_lyingAt_17 : decode prog_10_method_5_code 17 = .ok (.iload_n 3, 1) := by decide +kernel
theorem d8_lyingAt_18 : decode prog_10_method_5_code 18 = .ok (.ireturn, 1) := by decide +kernel
theorem d8_lyingAt_19 : decode prog_10_method_5_code 19 = .ok (.iinc 3 1, 3) := by decide +kernel
theorem d8_lyingAt_22 : decode prog_10_method_5_code 22 = .ok (.goto (-20), 3) := by decide +kernel
theorem d8_lyingAt_25 : decode prog_10_method_5_code 25 = .ok (.iconst (-1), 1) := by decide +kernel
theorem d8_lyingAt_26 : decode prog_10_method_5_code 26 = .ok (.ireturn, 1) := by decide +kernel
abbrev m0_init : MD := ("MillBoats$Boat", ⟨"MillBoats$Boat", "<init>", "()V"⟩, prog_2_method_1_code, 1, (none : Option Jvm.ClassFile.FieldType))
theorem k0_init : okY m0_init.2.1 0 := ⟨by decide +kernel, by decide +kernel, by decide +kernel⟩
def f0_init (σ : St) (v0 : Nat) : Option (Unit × St) :=
  gd (ob σ v0 0) (
  lt (wI σ v0 6 (-1 : Int32)) fun t2 => (
  some ((), t2)))
set_option maxRecDepth 50000 in
theorem s0_init : ∀ (σ : St) (v0 : Nat) (r : Unit) (τ : St), f0_init σ v0 = some (r, τ) → Call 2 m0_init [.ref v0] σ none τ := by
  intro σ v0 r τ hf
  unfold f0_init at hf
  refine Call.of (by decide +kernel) rfl (Nat.le_of_ble_eq_true rfl) ?_
  refine ev_aload_n (j := 0) (i := 0) (q := 0) rfl rfl d0_init_0 ?_
  refine ev_objInit w64 w32 w33 (by decide) (Nat.le_of_ble_eq_true rfl) d0_init_1 ?_
  refine ev_aload_n (j := 0) (i := 0) (q := 0) rfl rfl d0_init_4 ?_
  refine ev_iconst ci_m1 d0_init_5 ?_
  obtain ⟨h1, hf⟩ := gd_some hf
  obtain ⟨t2, e3, hf⟩ := lt_some hf
  refine ev_putI cls0 (j := 6) (by decide) rfl rfl w82 h1 (fun _ => ⟨rfl, rfl⟩) d0_init_6 (ev_nmS e3 ?_)
  obtain ⟨-, rfl⟩ := ret_some hf
  exact ev_vret rfl d0_init_9
abbrev mJ9_min_7cf53 : MD := ("java/lang/Math", ⟨"java/lang/Math", "min", "(II)I"⟩, prog_20_method_69_code, 2, (some Jvm.ClassFile.FieldType.int))
theorem kJ9_min_7cf53 : okY mJ9_min_7cf53.2.1 2 := ⟨by decide +kernel, by decide +kernel, by decide +kernel⟩
def fJ9_min_7cf53 (σ : St) (v0 : Int32) (v1 : Int32) : Option (Int32 × St) :=
  (if v0 ≤ v1 then
  some (v0, σ)
  else
  some (v1, σ))
set_option maxRecDepth 50000 in
theorem sJ9_min_7cf53 : ∀ (σ : St) (v0 : Int32) (v1 : Int32) (r : Int32) (τ : St), fJ9_min_7cf53 σ v0 v1 = some (r, τ) → Call 2 mJ9_min_7cf53 [.int v0, .int v1] σ (some (.int r)) τ := by
  intro σ v0 v1 r τ hf
  unfold fJ9_min_7cf53 at hf
  refine Call.of (by decide +kernel) rfl (Nat.le_of_ble_eq_true rfl) ?_
  refine ev_iload_n (j := 0) (i := 0) (q := 0) rfl rfl dJ9_min_7cf53_0 ?_
  refine ev_iload_n (j := 1) (i := 1) (q := 1) rfl rfl dJ9_min_7cf53_1 ?_
  rcases ite_some hf with ⟨c1, hf⟩ | ⟨c1, hf⟩
  · refine ev_icmp_gt_P (tgt := 9) c1 (by decide) dJ9_min_7cf53_2 ?_
    refine ev_iload_n (j := 0) (i := 0) (q := 0) rfl rfl dJ9_min_7cf53_5 ?_
    refine ev_goto (tgt := 10) (by decide) dJ9_min_7cf53_6 ?_
    obtain ⟨rfl, rfl⟩ := ret_some hf
    exact ev_iret rfl dJ9_min_7cf53_10
  · refine ev_icmp_gt_Q (tgt := 9) c1 (by decide) dJ9_min_7cf53_2 ?_
    refine ev_iload_n (j := 1) (i := 1) (q := 1) rfl rfl dJ9_min_7cf53_9 ?_
    obtain ⟨rfl, rfl⟩ := ret_some hf
    exact ev_iret rfl dJ9_min_7cf53_10
abbrev m0_worn : MD := ("MillBoats$Boat", ⟨"MillBoats$Boat", "worn", "()I"⟩, prog_2_method_2_code, 1, (some Jvm.ClassFile.FieldType.int))
theorem k0_worn : okY m0_worn.2.1 0 := ⟨by decide +kernel, by decide +kernel, by decide +kernel⟩
def f0_worn (σ : St) (v0 : Nat) : Option (Int32 × St) :=
  gd (ob σ v0 0) (
  bd (fJ9_min_7cf53 σ (100 : Int32) ((sI σ v0 3) / (5 : Int32))) fun r2 t3 => (
  some (r2, t3)))
set_option maxRecDepth 50000 in
theorem s0_worn : ∀ (σ : St) (v0 : Nat) (r : Int32) (τ : St), f0_worn σ v0 = some (r, τ) → Call 3 m0_worn [.ref v0] σ (some (.int r)) τ := by
  intro σ v0 r τ hf
  unfold f0_worn at hf
  refine Call.of (by decide +kernel) rfl (Nat.le_of_ble_eq_true rfl) ?_
  refine ev_bipush cb_100 d0_worn_0 ?_
  refine ev_aload_n (j := 0) (i := 0) (q := 0) rfl rfl d0_worn_2 ?_
  obtain ⟨h1, hf⟩ := gd_some hf
  refine ev_getI cls0 (j := 3) (by decide) rfl w75 h1 d0_worn_3 ?_
  refine ev_iconst ci_5 d0_worn_6 ?_
  refine ev_idiv (by decide) d0_worn_7 ?_
  obtain ⟨r2, t3, k4, hf⟩ := bd_some hf
  have q5 := sJ9_min_7cf53 _ _ _ _ _ k4
  refine ev_callS (vs := [.int (100 : Int32), .int ((sI σ v0 3) / (5 : Int32))]) (sk := []) q5 (by decide) (Nat.le_of_ble_eq_true rfl) w635 w636 w8 w637 kJ9_min_7cf53 rfl (Nat.le_of_ble_eq_true rfl) d0_worn_8 ?_
  obtain ⟨rfl, rfl⟩ := ret_some hf
  exact ev_iret rfl d0_worn_11
abbrev m0_dressOn : MD := ("MillBoats$Boat", ⟨"MillBoats$Boat", "dressOn", "(I)Z"⟩, prog_2_method_3_code, 2, (some Jvm.ClassFile.FieldType.boolean))
theorem k0_dressOn : okY m0_dressOn.2.1 1 := ⟨by decide +kernel, by decide +kernel, by decide +kernel⟩
def f0_dressOn (σ : St) (v0 : Nat) (v1 : Int32) : Option (Int32 × St) :=
  gd (ob σ v0 0) (
  (if (sI σ v0 6) = v1 then
  some ((0 : Int32), σ)
  else
  lt (wI σ v0 6 v1) fun t3 => (
  lt (wI t3 v0 3 (0 : Int32)) fun t5 => (
  some ((1 : Int32), t5)))))
set_option maxRecDepth 50000 in
theorem s0_dressOn : ∀ (σ : St) (v0 : Nat) (v1 : Int32) (r : Int32) (τ : St), f0_dressOn σ v0 v1 = some (r, τ) → Call 2 m0_dressOn [.ref v0, .int v1] σ (some (.int r)) τ := by
  intro σ v0 v1 r τ hf
  unfold f0_dressOn at hf
  refine Call.of (by decide +kernel) rfl (Nat.le_of_ble_eq_true rfl) ?_
  refine ev_aload_n (j := 0) (i := 0) (q := 0) rfl rfl d0_dressOn_0 ?_
  obtain ⟨h1, hf⟩ := gd_some hf
  refine ev_getI cls0 (j := 6) (by decide) rfl w82 h1 d0_dressOn_1 ?_
  refine ev_iload_n (j := 1) (i := 1) (q := 1) rfl rfl d0_dressOn_4 ?_
  rcases ite_some hf with ⟨c2, hf⟩ | ⟨c2, hf⟩
  · refine ev_icmp_ne_P (tgt := 10) c2 (by decide) d0_dressOn_5 ?_
    refine ev_iconst ci_0 d0_dressOn_8 ?_
    obtain ⟨rfl, rfl⟩ := ret_some hf
    exact ev_zret rfl (by decide) d0_dressOn_9
  · refine ev_icmp_ne_Q (tgt := 10) c2 (by decide) d0_dressOn_5 ?_
    refine ev_aload_n (j := 0) (i := 0) (q := 0) rfl rfl d0_dressOn_10 ?_
    refine ev_iload_n (j := 1) (i := 1) (q := 1) rfl rfl d0_dressOn_11 ?_
    obtain ⟨t3, e4, hf⟩ := lt_some hf
    refine ev_putI cls0 (j := 6) (by decide) rfl rfl w82 h1 (fun _ => ⟨rfl, rfl⟩) d0_dressOn_12 (ev_nmS e4 ?_)
    refine ev_aload_n (j := 0) (i := 0) (q := 0) rfl rfl d0_dressOn_15 ?_
    refine ev_iconst ci_0 d0_dressOn_16 ?_
    obtain ⟨t5, e6, hf⟩ := lt_some hf
    refine ev_putI cls0 (j := 3) (by decide) rfl rfl w75 (mono_ob (mono_eI e4) h1) (fun _ => ⟨rfl, rfl⟩) d0_dressOn_17 (ev_nmS e6 ?_)
    refine ev_iconst ci_1 d0_dressOn_20 ?_
    obtain ⟨rfl, rfl⟩ := ret_some hf
    exact ev_zret rfl (by decide) d0_dressOn_21
abbrev m0_grindSacks : MD := ("MillBoats$Boat", ⟨"MillBoats$Boat", "grindSacks", "(II)V"⟩, prog_2_method_4_code, 3, (none : Option Jvm.ClassFile.FieldType))
theorem k0_grindSacks : okY m0_grindSacks.2.1 2 := ⟨by decide +kernel, by decide +kernel, by decide +kernel⟩
def f0_grindSacks (σ : St) (v0 : Nat) (v1 : Int32) (v2 : Int32) : Option (Unit × St) :=
  gd (ob σ v0 0) (
  lt (wI σ v0 3 ((sI σ v0 3) + v1)) fun t2 => (
  lt (wI t2 v0 4 ((sI t2 v0 4) + v1)) fun t4 => (
  lt (wI t4 v0 5 ((sI t4 v0 5) + v2)) fun t6 => (
  some ((), t6)))))
set_option maxRecDepth 50000 in
theorem s0_grindSacks : ∀ (σ : St) (v0 : Nat) (v1 : Int32) (v2 : Int32) (r : Unit) (τ : St), f0_grindSacks σ v0 v1 v2 = some (r, τ) → Call 2 m0_grindSacks [.ref v0, .int v1, .int v2] σ none τ := by
  intro σ v0 v1 v2 r τ hf
  unfold f0_grindSacks at hf
  refine Call.of (by decide +kernel) rfl (Nat.le_of_ble_eq_true rfl) ?_
  refine ev_aload_n (j := 0) (i := 0) (q := 0) rfl rfl d0_grindSacks_0 ?_
  refine ev_dup rfl d0_grindSacks_1 ?_
  obtain ⟨h1, hf⟩ := gd_some hf
  refine ev_getI cls0 (j := 3) (by decide) rfl w75 h1 d0_grindSacks_2 ?_
  refine ev_iload_n (j := 1) (i := 1) (q := 1) rfl rfl d0_grindSacks_5 ?_
  refine ev_iadd d0_grindSacks_6 ?_
  obtain ⟨t2, e3, hf⟩ := lt_some hf
  refine ev_putI cls0 (j := 3) (by decide) rfl rfl w75 h1 (fun _ => ⟨rfl, rfl⟩) d0_grindSacks_7 (ev_nmS e3 ?_)
  refine ev_aload_n (j := 0) (i := 0) (q := 0) rfl rfl d0_grindSacks_10 ?_
  refine ev_dup rfl d0_grindSacks_11 ?_
  refine ev_getI cls0 (j := 4) (by decide) rfl w76 (mono_ob (mono_eI e3) h1) d0_grindSacks_12 ?_
  refine ev_iload_n (j := 1) (i := 1) (q := 1) rfl rfl d0_grindSacks_15 ?_
  refine ev_iadd d0_grindSacks_16 ?_
  obtain ⟨t4, e5, hf⟩ := lt_some hf
  refine ev_putI cls0 (j := 4) (by decide) rfl rfl w76 (mono_ob (mono_eI e3) h1) (fun _ => ⟨rfl, rfl⟩) d0_grindSacks_17 (ev_nmS e5 ?_)
  refine ev_aload_n (j := 0) (i := 0) (q := 0) rfl rfl d0_grindSacks_20 ?_
  refine ev_dup rfl d0_grindSacks_21 ?_
  refine ev_getI cls0 (j := 5) (by decide) rfl w79 (mono_ob (mono_eI e5) (mono_ob (mono_eI e3) h1)) d0_grindSacks_22 ?_
  refine ev_iload_n (j := 2) (i := 2) (q := 2) rfl rfl d0_grindSacks_25 ?_
  refine ev_iadd d0_grindSacks_26 ?_
  obtain ⟨t6, e7, hf⟩ := lt_some hf
  refine ev_putI cls0 (j := 5) (by decide) rfl rfl w79 (mono_ob (mono_eI e5) (mono_ob (mono_eI e3) h1)) (fun _ => ⟨rfl, rfl⟩) d0_grindSacks_27 (ev_nmS e7 ?_)
  obtain ⟨-, rfl⟩ := ret_some hf
  exact ev_vret rfl d0_grindSacks_30
abbrev mJ9_max_7cf53 : MD := ("java/lang/Math", ⟨"java/lang/Math", "max", "(II)I"⟩, prog_20_method_65_code, 2, (some Jvm.ClassFile.FieldType.int))
theorem kJ9_max_7cf53 : okY mJ9_max_7cf53.2.1 2 := ⟨by decide +kernel, by decide +kernel, by decide +kernel⟩
def fJ9_max_7cf53 (σ : St) (v0 : Int32) (v1 : Int32) : Option (Int32 × St) :=
  (if v0 < v1 then
  some (v1, σ)
  else
  some (v0, σ))
set_option maxRecDepth 50000 in
theorem sJ9_max_7cf53 : ∀ (σ : St) (v0 : Int32) (v1 : Int32) (r : Int32) (τ : St), fJ9_max_7cf53 σ v0 v1 = some (r, τ) → Call 2 mJ9_max_7cf53 [.int v0, .int v1] σ (some (.int r)) τ := by
  intro σ v0 v1 r τ hf
  unfold fJ9_max_7cf53 at hf
  refine Call.of (by decide +kernel) rfl (Nat.le_of_ble_eq_true rfl) ?_
  refine ev_iload_n (j := 0) (i := 0) (q := 0) rfl rfl dJ9_max_7cf53_0 ?_
  refine ev_iload_n (j := 1) (i := 1) (q := 1) rfl rfl dJ9_max_7cf53_1 ?_
  rcases ite_some hf with ⟨c1, hf⟩ | ⟨c1, hf⟩
  · refine ev_icmp_lt_P (tgt := 9) c1 (by decide) dJ9_max_7cf53_2 ?_
    refine ev_iload_n (j := 1) (i := 1) (q := 1) rfl rfl dJ9_max_7cf53_9 ?_
    obtain ⟨rfl, rfl⟩ := ret_some hf
    exact ev_iret rfl dJ9_max_7cf53_10
  · refine ev_icmp_lt_Q (tgt := 9) c1 (by decide) dJ9_max_7cf53_2 ?_
    refine ev_iload_n (j := 0) (i := 0) (q := 0) rfl rfl dJ9_max_7cf53_5 ?_
    refine ev_goto (tgt := 10) (by decide) dJ9_max_7cf53_6 ?_
    obtain ⟨rfl, rfl⟩ := ret_some hf
    exact ev_iret rfl dJ9_max_7cf53_10
abbrev m1_init : MD := ("MillBoats$Book", ⟨"MillBoats$Book", "<init>", "(I)V"⟩, prog_3_method_1_code, 3, (none : Option Jvm.ClassFile.FieldType))
theorem k1_init : okY m1_init.2.1 1 := ⟨by decide +kernel, by decide +kernel, by decide +kernel⟩
def f1_init (σ : St) (v0 : Nat) (v1 : Int32) : Option (Unit × St) :=
  bd (fJ9_max_7cf53 σ (0 : Int32) v1) fun r1 t2 => (
  lt (sN t2 + 1) fun b5 => (
  gd (szOk r1) (
  lt (wN t2 14 (ix r1)) fun t8 => (
  gd (ob t8 v0 1) (
  lt (wR t8 v0 0 b5) fun t11 => (
  lt (sN t11 + 1) fun b13 => (
  gd (szOk r1) (
  lt (wN t11 14 (ix r1)) fun t16 => (
  lt (wR t16 v0 1 b13) fun t18 => (
  lt (sN t18 + 1) fun b20 => (
  gd (szOk r1) (
  lt (wN t18 14 (ix r1)) fun t23 => (
  lt (wR t23 v0 2 b20) fun t25 => (
  some ((), t25)))))))))))))))
set_option maxRecDepth 50000 in
theorem s1_init : ∀ (σ : St) (v0 : Nat) (v1 : Int32) (r : Unit) (τ : St), f1_init σ v0 v1 = some (r, τ) → Call 3 m1_init [.ref v0, .int v1] σ none τ := by
  intro σ v0 v1 r τ hf
  unfold f1_init at hf
  refine Call.of (by decide +kernel) rfl (Nat.le_of_ble_eq_true rfl) ?_
  refine ev_aload_n (j := 0) (i := 0) (q := 0) rfl rfl d1_init_0 ?_
  refine ev_objInit w150 w32 w33 (by decide) (Nat.le_of_ble_eq_true rfl) d1_init_1 ?_
  refine ev_iconst ci_0 d1_init_4 ?_
  refine ev_iload_n (j := 1) (i := 1) (q := 1) rfl rfl d1_init_5 ?_
  obtain ⟨r1, t2, k3, hf⟩ := bd_some hf
  have q4 := sJ9_max_7cf53 _ _ _ _ _ k3
  refine ev_callS (vs := [.int (0 : Int32), .int v1]) (sk := []) q4 (by decide) (Nat.le_of_ble_eq_true rfl) w151 w152 w8 w153 kJ9_max_7cf53 rfl (Nat.le_of_ble_eq_true rfl) d1_init_6 ?_
  refine ev_istore_n (lv2 := [(2, .int r1), (0, .ref v0), (1, .int v1)]) (j := 2) (i := 2) rfl (by decide) rfl d1_init_9 ?_
  refine ev_aload_n (j := 0) (i := 0) (q := 1) rfl rfl d1_init_10 ?_
  refine ev_iload_n (j := 2) (i := 2) (q := 0) rfl rfl d1_init_11 ?_
  obtain ⟨b5, e6, hf⟩ := lt_some hf
  obtain ⟨h7, hf⟩ := gd_some hf
  obtain ⟨t8, e9, hf⟩ := lt_some hf
  refine ev_newa_int w59 h7 d1_init_12 (ev_nmR e6 (ev_nmS e9 ?_))
  obtain ⟨h10, hf⟩ := gd_some hf
  obtain ⟨t11, e12, hf⟩ := lt_some hf
  refine ev_putRF cls1 (j := 0) (by decide) rfl (ne_new e6) rfl w154 rfl rfl h10 (fun _ => ⟨rfl, rfl⟩) d1_init_14 (ev_nmS e12 ?_)
  refine ev_aload_n (j := 0) (i := 0) (q := 1) rfl rfl d1_init_17 ?_
  refine ev_iload_n (j := 2) (i := 2) (q := 0) rfl rfl d1_init_18 ?_
  obtain ⟨b13, e14, hf⟩ := lt_some hf
  obtain ⟨h15, hf⟩ := gd_some hf
  obtain ⟨t16, e17, hf⟩ := lt_some hf
  refine ev_newa_int w59 h15 d1_init_19 (ev_nmR e14 (ev_nmS e17 ?_))
  obtain ⟨t18, e19, hf⟩ := lt_some hf
  refine ev_putRF cls1 (j := 1) (by decide) rfl (ne_new e14) rfl w155 rfl rfl (mono_ob (mono_eN e17) (mono_ob (mono_eR e12) h10)) (fun _ => ⟨rfl, rfl⟩) d1_init_21 (ev_nmS e19 ?_)
  refine ev_aload_n (j := 0) (i := 0) (q := 1) rfl rfl d1_init_24 ?_
  refine ev_iload_n (j := 2) (i := 2) (q := 0) rfl rfl d1_init_25 ?_
  obtain ⟨b20, e21, hf⟩ := lt_some hf
  obtain ⟨h22, hf⟩ := gd_some hf
  obtain ⟨t23, e24, hf⟩ := lt_some hf
  refine ev_newa_int w59 h22 d1_init_26 (ev_nmR e21 (ev_nmS e24 ?_))
  obtain ⟨t25, e26, hf⟩ := lt_some hf
  refine ev_putRF cls1 (j := 2) (by decide) rfl (ne_new e21) rfl w156 rfl rfl (mono_ob (mono_eN e24) (mono_ob (mono_eR e19) (mono_ob (mono_eN e17) (mono_ob (mono_eR e12) h10)))) (fun _ => ⟨rfl, rfl⟩) d1_init_28 (ev_nmS e26 ?_)
  obtain ⟨-, rfl⟩ := ret_some hf
  exact ev_vret rfl d1_init_31
abbrev m1_tell : MD := ("MillBoats$Book", ⟨"MillBoats$Book", "tell", "(III)Z"⟩, prog_3_method_2_code, 4, (some Jvm.ClassFile.FieldType.boolean))
theorem k1_tell : okY m1_tell.2.1 3 := ⟨by decide +kernel, by decide +kernel, by decide +kernel⟩
def f1_tell (σ : St) (v0 : Nat) (v1 : Int32) (v2 : Int32) (v3 : Int32) : Option (Int32 × St) :=
  gd (ob σ v0 1) (
  lt (sR σ v0 0) fun b2 => (
  gd (nz b2) (
  gd (ob σ b2 14) (
  (if (sI σ v0 3) < (Int32.ofNat (sK σ b2).2) then
  gd (inb σ b2 (sI σ v0 3)) (
  lt (wI σ b2 (ix (sI σ v0 3)) v1) fun t8 => (
  lt (sR t8 v0 1) fun b10 => (
  gd (nz b10) (
  gd (ob t8 b10 14) (
  gd (inb t8 b10 (sI t8 v0 3)) (
  lt (wI t8 b10 (ix (sI t8 v0 3)) v3) fun t15 => (
  lt (sR t15 v0 2) fun b17 => (
  gd (nz b17) (
  gd (ob t15 b17 14) (
  gd (inb t15 b17 (sI t15 v0 3)) (
  lt (wI t15 b17 (ix (sI t15 v0 3)) v2) fun t22 => (
  lt (wI t22 v0 3 ((sI t22 v0 3) + (1 : Int32))) fun t24 => (
  some ((1 : Int32), t24))))))))))))))
  else
  some ((0 : Int32), σ))))))
set_option maxRecDepth 50000 in
theorem s1_tell : ∀ (σ : St) (v0 : Nat) (v1 : Int32) (v2 : Int32) (v3 : Int32) (r : Int32) (τ : St), f1_tell σ v0 v1 v2 v3 = some (r, τ) → Call 2 m1_tell [.ref v0, .int v1, .int v2, .int v3] σ (some (.int r)) τ := by
  intro σ v0 v1 v2 v3 r τ hf
  unfold f1_tell at hf
  refine Call.of (by decide +kernel) rfl (Nat.le_of_ble_eq_true rfl) ?_
  refine ev_aload_n (j := 0) (i := 0) (q := 0) rfl rfl d1_tell_0 ?_
  obtain ⟨h1, hf⟩ := gd_some hf
  refine ev_getI cls1 (j := 3) (by decide) rfl w157 h1 d1_tell_1 ?_
  refine ev_aload_n (j := 0) (i := 0) (q := 0) rfl rfl d1_tell_4 ?_
  obtain ⟨b2, e3, hf⟩ := lt_some hf
  obtain ⟨h4, hf⟩ := gd_some hf
  refine ev_getRb cls1 (j := 0) (by decide) rfl w154 h1 e3 (nz_ne h4) d1_tell_5 ?_
  obtain ⟨h5, hf⟩ := gd_some hf
  refine ev_alen (kd := 14) (by decide) (by decide) h5 d1_tell_8 ?_
  rcases ite_some hf with ⟨c6, hf⟩ | ⟨c6, hf⟩
  · refine ev_icmp_lt_P (tgt := 14) c6 (by decide) d1_tell_9 ?_
    refine ev_aload_n (j := 0) (i := 0) (q := 0) rfl rfl d1_tell_14 ?_
    refine ev_getRb cls1 (j := 0) (by decide) rfl w154 h1 e3 (nz_ne h4) d1_tell_15 ?_
    refine ev_aload_n (j := 0) (i := 0) (q := 0) rfl rfl d1_tell_18 ?_
    refine ev_getI cls1 (j := 3) (by decide) rfl w157 h1 d1_tell_19 ?_
    refine ev_iload_n (j := 1) (i := 1) (q := 1) rfl rfl d1_tell_22 ?_
    obtain ⟨h7, hf⟩ := gd_some hf
    obtain ⟨t8, e9, hf⟩ := lt_some hf
    refine ev_iast h5 h7 d1_tell_23 (ev_nmS e9 ?_)
    refine ev_aload_n (j := 0) (i := 0) (q := 0) rfl rfl d1_tell_24 ?_
    obtain ⟨b10, e11, hf⟩ := lt_some hf
    obtain ⟨h12, hf⟩ := gd_some hf
    refine ev_getRb cls1 (j := 1) (by decide) rfl w155 (mono_ob (mono_eI e9) h1) e11 (nz_ne h12) d1_tell_25 ?_
    refine ev_aload_n (j := 0) (i := 0) (q := 0) rfl rfl d1_tell_28 ?_
    refine ev_getI cls1 (j := 3) (by decide) rfl w157 (mono_ob (mono_eI e9) h1) d1_tell_29 ?_
    refine ev_iload_n (j := 3) (i := 3) (q := 3) rfl rfl d1_tell_32 ?_
    obtain ⟨h13, hf⟩ := gd_some hf
    obtain ⟨h14, hf⟩ := gd_some hf
    obtain ⟨t15, e16, hf⟩ := lt_some hf
    refine ev_iast h13 h14 d1_tell_33 (ev_nmS e16 ?_)
    refine ev_aload_n (j := 0) (i := 0) (q := 0) rfl rfl d1_tell_34 ?_
    obtain ⟨b17, e18, hf⟩ := lt_some hf
    obtain ⟨h19, hf⟩ := gd_some hf
    refine ev_getRb cls1 (j := 2) (by decide) rfl w156 (mono_ob (mono_eI e16) (mono_ob (mono_eI e9) h1)) e18 (nz_ne h19) d1_tell_35 ?_
    refine ev_aload_n (j := 0) (i := 0) (q := 0) rfl rfl d1_tell_38 ?_
    refine ev_getI cls1 (j := 3) (by decide) rfl w157 (mono_ob (mono_eI e16) (mono_ob (mono_eI e9) h1)) d1_tell_39 ?_
    refine ev_iload_n (j := 2) (i := 2) (q := 2) rfl rfl d1_tell_42 ?_
    obtain ⟨h20, hf⟩ := gd_some hf
    obtain ⟨h21, hf⟩ := gd_some hf
    obtain ⟨t22, e23, hf⟩ := lt_some hf
    refine ev_iast h20 h21 d1_tell_43 (ev_nmS e23 ?_)
    refine ev_aload_n (j := 0) (i := 0) (q := 0) rfl rfl d1_tell_44 ?_
    refine ev_dup rfl d1_tell_45 ?_
    refine ev_getI cls1 (j := 3) (by decide) rfl w157 (mono_ob (mono_eI e23) (mono_ob (mono_eI e16) (mono_ob (mono_eI e9) h1))) d1_tell_46 ?_
    refine ev_iconst ci_1 d1_tell_49 ?_
    refine ev_iadd d1_tell_50 ?_
    obtain ⟨t24, e25, hf⟩ := lt_some hf
    refine ev_putI cls1 (j := 3) (by decide) rfl rfl w157 (mono_ob (mono_eI e23) (mono_ob (mono_eI e16) (mono_ob (mono_eI e9) h1))) (fun _ => ⟨rfl, rfl⟩) d1_tell_51 (ev_nmS e25 ?_)
    refine ev_iconst ci_1 d1_tell_54 ?_
    obtain ⟨rfl, rfl⟩ := ret_some hf
    exact ev_zret rfl (by decide) d1_tell_55
  · refine ev_icmp_lt_Q (tgt := 14) c6 (by decide) d1_tell_9 ?_
    refine ev_iconst ci_0 d1_tell_12 ?_
    obtain ⟨rfl, rfl⟩ := ret_some hf
    exact ev_zret rfl (by decide) d1_tell_13
abbrev m1_latest : MD := ("MillBoats$Book", ⟨"MillBoats$Book", "latest", "(II)I"⟩, prog_3_method_3_code, 5, (some Jvm.ClassFile.FieldType.int))
theorem k1_latest : okY m1_latest.2.1 2 := ⟨by decide +kernel, by decide +kernel, by decide +kernel⟩
def f1_latest_p59 (K5 : St → Nat → Int32 → Int32 → Int32 → Int32 → Option (Int32 × St)) (σ : St) (v0 : Nat) (v1 : Int32) (v2 : Int32) (v3 : Int32) (v4 : Int32) : Option (Int32 × St) :=
  lt (v4 + (1 : Int32)) fun y18 => (
  K5 σ v0 v1 v2 v3 y18)
set_option maxRecDepth 20000 in
theorem s1_latest_p59 {K5 : St → Nat → Int32 → Int32 → Int32 → Int32 → Option (Int32 × St)} (hK5 : ∀ (σ : St) (v0 : Nat) (v1 : Int32) (v2 : Int32) (v3 : Int32) (v4 : Int32) (r : Int32) (τ : St), K5 σ v0 v1 v2 v3 v4 = some (r, τ) → Ev 2 m1_latest 5 [(0, .ref v0), (1, .int v1), (2, .int v2), (3, .int v3), (4, .int v4)] [] σ (some (.int r)) τ) : ∀ (σ : St) (v0 : Nat) (v1 : Int32) (v2 : Int32) (v3 : Int32) (v4 : Int32) (r : Int32) (τ : St), f1_latest_p59 K5 σ v0 v1 v2 v3 v4 = some (r, τ) → Ev 2 m1_latest 59 [(0, .ref v0), (1, .int v1), (2, .int v2), (3, .int v3), (4, .int v4)] [] σ (some (.int r)) τ := by
  intro σ v0 v1 v2 v3 v4 r τ hf
  unfold f1_latest_p59 at hf
  obtain ⟨y18, e19, hf⟩ := lt_some hf
  refine ev_iinc (lv2 := [(4, .int y18), (0, .ref v0), (1, .int v1), (2, .int v2), (3, .int v3)]) (i := 4) (q := 4) (v := y18) (n := 1) rfl (by rw [ci_1]; exact e19.symm) (by decide) rfl d1_latest_59 ?_
  refine ev_goto (tgt := 5) (by decide) d1_latest_62 ?_
  exact Ev.sub [1, 2, 3, 4, 0] rfl (hK5 _ _ _ _ _ _ _ _ hf)
def f1_latest_p56 (K5 : St → Nat → Int32 → Int32 → Int32 → Int32 → Option (Int32 × St)) (σ : St) (v0 : Nat) (v1 : Int32) (v2 : Int32) (v4 : Int32) : Option (Int32 × St) :=
  f1_latest_p59 K5 σ v0 v1 v2 v4 v4
set_option maxRecDepth 20000 in
theorem s1_latest_p56 {K5 : St → Nat → Int32 → Int32 → Int32 → Int32 → Option (Int32 × St)} (hK5 : ∀ (σ : St) (v0 : Nat) (v1 : Int32) (v2 : Int32) (v3 : Int32) (v4 : Int32) (r : Int32) (τ : St), K5 σ v0 v1 v2 v3 v4 = some (r, τ) → Ev 2 m1_latest 5 [(0, .ref v0), (1, .int v1), (2, .int v2), (3, .int v3), (4, .int v4)] [] σ (some (.int r)) τ) : ∀ (σ : St) (v0 : Nat) (v1 : Int32) (v2 : Int32) (v4 : Int32) (r : Int32) (τ : St), f1_latest_p56 K5 σ v0 v1 v2 v4 = some (r, τ) → Ev 2 m1_latest 56 [(0, .ref v0), (1, .int v1), (2, .int v2), (4, .int v4)] [] σ (some (.int r)) τ := by
  intro σ v0 v1 v2 v4 r τ hf
  unfold f1_latest_p56 at hf
  refine ev_iload (i := 4) (q := 3) rfl d1_latest_56 ?_
  refine ev_istore_n (lv2 := [(3, .int v4), (0, .ref v0), (1, .int v1), (2, .int v2), (4, .int v4)]) (j := 3) (i := 3) rfl (by decide) rfl d1_latest_58 ?_
  exact Ev.sub [1, 2, 3, 0, 4] rfl (s1_latest_p59 hK5 _ _ _ _ _ _ _ _ hf)
def f1_latest_p5 : Nat → St → Nat → Int32 → Int32 → Int32 → Int32 → Option (Int32 × St)
  | 0, _, _, _, _, _, _ => none
  | n + 1, σ, v0, v1, v2, v3, v4 =>
  gd (ob σ v0 1) (
  (if v4 < (sI σ v0 3) then
  lt (sR σ v0 1) fun b3 => (
  gd (nz b3) (
  gd (ob σ b3 14) (
  gd (inb σ b3 v4) (
  (if (sI σ b3 (ix v4)) ≤ v2 then
  lt (sR σ v0 0) fun b9 => (
  gd (nz b9) (
  gd (ob σ b9 14) (
  gd (inb σ b9 v4) (
  (if (sI σ b9 (ix v4)) ≤ v1 then
  (if v3 < (0 : Int32) then
  f1_latest_p56 (f1_latest_p5 n) σ v0 v1 v2 v4
  else
  gd (inb σ b9 v3) (
  (if (sI σ b9 (ix v4)) < (sI σ b9 (ix v3)) then
  f1_latest_p59 (f1_latest_p5 n) σ v0 v1 v2 v3 v4
  else
  f1_latest_p56 (f1_latest_p5 n) σ v0 v1 v2 v4)))
  else
  f1_latest_p59 (f1_latest_p5 n) σ v0 v1 v2 v3 v4)))))
  else
  f1_latest_p59 (f1_latest_p5 n) σ v0 v1 v2 v3 v4)))))
  else
  some (v3, σ)))
set_option maxRecDepth 20000 in
theorem s1_latest_p5 : ∀ (n : Nat) (σ : St) (v0 : Nat) (v1 : Int32) (v2 : Int32) (v3 : Int32) (v4 : Int32) (r : Int32) (τ : St), f1_latest_p5 n σ v0 v1 v2 v3 v4 = some (r, τ) → Ev 2 m1_latest 5 [(0, .ref v0), (1, .int v1), (2, .int v2), (3, .int v3), (4, .int v4)] [] σ (some (.int r)) τ := by
  intro n
  induction n with
  | zero =>
    intro σ v0 v1 v2 v3 v4 r τ hf
    cases hf
  | succ n ih =>
    intro σ v0 v1 v2 v3 v4 r τ hf
    rw [f1_latest_p5] at hf
    refine ev_iload (i := 4) (q := 4) rfl d1_latest_5 ?_
    refine ev_aload_n (j := 0) (i := 0) (q := 0) rfl rfl d1_latest_7 ?_
    obtain ⟨h1, hf⟩ := gd_some hf
    refine ev_getI cls1 (j := 3) (by decide) rfl w157 h1 d1_latest_8 ?_
    rcases ite_some hf with ⟨c2, hf⟩ | ⟨c2, hf⟩
    · refine ev_icmp_ge_P (tgt := 65) c2 (by decide) d1_latest_11 ?_
      refine ev_aload_n (j := 0) (i := 0) (q := 0) rfl rfl d1_latest_14 ?_
      obtain ⟨b3, e4, hf⟩ := lt_some hf
      obtain ⟨h5, hf⟩ := gd_some hf
      refine ev_getRb cls1 (j := 1) (by decide) rfl w155 h1 e4 (nz_ne h5) d1_latest_15 ?_
      refine ev_iload (i := 4) (q := 4) rfl d1_latest_18 ?_
      obtain ⟨h6, hf⟩ := gd_some hf
      obtain ⟨h7, hf⟩ := gd_some hf
      refine ev_iald h6 h7 d1_latest_20 ?_
      refine ev_iload_n (j := 2) (i := 2) (q := 2) rfl rfl d1_latest_21 ?_
      rcases ite_some hf with ⟨c8, hf⟩ | ⟨c8, hf⟩
      · refine ev_icmp_gt_P (tgt := 59) c8 (by decide) d1_latest_22 ?_
        refine ev_aload_n (j := 0) (i := 0) (q := 0) rfl rfl d1_latest_25 ?_
        obtain ⟨b9, e10, hf⟩ := lt_some hf
        obtain ⟨h11, hf⟩ := gd_some hf
        refine ev_getRb cls1 (j := 0) (by decide) rfl w154 h1 e10 (nz_ne h11) d1_latest_26 ?_
        refine ev_iload (i := 4) (q := 4) rfl d1_latest_29 ?_
        obtain ⟨h12, hf⟩ := gd_some hf
        obtain ⟨h13, hf⟩ := gd_some hf
        refine ev_iald h12 h13 d1_latest_31 ?_
        refine ev_iload_n (j := 1) (i := 1) (q := 1) rfl rfl d1_latest_32 ?_
        rcases ite_some hf with ⟨c14, hf⟩ | ⟨c14, hf⟩
        · refine ev_icmp_gt_P (tgt := 59) c14 (by decide) d1_latest_33 ?_
          refine ev_iload_n (j := 3) (i := 3) (q := 3) rfl rfl d1_latest_36 ?_
          rcases ite_some hf with ⟨c15, hf⟩ | ⟨c15, hf⟩
          · refine ev_if_lt_P (tgt := 56) c15 (by decide) d1_latest_37 ?_
            exact Ev.sub [0, 1, 2, 4] rfl (s1_latest_p56 ih _ _ _ _ _ _ _ hf)
          · refine ev_if_lt_Q (tgt := 56) c15 (by decide) d1_latest_37 ?_
            refine ev_aload_n (j := 0) (i := 0) (q := 0) rfl rfl d1_latest_40 ?_
            refine ev_getRb cls1 (j := 0) (by decide) rfl w154 h1 e10 (nz_ne h11) d1_latest_41 ?_
            refine ev_iload (i := 4) (q := 4) rfl d1_latest_44 ?_
            refine ev_iald h12 h13 d1_latest_46 ?_
            refine ev_aload_n (j := 0) (i := 0) (q := 0) rfl rfl d1_latest_47 ?_
            refine ev_getRb cls1 (j := 0) (by decide) rfl w154 h1 e10 (nz_ne h11) d1_latest_48 ?_
            refine ev_iload_n (j := 3) (i := 3) (q := 3) rfl rfl d1_latest_51 ?_
            obtain ⟨h16, hf⟩ := gd_some hf
            refine ev_iald h12 h16 d1_latest_52 ?_
            rcases ite_some hf with ⟨c17, hf⟩ | ⟨c17, hf⟩
            · refine ev_icmp_lt_P (tgt := 59) c17 (by decide) d1_latest_53 ?_
              exact Ev.sub [0, 1, 2, 3, 4] rfl (s1_latest_p59 ih _ _ _ _ _ _ _ _ hf)
            · refine ev_icmp_lt_Q (tgt := 59) c17 (by decide) d1_latest_53 ?_
              exact Ev.sub [0, 1, 2, 4] rfl (s1_latest_p56 ih _ _ _ _ _ _ _ hf)
        · refine ev_icmp_gt_Q (tgt := 59) c14 (by decide) d1_latest_33 ?_
          exact Ev.sub [0, 1, 2, 3, 4] rfl (s1_latest_p59 ih _ _ _ _ _ _ _ _ hf)
      · refine ev_icmp_gt_Q (tgt := 59) c8 (by decide) d1_latest_22 ?_
        exact Ev.sub [0, 1, 2, 3, 4] rfl (s1_latest_p59 ih _ _ _ _ _ _ _ _ hf)
    · refine ev_icmp_ge_Q (tgt := 65) c2 (by decide) d1_latest_11 ?_
      refine ev_iload_n (j := 3) (i := 3) (q := 3) rfl rfl d1_latest_65 ?_
      obtain ⟨rfl, rfl⟩ := ret_some hf
      exact ev_iret rfl d1_latest_66
def f1_latest (σ : St) (v0 : Nat) (v1 : Int32) (v2 : Int32) : Option (Int32 × St) :=
  f1_latest_p5 FU σ v0 v1 v2 (-1 : Int32) (0 : Int32)
set_option maxRecDepth 50000 in
theorem s1_latest : ∀ (σ : St) (v0 : Nat) (v1 : Int32) (v2 : Int32) (r : Int32) (τ : St), f1_latest σ v0 v1 v2 = some (r, τ) → Call 2 m1_latest [.ref v0, .int v1, .int v2] σ (some (.int r)) τ := by
  intro σ v0 v1 v2 r τ hf
  unfold f1_latest at hf
  refine Call.of (by decide +kernel) rfl (Nat.le_of_ble_eq_true rfl) ?_
  refine ev_iconst ci_m1 d1_latest_0 ?_
  refine ev_istore_n (lv2 := [(3, .int (-1 : Int32)), (0, .ref v0), (1, .int v1), (2, .int v2)]) (j := 3) (i := 3) rfl (by decide) rfl d1_latest_1 ?_
  refine ev_iconst ci_0 d1_latest_2 ?_
  refine ev_istore (lv2 := [(4, .int (0 : Int32)), (3, .int (-1 : Int32)), (0, .ref v0), (1, .int v1), (2, .int v2)]) (i := 4) (by decide) rfl d1_latest_3 ?_
  exact Ev.sub [2, 3, 4, 1, 0] rfl (s1_latest_p5 FU _ _ _ _ _ _ _ _ hf)
abbrev m1_latestOr : MD := ("MillBoats$Book", ⟨"MillBoats$Book", "latestOr", "(III)I"⟩, prog_3_method_4_code, 5, (some Jvm.ClassFile.FieldType.int))
theorem k1_latestOr : okY m1_latestOr.2.1 3 := ⟨by decide +kernel, by decide +kernel, by decide +kernel⟩
def f1_latestOr (σ : St) (v0 : Nat) (v1 : Int32) (v2 : Int32) (v3 : Int32) : Option (Int32 × St) :=
  gd (ob σ v0 1) (
  bd (f1_latest σ v0 v1 v2) fun r2 t3 => (
  (if r2 < (0 : Int32) then
  some (v3, t3)
  else
  lt (sR t3 v0 2) fun b7 => (
  gd (nz b7) (
  gd (ob t3 b7 14) (
  gd (inb t3 b7 r2) (
  some (sI t3 b7 (ix r2), t3))))))))
set_option maxRecDepth 50000 in
theorem s1_latestOr : ∀ (σ : St) (v0 : Nat) (v1 : Int32) (v2 : Int32) (v3 : Int32) (r : Int32) (τ : St), f1_latestOr σ v0 v1 v2 v3 = some (r, τ) → Call 3 m1_latestOr [.ref v0, .int v1, .int v2, .int v3] σ (some (.int r)) τ := by
  intro σ v0 v1 v2 v3 r τ hf
  unfold f1_latestOr at hf
  refine Call.of (by decide +kernel) rfl (Nat.le_of_ble_eq_true rfl) ?_
  refine ev_aload_n (j := 0) (i := 0) (q := 0) rfl rfl d1_latestOr_0 ?_
  refine ev_iload_n (j := 1) (i := 1) (q := 1) rfl rfl d1_latestOr_1 ?_
  refine ev_iload_n (j := 2) (i := 2) (q := 2) rfl rfl d1_latestOr_2 ?_
  obtain ⟨h1, hf⟩ := gd_some hf
  obtain ⟨r2, t3, k4, hf⟩ := bd_some hf
  have q5 := s1_latest _ _ _ _ _ _ k4
  refine ev_callV (vs := [.int v1, .int v2]) (sk := []) cls1 h1 q5 (by decide) (Nat.le_of_ble_eq_true rfl) w685 w686 w687 w7 w688 k1_latest rfl (Nat.le_of_ble_eq_true rfl) d1_latestOr_3 ?_
  refine ev_istore (lv2 := [(4, .int r2), (0, .ref v0), (1, .int v1), (2, .int v2), (3, .int v3)]) (i := 4) (by decide) rfl d1_latestOr_6 ?_
  refine ev_iload (i := 4) (q := 0) rfl d1_latestOr_8 ?_
  rcases ite_some hf with ⟨c6, hf⟩ | ⟨c6, hf⟩
  · refine ev_if_ge_P (tgt := 17) c6 (by decide) d1_latestOr_10 ?_
    refine ev_iload_n (j := 3) (i := 3) (q := 4) rfl rfl d1_latestOr_13 ?_
    refine ev_goto (tgt := 24) (by decide) d1_latestOr_14 ?_
    obtain ⟨rfl, rfl⟩ := ret_some hf
    exact ev_iret rfl d1_latestOr_24
  · refine ev_if_ge_Q (tgt := 17) c6 (by decide) d1_latestOr_10 ?_
    refine ev_aload_n (j := 0) (i := 0) (q := 1) rfl rfl d1_latestOr_17 ?_
    obtain ⟨b7, e8, hf⟩ := lt_some hf
    obtain ⟨h9, hf⟩ := gd_some hf
    refine ev_getRb cls1 (j := 2) (by decide) rfl w156 (mono_ob q5.1 h1) e8 (nz_ne h9) d1_latestOr_18 ?_
    refine ev_iload (i := 4) (q := 0) rfl d1_latestOr_21 ?_
    obtain ⟨h10, hf⟩ := gd_some hf
    obtain ⟨h11, hf⟩ := gd_some hf
    refine ev_iald h10 h11 d1_latestOr_23 ?_
    obtain ⟨rfl, rfl⟩ := ret_some hf
    exact ev_iret rfl d1_latestOr_24
abbrev m1_exactOr : MD := ("MillBoats$Book", ⟨"MillBoats$Book", "exactOr", "(III)I"⟩, prog_3_method_5_code, 5, (some Jvm.ClassFile.FieldType.int))
theorem k1_exactOr : okY m1_exactOr.2.1 3 := ⟨by decide +kernel, by decide +kernel, by decide +kernel⟩
def f1_exactOr (σ : St) (v0 : Nat) (v1 : Int32) (v2 : Int32) (v3 : Int32) : Option (Int32 × St) :=
  gd (ob σ v0 1) (
  bd (f1_latest σ v0 v1 v2) fun r2 t3 => (
  (if r2 < (0 : Int32) then
  some (v3, t3)
  else
  lt (sR t3 v0 0) fun b7 => (
  gd (nz b7) (
  gd (ob t3 b7 14) (
  gd (inb t3 b7 r2) (
  (if (sI t3 b7 (ix r2)) = v1 then
  lt (sR t3 v0 2) fun b13 => (
  gd (nz b13) (
  gd (ob t3 b13 14) (
  gd (inb t3 b13 r2) (
  some (sI t3 b13 (ix r2), t3)))))
  else
  some (v3, t3)))))))))
set_option maxRecDepth 50000 in
theorem s1_exactOr : ∀ (σ : St) (v0 : Nat) (v1 : Int32) (v2 : Int32) (v3 : Int32) (r : Int32) (τ : St), f1_exactOr σ v0 v1 v2 v3 = some (r, τ) → Call 3 m1_exactOr [.ref v0, .int v1, .int v2, .int v3] σ (some (.int r)) τ := by
  intro σ v0 v1 v2 v3 r τ hf
  unfold f1_exactOr at hf
  refine Call.of (by decide +kernel) rfl (Nat.le_of_ble_eq_true rfl) ?_
  refine ev_aload_n (j := 0) (i := 0) (q := 0) rfl rfl d1_exactOr_0 ?_
  refine ev_iload_n (j := 1) (i := 1) (q := 1) rfl rfl d1_exactOr_1 ?_
  refine ev_iload_n (j := 2) (i := 2) (q := 2) rfl rfl d1_exactOr_2 ?_
  obtain ⟨h1, hf⟩ := gd_some hf
  obtain ⟨r2, t3, k4, hf⟩ := bd_some hf
  have q5 := s1_latest _ _ _ _ _ _ k4
  refine ev_callV (vs := [.int v1, .int v2]) (sk := []) cls1 h1 q5 (by decide) (Nat.le_of_ble_eq_true rfl) w685 w686 w687 w7 w688 k1_latest rfl (Nat.le_of_ble_eq_true rfl) d1_exactOr_3 ?_
  refine ev_istore (lv2 := [(4, .int r2), (0, .ref v0), (1, .int v1), (2, .int v2), (3, .int v3)]) (i := 4) (by decide) rfl d1_exactOr_6 ?_
  refine ev_iload (i := 4) (q := 0) rfl d1_exactOr_8 ?_
  rcases ite_some hf with ⟨c6, hf⟩ | ⟨c6, hf⟩
  · refine ev_if_lt_P (tgt := 24) c6 (by decide) d1_exactOr_10 ?_
    refine ev_iload_n (j := 3) (i := 3) (q := 4) rfl rfl d1_exactOr_24 ?_
    refine ev_goto (tgt := 35) (by decide) d1_exactOr_25 ?_
    obtain ⟨rfl, rfl⟩ := ret_some hf
    exact ev_iret rfl d1_exactOr_35
  · refine ev_if_lt_Q (tgt := 24) c6 (by decide) d1_exactOr_10 ?_
    refine ev_aload_n (j := 0) (i := 0) (q := 1) rfl rfl d1_exactOr_13 ?_
    obtain ⟨b7, e8, hf⟩ := lt_some hf
    obtain ⟨h9, hf⟩ := gd_some hf
    refine ev_getRb cls1 (j := 0) (by decide) rfl w154 (mono_ob q5.1 h1) e8 (nz_ne h9) d1_exactOr_14 ?_
    refine ev_iload (i := 4) (q := 0) rfl d1_exactOr_17 ?_
    obtain ⟨h10, hf⟩ := gd_some hf
    obtain ⟨h11, hf⟩ := gd_some hf
    refine ev_iald h10 h11 d1_exactOr_19 ?_
    refine ev_iload_n (j := 1) (i := 1) (q := 2) rfl rfl d1_exactOr_20 ?_
    rcases ite_some hf with ⟨c12, hf⟩ | ⟨c12, hf⟩
    · refine ev_icmp_eq_P (tgt := 28) c12 (by decide) d1_exactOr_21 ?_
      refine ev_aload_n (j := 0) (i := 0) (q := 1) rfl rfl d1_exactOr_28 ?_
      obtain ⟨b13, e14, hf⟩ := lt_some hf
      obtain ⟨h15, hf⟩ := gd_some hf
      refine ev_getRb cls1 (j := 2) (by decide) rfl w156 (mono_ob q5.1 h1) e14 (nz_ne h15) d1_exactOr_29 ?_
      refine ev_iload (i := 4) (q := 0) rfl d1_exactOr_32 ?_
      obtain ⟨h16, hf⟩ := gd_some hf
      obtain ⟨h17, hf⟩ := gd_some hf
      refine ev_iald h16 h17 d1_exactOr_34 ?_
      obtain ⟨rfl, rfl⟩ := ret_some hf
      exact ev_iret rfl d1_exactOr_35
    · refine ev_icmp_eq_Q (tgt := 28) c12 (by decide) d1_exactOr_21 ?_
      refine ev_iload_n (j := 3) (i := 3) (q := 4) rfl rfl d1_exactOr_24 ?_
      refine ev_goto (tgt := 35) (by decide) d1_exactOr_25 ?_
      obtain ⟨rfl, rfl⟩ := ret_some hf
      exact ev_iret rfl d1_exactOr_35
abbrev m2_init : MD := ("MillBoats$Drift", ⟨"MillBoats$Drift", "<init>", "(LMillBoats$River;)V"⟩, prog_4_method_1_code, 2, (none : Option Jvm.ClassFile.FieldType))
theorem k2_init : okY m2_init.2.1 1 := ⟨by decide +kernel, by decide +kernel, by decide +kernel⟩
def f2_init (σ : St) (v0 : Nat) (v1 : Nat) : Option (Unit × St) :=
  lt (sN σ + 1) fun b1 => (
  gd (szOk (1500 : Int32)) (
  lt (wN σ 14 (ix (1500 : Int32))) fun t4 => (
  gd (ob t4 v0 2) (
  lt (wR t4 v0 1 b1) fun t7 => (
  gd (nz v1) (
  lt (wR t7 v0 0 v1) fun t10 => (
  some ((), t10))))))))
set_option maxRecDepth 50000 in
theorem s2_init : ∀ (σ : St) (v0 : Nat) (v1 : Nat) (r : Unit) (τ : St), f2_init σ v0 v1 = some (r, τ) → Call 2 m2_init [.ref v0, .ref v1] σ none τ := by
  intro σ v0 v1 r τ hf
  unfold f2_init at hf
  refine Call.of (by decide +kernel) rfl (Nat.le_of_ble_eq_true rfl) ?_
  refine ev_aload_n (j := 0) (i := 0) (q := 0) rfl rfl d2_init_0 ?_
  refine ev_objInit w349 w32 w33 (by decide) (Nat.le_of_ble_eq_true rfl) d2_init_1 ?_
  refine ev_aload_n (j := 0) (i := 0) (q := 0) rfl rfl d2_init_4 ?_
  refine ev_sipush cs_1500 d2_init_5 ?_
  obtain ⟨b1, e2, hf⟩ := lt_some hf
  obtain ⟨h3, hf⟩ := gd_some hf
  obtain ⟨t4, e5, hf⟩ := lt_some hf
  refine ev_newa_int w59 h3 d2_init_8 (ev_nmR e2 (ev_nmS e5 ?_))
  obtain ⟨h6, hf⟩ := gd_some hf
  obtain ⟨t7, e8, hf⟩ := lt_some hf
  refine ev_putRF cls2 (j := 1) (by decide) rfl (ne_new e2) rfl w351 rfl rfl h6 (fun _ => ⟨rfl, rfl⟩) d2_init_10 (ev_nmS e8 ?_)
  refine ev_aload_n (j := 0) (i := 0) (q := 0) rfl rfl d2_init_13 ?_
  refine ev_aload_n (j := 1) (i := 1) (q := 1) rfl rfl d2_init_14 ?_
  obtain ⟨h9, hf⟩ := gd_some hf
  obtain ⟨t10, e11, hf⟩ := lt_some hf
  refine ev_putRF cls2 (j := 0) (by decide) rfl (nz_ne h9) rfl w350 rfl rfl (mono_ob (mono_eR e8) h6) (fun _ => ⟨rfl, rfl⟩) d2_init_15 (ev_nmS e11 ?_)
  obtain ⟨-, rfl⟩ := ret_some hf
  exact ev_vret rfl d2_init_18
abbrev m2_told : MD := ("MillBoats$Drift", ⟨"MillBoats$Drift", "told", "(II)I"⟩, prog_4_method_2_code, 3, (some Jvm.ClassFile.FieldType.int))
theorem k2_told : okY m2_told.2.1 2 := ⟨by decide +kernel, by decide +kernel, by decide +kernel⟩
def f2_told (σ : St) (v0 : Nat) (v1 : Int32) (v2 : Int32) : Option (Int32 × St) :=
  (if v1 < (0 : Int32) then
  some ((-1 : Int32), σ)
  else
  gd (ob σ v0 2) (
  (if v1 < (sI σ v0 2) then
  (if v2 < (0 : Int32) then
  some ((-1 : Int32), σ)
  else
  (if v2 < (5 : Int32) then
  lt (sR σ v0 1) fun b6 => (
  gd (nz b6) (
  gd (ob σ b6 14) (
  gd (inb σ b6 ((v1 * (5 : Int32)) + v2)) (
  some (sI σ b6 (ix ((v1 * (5 : Int32)) + v2)), σ)))))
  else
  some ((-1 : Int32), σ)))
  else
  some ((-1 : Int32), σ))))
set_option maxRecDepth 50000 in
theorem s2_told : ∀ (σ : St) (v0 : Nat) (v1 : Int32) (v2 : Int32) (r : Int32) (τ : St), f2_told σ v0 v1 v2 = some (r, τ) → Call 2 m2_told [.ref v0, .int v1, .int v2] σ (some (.int r)) τ := by
  intro σ v0 v1 v2 r τ hf
  unfold f2_told at hf
  refine Call.of (by decide +kernel) rfl (Nat.le_of_ble_eq_true rfl) ?_
  refine ev_iload_n (j := 1) (i := 1) (q := 1) rfl rfl d2_told_0 ?_
  rcases ite_some hf with ⟨c1, hf⟩ | ⟨c1, hf⟩
  · refine ev_if_lt_P (tgt := 21) c1 (by decide) d2_told_1 ?_
    refine ev_iconst ci_m1 d2_told_21 ?_
    obtain ⟨rfl, rfl⟩ := ret_some hf
    exact ev_iret rfl d2_told_22
  · refine ev_if_lt_Q (tgt := 21) c1 (by decide) d2_told_1 ?_
    refine ev_iload_n (j := 1) (i := 1) (q := 1) rfl rfl d2_told_4 ?_
    refine ev_aload_n (j := 0) (i := 0) (q := 0) rfl rfl d2_told_5 ?_
    obtain ⟨h2, hf⟩ := gd_some hf
    refine ev_getI cls2 (j := 2) (by decide) rfl w352 h2 d2_told_6 ?_
    rcases ite_some hf with ⟨c3, hf⟩ | ⟨c3, hf⟩
    · refine ev_icmp_ge_P (tgt := 21) c3 (by decide) d2_told_9 ?_
      refine ev_iload_n (j := 2) (i := 2) (q := 2) rfl rfl d2_told_12 ?_
      rcases ite_some hf with ⟨c4, hf⟩ | ⟨c4, hf⟩
      · refine ev_if_lt_P (tgt := 21) c4 (by decide) d2_told_13 ?_
        refine ev_iconst ci_m1 d2_told_21 ?_
        obtain ⟨rfl, rfl⟩ := ret_some hf
        exact ev_iret rfl d2_told_22
      · refine ev_if_lt_Q (tgt := 21) c4 (by decide) d2_told_13 ?_
        refine ev_iload_n (j := 2) (i := 2) (q := 2) rfl rfl d2_told_16 ?_
        refine ev_iconst ci_5 d2_told_17 ?_
        rcases ite_some hf with ⟨c5, hf⟩ | ⟨c5, hf⟩
        · refine ev_icmp_lt_P (tgt := 23) c5 (by decide) d2_told_18 ?_
          refine ev_aload_n (j := 0) (i := 0) (q := 0) rfl rfl d2_told_23 ?_
          obtain ⟨b6, e7, hf⟩ := lt_some hf
          obtain ⟨h8, hf⟩ := gd_some hf
          refine ev_getRb cls2 (j := 1) (by decide) rfl w351 h2 e7 (nz_ne h8) d2_told_24 ?_
          refine ev_iload_n (j := 1) (i := 1) (q := 1) rfl rfl d2_told_27 ?_
          refine ev_iconst ci_5 d2_told_28 ?_
          refine ev_imul d2_told_29 ?_
          refine ev_iload_n (j := 2) (i := 2) (q := 2) rfl rfl d2_told_30 ?_
          refine ev_iadd d2_told_31 ?_
          obtain ⟨h9, hf⟩ := gd_some hf
          obtain ⟨h10, hf⟩ := gd_some hf
          refine ev_iald h9 h10 d2_told_32 ?_
          obtain ⟨rfl, rfl⟩ := ret_some hf
          exact ev_iret rfl d2_told_33
        · refine ev_icmp_lt_Q (tgt := 23) c5 (by decide) d2_told_18 ?_
          refine ev_iconst ci_m1 d2_told_21 ?_
          obtain ⟨rfl, rfl⟩ := ret_some hf
          exact ev_iret rfl d2_told_22
    · refine ev_icmp_ge_Q (tgt := 21) c3 (by decide) d2_told_9 ?_
      refine ev_iconst ci_m1 d2_told_21 ?_
      obtain ⟨rfl, rfl⟩ := ret_some hf
      exact ev_iret rfl d2_told_22
abbrev m2_tell : MD := ("MillBoats$Drift", ⟨"MillBoats$Drift", "tell", "(IIII)V"⟩, prog_4_method_3_code, 6, (none : Option Jvm.ClassFile.FieldType))
theorem k2_tell : okY m2_tell.2.1 4 := ⟨by decide +kernel, by decide +kernel, by decide +kernel⟩
def f2_tell (σ : St) (v0 : Nat) (v1 : Int32) (v2 : Int32) (v3 : Int32) (v4 : Int32) : Option (Unit × St) :=
  gd (ob σ v0 2) (
  (if (sI σ v0 2) < (300 : Int32) then
  lt ((sI σ v0 2) * (5 : Int32)) fun y3 => (
  lt (sR σ v0 1) fun b5 => (
  gd (nz b5) (
  gd (ob σ b5 14) (
  gd (inb σ b5 y3) (
  lt (wI σ b5 (ix y3) (sI σ v0 3)) fun t10 => (
  gd (inb t10 b5 (y3 + (1 : Int32))) (
  lt (wI t10 b5 (ix (y3 + (1 : Int32))) v1) fun t13 => (
  gd (inb t13 b5 (y3 + (2 : Int32))) (
  lt (wI t13 b5 (ix (y3 + (2 : Int32))) v2) fun t16 => (
  gd (inb t16 b5 (y3 + (3 : Int32))) (
  lt (wI t16 b5 (ix (y3 + (3 : Int32))) v3) fun t19 => (
  gd (inb t19 b5 (y3 + (4 : Int32))) (
  lt (wI t19 b5 (ix (y3 + (4 : Int32))) v4) fun t22 => (
  lt (wI t22 v0 2 ((sI t22 v0 2) + (1 : Int32))) fun t24 => (
  some ((), t24))))))))))))))))
  else
  some ((), σ)))
set_option maxRecDepth 50000 in
theorem s2_tell : ∀ (σ : St) (v0 : Nat) (v1 : Int32) (v2 : Int32) (v3 : Int32) (v4 : Int32) (r : Unit) (τ : St), f2_tell σ v0 v1 v2 v3 v4 = some (r, τ) → Call 2 m2_tell [.ref v0, .int v1, .int v2, .int v3, .int v4] σ none τ := by
  intro σ v0 v1 v2 v3 v4 r τ hf
  unfold f2_tell at hf
  refine Call.of (by decide +kernel) rfl (Nat.le_of_ble_eq_true rfl) ?_
  refine ev_aload_n (j := 0) (i := 0) (q := 0) rfl rfl d2_tell_0 ?_
  obtain ⟨h1, hf⟩ := gd_some hf
  refine ev_getI cls2 (j := 2) (by decide) rfl w352 h1 d2_tell_1 ?_
  refine ev_sipush cs_300 d2_tell_4 ?_
  rcases ite_some hf with ⟨c2, hf⟩ | ⟨c2, hf⟩
  · refine ev_icmp_ge_P (tgt := 80) c2 (by decide) d2_tell_7 ?_
    refine ev_aload_n (j := 0) (i := 0) (q := 0) rfl rfl d2_tell_10 ?_
    refine ev_getI cls2 (j := 2) (by decide) rfl w352 h1 d2_tell_11 ?_
    refine ev_iconst ci_5 d2_tell_14 ?_
    refine ev_imul d2_tell_15 ?_
    obtain ⟨y3, e4, hf⟩ := lt_some hf
    refine ev_nmI e4 ?_
    refine ev_istore (lv2 := [(5, .int y3), (0, .ref v0), (1, .int v1), (2, .int v2), (3, .int v3), (4, .int v4)]) (i := 5) (by decide) rfl d2_tell_16 ?_
    refine ev_aload_n (j := 0) (i := 0) (q := 1) rfl rfl d2_tell_18 ?_
    obtain ⟨b5, e6, hf⟩ := lt_some hf
    obtain ⟨h7, hf⟩ := gd_some hf
    refine ev_getRb cls2 (j := 1) (by decide) rfl w351 h1 e6 (nz_ne h7) d2_tell_19 ?_
    refine ev_iload (i := 5) (q := 0) rfl d2_tell_22 ?_
    refine ev_aload_n (j := 0) (i := 0) (q := 1) rfl rfl d2_tell_24 ?_
    refine ev_getI cls2 (j := 3) (by decide) rfl w354 h1 d2_tell_25 ?_
    obtain ⟨h8, hf⟩ := gd_some hf
    obtain ⟨h9, hf⟩ := gd_some hf
    obtain ⟨t10, e11, hf⟩ := lt_some hf
    refine ev_iast h8 h9 d2_tell_28 (ev_nmS e11 ?_)
    refine ev_aload_n (j := 0) (i := 0) (q := 1) rfl rfl d2_tell_29 ?_
    refine ev_getRb cls2 (j := 1) (by decide) rfl w351 (mono_ob (mono_eI e11) h1) (tr_I e11 e6) (nz_ne h7) d2_tell_30 ?_
    refine ev_iload (i := 5) (q := 0) rfl d2_tell_33 ?_
    refine ev_iconst ci_1 d2_tell_35 ?_
    refine ev_iadd d2_tell_36 ?_
    refine ev_iload_n (j := 1) (i := 1) (q := 2) rfl rfl d2_tell_37 ?_
    obtain ⟨h12, hf⟩ := gd_some hf
    obtain ⟨t13, e14, hf⟩ := lt_some hf
    refine ev_iast (mono_ob (mono_eI e11) h8) h12 d2_tell_38 (ev_nmS e14 ?_)
    refine ev_aload_n (j := 0) (i := 0) (q := 1) rfl rfl d2_tell_39 ?_
    refine ev_getRb cls2 (j := 1) (by decide) rfl w351 (mono_ob (mono_eI e14) (mono_ob (mono_eI e11) h1)) (tr_I e14 (tr_I e11 e6)) (nz_ne h7) d2_tell_40 ?_
    refine ev_iload (i := 5) (q := 0) rfl d2_tell_43 ?_
    refine ev_iconst ci_2 d2_tell_45 ?_
    refine ev_iadd d2_tell_46 ?_
    refine ev_iload_n (j := 2) (i := 2) (q := 3) rfl rfl d2_tell_47 ?_
    obtain ⟨h15, hf⟩ := gd_some hf
    obtain ⟨t16, e17, hf⟩ := lt_some hf
    refine ev_iast (mono_ob (mono_eI e14) (mono_ob (mono_eI e11) h8)) h15 d2_tell_48 (ev_nmS e17 ?_)
    refine ev_aload_n (j := 0) (i := 0) (q := 1) rfl rfl d2_tell_49 ?_
    refine ev_getRb cls2 (j := 1) (by decide) rfl w351 (mono_ob (mono_eI e17) (mono_ob (mono_eI e14) (mono_ob (mono_eI e11) h1))) (tr_I e17 (tr_I e14 (tr_I e11 e6))) (nz_ne h7) d2_tell_50 ?_
    refine ev_iload (i := 5) (q := 0) rfl d2_tell_53 ?_
    refine ev_iconst ci_3 d2_tell_55 ?_
    refine ev_iadd d2_tell_56 ?_
    refine ev_iload_n (j := 3) (i := 3) (q := 4) rfl rfl d2_tell_57 ?_
    obtain ⟨h18, hf⟩ := gd_some hf
    obtain ⟨t19, e20, hf⟩ := lt_some hf
    refine ev_iast (mono_ob (mono_eI e17) (mono_ob (mono_eI e14) (mono_ob (mono_eI e11) h8))) h18 d2_tell_58 (ev_nmS e20 ?_)
    refine ev_aload_n (j := 0) (i := 0) (q := 1) rfl rfl d2_tell_59 ?_
    refine ev_getRb cls2 (j := 1) (by decide) rfl w351 (mono_ob (mono_eI e20) (mono_ob (mono_eI e17) (mono_ob (mono_eI e14) (mono_ob (mono_eI e11) h1)))) (tr_I e20 (tr_I e17 (tr_I e14 (tr_I e11 e6)))) (nz_ne h7) d2_tell_60 ?_
    refine ev_iload (i := 5) (q := 0) rfl d2_tell_63 ?_
    refine ev_iconst ci_4 d2_tell_65 ?_
    refine ev_iadd d2_tell_66 ?_
    refine ev_iload (i := 4) (q := 5) rfl d2_tell_67 ?_
    obtain ⟨h21, hf⟩ := gd_some hf
    obtain ⟨t22, e23, hf⟩ := lt_some hf
    refine ev_iast (mono_ob (mono_eI e20) (mono_ob (mono_eI e17) (mono_ob (mono_eI e14) (mono_ob (mono_eI e11) h8)))) h21 d2_tell_69 (ev_nmS e23 ?_)
    refine ev_aload_n (j := 0) (i := 0) (q := 1) rfl rfl d2_tell_70 ?_
    refine ev_dup rfl d2_tell_71 ?_
    refine ev_getI cls2 (j := 2) (by decide) rfl w352 (mono_ob (mono_eI e23) (mono_ob (mono_eI e20) (mono_ob (mono_eI e17) (mono_ob (mono_eI e14) (mono_ob (mono_eI e11) h1))))) d2_tell_72 ?_
    refine ev_iconst ci_1 d2_tell_75 ?_
    refine ev_iadd d2_tell_76 ?_
    obtain ⟨t24, e25, hf⟩ := lt_some hf
    refine ev_putI cls2 (j := 2) (by decide) rfl rfl w352 (mono_ob (mono_eI e23) (mono_ob (mono_eI e20) (mono_ob (mono_eI e17) (mono_ob (mono_eI e14) (mono_ob (mono_eI e11) h1))))) (fun _ => ⟨rfl, rfl⟩) d2_tell_77 (ev_nmS e25 ?_)
    obtain ⟨-, rfl⟩ := ret_some hf
    exact ev_vret rfl d2_tell_80
  · refine ev_icmp_ge_Q (tgt := 80) c2 (by decide) d2_tell_7 ?_
    obtain ⟨-, rfl⟩ := ret_some hf
    exact ev_vret rfl d2_tell_80
abbrev m11_stretchOf : MD := ("MillBoats", ⟨"MillBoats", "stretchOf", "(I)I"⟩, prog_1_method_45_code, 1, (some Jvm.ClassFile.FieldType.int))
theorem k11_stretchOf : okY m11_stretchOf.2.1 1 := ⟨by decide +kernel, by decide +kernel, by decide +kernel⟩
def f11_stretchOf (σ : St) (v0 : Int32) : Option (Int32 × St) :=
  some (v0 - v0 / (12 : Int32) * (12 : Int32), σ)
set_option maxRecDepth 50000 in
theorem s11_stretchOf : ∀ (σ : St) (v0 : Int32) (r : Int32) (τ : St), f11_stretchOf σ v0 = some (r, τ) → Call 2 m11_stretchOf [.int v0] σ (some (.int r)) τ := by
  intro σ v0 r τ hf
  unfold f11_stretchOf at hf
  refine Call.of (by decide +kernel) rfl (Nat.le_of_ble_eq_true rfl) ?_
  refine ev_iload_n (j := 0) (i := 0) (q := 0) rfl rfl d11_stretchOf_0 ?_
  refine ev_bipush cb_12 d11_stretchOf_1 ?_
  refine ev_irem (by decide) d11_stretchOf_3 ?_
  obtain ⟨rfl, rfl⟩ := ret_some hf
  exact ev_iret rfl d11_stretchOf_4
abbrev m11_isBerth : MD := ("MillBoats", ⟨"MillBoats", "isBerth", "(I)Z"⟩, prog_1_method_43_code, 1, (some Jvm.ClassFile.FieldType.boolean))
theorem k11_isBerth : okY m11_isBerth.2.1 1 := ⟨by decide +kernel, by decide +kernel, by decide +kernel⟩
def f11_isBerth (σ : St) (v0 : Int32) : Option (Int32 × St) :=
  (if v0 < (0 : Int32) then
  some ((0 : Int32), σ)
  else
  (if v0 < (72 : Int32) then
  some ((1 : Int32), σ)
  else
  some ((0 : Int32), σ)))
set_option maxRecDepth 50000 in
theorem s11_isBerth : ∀ (σ : St) (v0 : Int32) (r : Int32) (τ : St), f11_isBerth σ v0 = some (r, τ) → Call 2 m11_isBerth [.int v0] σ (some (.int r)) τ := by
  intro σ v0 r τ hf
  unfold f11_isBerth at hf
  refine Call.of (by decide +kernel) rfl (Nat.le_of_ble_eq_true rfl) ?_
  refine ev_iload_n (j := 0) (i := 0) (q := 0) rfl rfl d11_isBerth_0 ?_
  rcases ite_some hf with ⟨c1, hf⟩ | ⟨c1, hf⟩
  · refine ev_if_lt_P (tgt := 14) c1 (by decide) d11_isBerth_1 ?_
    refine ev_iconst ci_0 d11_isBerth_14 ?_
    obtain ⟨rfl, rfl⟩ := ret_some hf
    exact ev_zret rfl (by decide) d11_isBerth_15
  · refine ev_if_lt_Q (tgt := 14) c1 (by decide) d11_isBerth_1 ?_
    refine ev_iload_n (j := 0) (i := 0) (q := 0) rfl rfl d11_isBerth_4 ?_
    refine ev_bipush cb_72 d11_isBerth_5 ?_
    rcases ite_some hf with ⟨c2, hf⟩ | ⟨c2, hf⟩
    · refine ev_icmp_ge_P (tgt := 14) c2 (by decide) d11_isBerth_7 ?_
      refine ev_iconst ci_1 d11_isBerth_10 ?_
      refine ev_goto (tgt := 15) (by decide) d11_isBerth_11 ?_
      obtain ⟨rfl, rfl⟩ := ret_some hf
      exact ev_zret rfl (by decide) d11_isBerth_15
    · refine ev_icmp_ge_Q (tgt := 14) c2 (by decide) d11_isBerth_7 ?_
      refine ev_iconst ci_0 d11_isBerth_14 ?_
      obtain ⟨rfl, rfl⟩ := ret_some hf
      exact ev_zret rfl (by decide) d11_isBerth_15
abbrev m8_depth : MD := ("MillBoats$River", ⟨"MillBoats$River", "depth", "(II)I"⟩, prog_10_method_6_code, 4, (some Jvm.ClassFile.FieldType.int))
theorem k8_depth : okY m8_depth.2.1 2 := ⟨by decide +kernel, by decide +kernel, by decide +kernel⟩
def f8_depth (σ : St) (v0 : Nat) (v1 : Int32) (v2 : Int32) : Option (Int32 × St) :=
  gd (ob σ v0 8) (
  lt (sR σ v0 0) fun b2 => (
  gd (nz b2) (
  gd (ob σ b2 14) (
  gd (inb σ b2 v1) (
  lt (v2 - (sI σ b2 (ix v1))) fun y7 => (
  (if y7 < (0 : Int32) then
  some ((0 : Int32), σ)
  else
  some (y7, σ))))))))
set_option maxRecDepth 50000 in
theorem s8_depth : ∀ (σ : St) (v0 : Nat) (v1 : Int32) (v2 : Int32) (r : Int32) (τ : St), f8_depth σ v0 v1 v2 = some (r, τ) → Call 2 m8_depth [.ref v0, .int v1, .int v2] σ (some (.int r)) τ := by
  intro σ v0 v1 v2 r τ hf
  unfold f8_depth at hf
  refine Call.of (by decide +kernel) rfl (Nat.le_of_ble_eq_true rfl) ?_
  refine ev_iload_n (j := 2) (i := 2) (q := 2) rfl rfl d8_depth_0 ?_
  refine ev_aload_n (j := 0) (i := 0) (q := 0) rfl rfl d8_depth_1 ?_
  obtain ⟨h1, hf⟩ := gd_some hf
  obtain ⟨b2, e3, hf⟩ := lt_some hf
  obtain ⟨h4, hf⟩ := gd_some hf
  refine ev_getRb cls8 (j := 0) (by decide) rfl w103 h1 e3 (nz_ne h4) d8_depth_2 ?_
  refine ev_iload_n (j := 1) (i := 1) (q := 1) rfl rfl d8_depth_5 ?_
  obtain ⟨h5, hf⟩ := gd_some hf
  obtain ⟨h6, hf⟩ := gd_some hf
  refine ev_iald h5 h6 d8_depth_6 ?_
  refine ev_isub d8_depth_7 ?_
  obtain ⟨y7, e8, hf⟩ := lt_some hf
  refine ev_nmI e8 ?_
  refine ev_istore_n (lv2 := [(3, .int y7), (0, .ref v0), (1, .int v1), (2, .int v2)]) (j := 3) (i := 3) rfl (by decide) rfl d8_depth_8 ?_
  refine ev_iload_n (j := 3) (i := 3) (q := 0) rfl rfl d8_depth_9 ?_
  rcases ite_some hf with ⟨c9, hf⟩ | ⟨c9, hf⟩
  · refine ev_if_ge_P (tgt := 17) c9 (by decide) d8_depth_10 ?_
    refine ev_iconst ci_0 d8_depth_13 ?_
    refine ev_goto (tgt := 18) (by decide) d8_depth_14 ?_
    obtain ⟨rfl, rfl⟩ := ret_some hf
    exact ev_iret rfl d8_depth_18
  · refine ev_if_ge_Q (tgt := 17) c9 (by decide) d8_depth_10 ?_
    refine ev_iload_n (j := 3) (i := 3) (q := 0) rfl rfl d8_depth_17 ?_
    obtain ⟨rfl, rfl⟩ := ret_some hf
    exact ev_iret rfl d8_depth_18
abbrev m8_bears : MD := ("MillBoats$River", ⟨"MillBoats$River", "bears", "(III)Z"⟩, prog_10_method_7_code, 4, (some Jvm.ClassFile.FieldType.boolean))
theorem k8_bears : okY m8_bears.2.1 3 := ⟨by decide +kernel, by decide +kernel, by decide +kernel⟩
def f8_bears (σ : St) (v0 : Nat) (v1 : Int32) (v2 : Int32) (v3 : Int32) : Option (Int32 × St) :=
  gd (ob σ v0 8) (
  bd (f8_depth σ v0 v1 v3) fun r2 t3 => (
  lt (sR t3 v0 2) fun b6 => (
  gd (nz b6) (
  gd (ob t3 b6 17) (
  gd (inb t3 b6 v2) (
  lt (sR t3 b6 (ix v2)) fun b11 => (
  gd (nz b11) (
  gd (ob t3 b11 0) (
  (if r2 < (sI t3 b11 0) then
  some ((0 : Int32), t3)
  else
  some ((1 : Int32), t3)))))))))))
set_option maxRecDepth 50000 in
theorem s8_bears : ∀ (σ : St) (v0 : Nat) (v1 : Int32) (v2 : Int32) (v3 : Int32) (r : Int32) (τ : St), f8_bears σ v0 v1 v2 v3 = some (r, τ) → Call 3 m8_bears [.ref v0, .int v1, .int v2, .int v3] σ (some (.int r)) τ := by
  intro σ v0 v1 v2 v3 r τ hf
  unfold f8_bears at hf
  refine Call.of (by decide +kernel) rfl (Nat.le_of_ble_eq_true rfl) ?_
  refine ev_aload_n (j := 0) (i := 0) (q := 0) rfl rfl d8_bears_0 ?_
  refine ev_iload_n (j := 1) (i := 1) (q := 1) rfl rfl d8_bears_1 ?_
  refine ev_iload_n (j := 3) (i := 3) (q := 3) rfl rfl d8_bears_2 ?_
  obtain ⟨h1, hf⟩ := gd_some hf
  obtain ⟨r2, t3, k4, hf⟩ := bd_some hf
  have q5 := s8_depth _ _ _ _ _ _ k4
  refine ev_callV (vs := [.int v1, .int v3]) (sk := []) cls8 h1 q5 (by decide) (Nat.le_of_ble_eq_true rfl) w626 w627 w628 w2 w629 k8_depth rfl (Nat.le_of_ble_eq_true rfl) d8_bears_3 ?_
  refine ev_aload_n (j := 0) (i := 0) (q := 0) rfl rfl d8_bears_6 ?_
  obtain ⟨b6, e7, hf⟩ := lt_some hf
  obtain ⟨h8, hf⟩ := gd_some hf
  refine ev_getRb cls8 (j := 2) (by decide) rfl w108 (mono_ob q5.1 h1) e7 (nz_ne h8) d8_bears_7 ?_
  refine ev_iload_n (j := 2) (i := 2) (q := 2) rfl rfl d8_bears_10 ?_
  obtain ⟨h9, hf⟩ := gd_some hf
  obtain ⟨h10, hf⟩ := gd_some hf
  obtain ⟨b11, e12, hf⟩ := lt_some hf
  obtain ⟨h13, hf⟩ := gd_some hf
  refine ev_qaldb (kd := 17) (by decide) (by decide) rfl h9 h10 e12 (nz_ne h13) d8_bears_11 ?_
  obtain ⟨h14, hf⟩ := gd_some hf
  refine ev_getIN cls0 (j := 0) (by decide) rfl w65 h14 d8_bears_12 ?_
  rcases ite_some hf with ⟨c15, hf⟩ | ⟨c15, hf⟩
  · refine ev_icmp_lt_P (tgt := 22) c15 (by decide) d8_bears_15 ?_
    refine ev_iconst ci_0 d8_bears_22 ?_
    obtain ⟨rfl, rfl⟩ := ret_some hf
    exact ev_zret rfl (by decide) d8_bears_23
  · refine ev_icmp_lt_Q (tgt := 22) c15 (by decide) d8_bears_15 ?_
    refine ev_iconst ci_1 d8_bears_18 ?_
    refine ev_goto (tgt := 23) (by decide) d8_bears_19 ?_
    obtain ⟨rfl, rfl⟩ := ret_some hf
    exact ev_zret rfl (by decide) d8_bears_23
abbrev m11_laneOf : MD := ("MillBoats", ⟨"MillBoats", "laneOf", "(I)I"⟩, prog_1_method_44_code, 1, (some Jvm.ClassFile.FieldType.int))
theorem k11_laneOf : okY m11_laneOf.2.1 1 := ⟨by decide +kernel, by decide +kernel, by decide +kernel⟩
def f11_laneOf (σ : St) (v0 : Int32) : Option (Int32 × St) :=
  some (v0 / (12 : Int32), σ)
set_option maxRecDepth 50000 in
theorem s11_laneOf : ∀ (σ : St) (v0 : Int32) (r : Int32) (τ : St), f11_laneOf σ v0 = some (r, τ) → Call 2 m11_laneOf [.int v0] σ (some (.int r)) τ := by
  intro σ v0 r τ hf
  unfold f11_laneOf at hf
  refine Call.of (by decide +kernel) rfl (Nat.le_of_ble_eq_true rfl) ?_
  refine ev_iload_n (j := 0) (i := 0) (q := 0) rfl rfl d11_laneOf_0 ?_
  refine ev_bipush cb_12 d11_laneOf_1 ?_
  refine ev_idiv (by decide) d11_laneOf_3 ?_
  obtain ⟨rfl, rfl⟩ := ret_some hf
  exact ev_iret rfl d11_laneOf_4
abbrev m8_shadow : MD := ("MillBoats$River", ⟨"MillBoats$River", "shadow", "(IIII)I"⟩, prog_10_method_9_code, 5, (some Jvm.ClassFile.FieldType.int))
theorem k8_shadow : okY m8_shadow.2.1 4 := ⟨by decide +kernel, by decide +kernel, by decide +kernel⟩
def f8_shadow (σ : St) (v0 : Int32) (v1 : Int32) (v2 : Int32) (v3 : Int32) : Option (Int32 × St) :=
  lt (v3 - v2) fun y1 => (
  (if v2 < (0 : Int32) then
  some ((0 : Int32), σ)
  else
  bd (f11_laneOf σ v2) fun r4 t5 => (
  bd (f11_laneOf t5 v3) fun r8 t9 => (
  (if r4 = r8 then
  (if y1 < (1 : Int32) then
  some ((0 : Int32), t9)
  else
  (if y1 ≤ (3 : Int32) then
  some (((v0 * v1) * ((4 : Int32) - y1)) / (400 : Int32), t9)
  else
  some ((0 : Int32), t9)))
  else
  some ((0 : Int32), t9))))))
set_option maxRecDepth 50000 in
theorem s8_shadow : ∀ (σ : St) (v0 : Int32) (v1 : Int32) (v2 : Int32) (v3 : Int32) (r : Int32) (τ : St), f8_shadow σ v0 v1 v2 v3 = some (r, τ) → Call 3 m8_shadow [.int v0, .int v1, .int v2, .int v3] σ (some (.int r)) τ := by
  intro σ v0 v1 v2 v3 r τ hf
  unfold f8_shadow at hf
  refine Call.of (by decide +kernel) rfl (Nat.le_of_ble_eq_true rfl) ?_
  refine ev_iload_n (j := 3) (i := 3) (q := 3) rfl rfl d8_shadow_0 ?_
  refine ev_iload_n (j := 2) (i := 2) (q := 2) rfl rfl d8_shadow_1 ?_
  refine ev_isub d8_shadow_2 ?_
  obtain ⟨y1, e2, hf⟩ := lt_some hf
  refine ev_nmI e2 ?_
  refine ev_istore (lv2 := [(4, .int y1), (0, .int v0), (1, .int v1), (2, .int v2), (3, .int v3)]) (i := 4) (by decide) rfl d8_shadow_3 ?_
  refine ev_iload_n (j := 2) (i := 2) (q := 3) rfl rfl d8_shadow_5 ?_
  rcases ite_some hf with ⟨c3, hf⟩ | ⟨c3, hf⟩
  · refine ev_if_lt_P (tgt := 32) c3 (by decide) d8_shadow_6 ?_
    refine ev_iconst ci_0 d8_shadow_32 ?_
    obtain ⟨rfl, rfl⟩ := ret_some hf
    exact ev_iret rfl d8_shadow_33
  · refine ev_if_lt_Q (tgt := 32) c3 (by decide) d8_shadow_6 ?_
    refine ev_iload_n (j := 2) (i := 2) (q := 3) rfl rfl d8_shadow_9 ?_
    obtain ⟨r4, t5, k6, hf⟩ := bd_some hf
    have q7 := s11_laneOf _ _ _ _ k6
    refine ev_callSN (vs := [.int v2]) (sk := []) q7 (by decide) (Nat.le_of_ble_eq_true rfl) w606 w607 w1 w608 k11_laneOf rfl (Nat.le_of_ble_eq_true rfl) d8_shadow_10 ?_
    refine ev_iload_n (j := 3) (i := 3) (q := 4) rfl rfl d8_shadow_13 ?_
    obtain ⟨r8, t9, k10, hf⟩ := bd_some hf
    have q11 := s11_laneOf _ _ _ _ k10
    refine ev_callSN (vs := [.int v3]) (sk := [.int r4]) q11 (by decide) (Nat.le_of_ble_eq_true rfl) w606 w607 w1 w608 k11_laneOf rfl (Nat.le_of_ble_eq_true rfl) d8_shadow_14 ?_
    rcases ite_some hf with ⟨c12, hf⟩ | ⟨c12, hf⟩
    · refine ev_icmp_ne_P (tgt := 32) c12 (by decide) d8_shadow_17 ?_
      refine ev_iload (i := 4) (q := 0) rfl d8_shadow_20 ?_
      refine ev_iconst ci_1 d8_shadow_22 ?_
      rcases ite_some hf with ⟨c13, hf⟩ | ⟨c13, hf⟩
      · refine ev_icmp_lt_P (tgt := 32) c13 (by decide) d8_shadow_23 ?_
        refine ev_iconst ci_0 d8_shadow_32 ?_
        obtain ⟨rfl, rfl⟩ := ret_some hf
        exact ev_iret rfl d8_shadow_33
      · refine ev_icmp_lt_Q (tgt := 32) c13 (by decide) d8_shadow_23 ?_
        refine ev_iload (i := 4) (q := 0) rfl d8_shadow_26 ?_
        refine ev_iconst ci_3 d8_shadow_28 ?_
        rcases ite_some hf with ⟨c14, hf⟩ | ⟨c14, hf⟩
        · refine ev_icmp_le_P (tgt := 34) c14 (by decide) d8_shadow_29 ?_
          refine ev_iload_n (j := 0) (i := 0) (q := 1) rfl rfl d8_shadow_34 ?_
          refine ev_iload_n (j := 1) (i := 1) (q := 2) rfl rfl d8_shadow_35 ?_
          refine ev_imul d8_shadow_36 ?_
          refine ev_iconst ci_4 d8_shadow_37 ?_
          refine ev_iload (i := 4) (q := 0) rfl d8_shadow_38 ?_
          refine ev_isub d8_shadow_40 ?_
          refine ev_imul d8_shadow_41 ?_
          refine ev_sipush cs_400 d8_shadow_42 ?_
          refine ev_idiv (by decide) d8_shadow_45 ?_
          obtain ⟨rfl, rfl⟩ := ret_some hf
          exact ev_iret rfl d8_shadow_46
        · refine ev_icmp_le_Q (tgt := 34) c14 (by decide) d8_shadow_29 ?_
          refine ev_iconst ci_0 d8_shadow_32 ?_
          obtain ⟨rfl, rfl⟩ := ret_some hf
          exact ev_iret rfl d8_shadow_33
    · refine ev_icmp_ne_Q (tgt := 32) c12 (by decide) d8_shadow_17 ?_
      refine ev_iconst ci_0 d8_shadow_32 ?_
      obtain ⟨rfl, rfl⟩ := ret_some hf
      exact ev_iret rfl d8_shadow_33
abbrev mJ9_floorDiv_7cf53 : MD := ("java/lang/Math", ⟨"java/lang/Math", "floorDiv", "(II)I"⟩, prog_20_method_47_code, 3, (some Jvm.ClassFile.FieldType.int))
theorem kJ9_floorDiv_7cf53 : okY mJ9_floorDiv_7cf53.2.1 2 := ⟨by decide +kernel, by decide +kernel, by decide +kernel⟩
def fJ9_floorDiv_7cf53 (σ : St) (v0 : Int32) (v1 : Int32) : Option (Int32 × St) :=
  gd (nzI v1) (
  lt (v0 / v1) fun y2 => (
  (if (v0 ^^^ v1) < (0 : Int32) then
  (if (y2 * v1) = v0 then
  some (y2, σ)
  else
  some (y2 - (1 : Int32), σ))
  else
  some (y2, σ))))
set_option maxRecDepth 50000 in
theorem sJ9_floorDiv_7cf53 : ∀ (σ : St) (v0 : Int32) (v1 : Int32) (r : Int32) (τ : St), fJ9_floorDiv_7cf53 σ v0 v1 = some (r, τ) → Call 2 mJ9_floorDiv_7cf53 [.int v0, .int v1] σ (some (.int r)) τ := by
  intro σ v0 v1 r τ hf
  unfold fJ9_floorDiv_7cf53 at hf
  refine Call.of (by decide +kernel) rfl (Nat.le_of_ble_eq_true rfl) ?_
  refine ev_iload_n (j := 0) (i := 0) (q := 0) rfl rfl dJ9_floorDiv_7cf53_0 ?_
  refine ev_iload_n (j := 1) (i := 1) (q := 1) rfl rfl dJ9_floorDiv_7cf53_1 ?_
  obtain ⟨h1, hf⟩ := gd_some hf
  refine ev_idiv (nzI_ne h1) dJ9_floorDiv_7cf53_2 ?_
  obtain ⟨y2, e3, hf⟩ := lt_some hf
  refine ev_nmI e3 ?_
  refine ev_istore_n (lv2 := [(2, .int y2), (0, .int v0), (1, .int v1)]) (j := 2) (i := 2) rfl (by decide) rfl dJ9_floorDiv_7cf53_3 ?_
  refine ev_iload_n (j := 0) (i := 0) (q := 1) rfl rfl dJ9_floorDiv_7cf53_4 ?_
  refine ev_iload_n (j := 1) (i := 1) (q := 2) rfl rfl dJ9_floorDiv_7cf53_5 ?_
  refine ev_ixor dJ9_floorDiv_7cf53_6 ?_
  rcases ite_some hf with ⟨c4, hf⟩ | ⟨c4, hf⟩
  · refine ev_if_ge_P (tgt := 21) c4 (by decide) dJ9_floorDiv_7cf53_7 ?_
    refine ev_iload_n (j := 2) (i := 2) (q := 0) rfl rfl dJ9_floorDiv_7cf53_10 ?_
    refine ev_iload_n (j := 1) (i := 1) (q := 2) rfl rfl dJ9_floorDiv_7cf53_11 ?_
    refine ev_imul dJ9_floorDiv_7cf53_12 ?_
    refine ev_iload_n (j := 0) (i := 0) (q := 1) rfl rfl dJ9_floorDiv_7cf53_13 ?_
    rcases ite_some hf with ⟨c5, hf⟩ | ⟨c5, hf⟩
    · refine ev_icmp_eq_P (tgt := 21) c5 (by decide) dJ9_floorDiv_7cf53_14 ?_
      refine ev_iload_n (j := 2) (i := 2) (q := 0) rfl rfl dJ9_floorDiv_7cf53_21 ?_
      obtain ⟨rfl, rfl⟩ := ret_some hf
      exact ev_iret rfl dJ9_floorDiv_7cf53_22
    · refine ev_icmp_eq_Q (tgt := 21) c5 (by decide) dJ9_floorDiv_7cf53_14 ?_
      refine ev_iload_n (j := 2) (i := 2) (q := 0) rfl rfl dJ9_floorDiv_7cf53_17 ?_
      refine ev_iconst ci_1 dJ9_floorDiv_7cf53_18 ?_
      refine ev_isub dJ9_floorDiv_7cf53_19 ?_
      obtain ⟨rfl, rfl⟩ := ret_some hf
      exact ev_iret rfl dJ9_floorDiv_7cf53_20
  · refine ev_if_ge_Q (tgt := 21) c4 (by decide) dJ9_floorDiv_7cf53_7 ?_
    refine ev_iload_n (j := 2) (i := 2) (q := 0) rfl rfl dJ9_floorDiv_7cf53_21 ?_
    obtain ⟨rfl, rfl⟩ := ret_some hf
    exact ev_iret rfl dJ9_floorDiv_7cf53_22
abbrev m9_at : MD := ("MillBoats$Table", ⟨"MillBoats$Table", "at", "(I)I"⟩, prog_11_method_3_code, 5, (some Jvm.ClassFile.FieldType.int))
theorem k9_at : okY m9_at.2.1 1 := ⟨by decide +kernel, by decide +kernel, by decide +kernel⟩
def f9_at_p52 (σ : St) (v0 : Nat) (v1 : Int32) (v2 : Int32) : Option (Int32 × St) :=
  gd (ob σ v0 9) (
  (if v2 < (sI σ v0 2) then
  lt (sR σ v0 0) fun b26 => (
  gd (nz b26) (
  gd (ob σ b26 14) (
  gd (inb σ b26 v2) (
  gd (inb σ b26 (v2 - (1 : Int32))) (
  lt ((sI σ b26 (ix v2)) - (sI σ b26 (ix (v2 - (1 : Int32))))) fun y32 => (
  (if y32 ≤ (0 : Int32) then
  lt (sR σ v0 1) fun b35 => (
  gd (nz b35) (
  gd (ob σ b35 14) (
  gd (inb σ b35 v2) (
  some (sI σ b35 (ix v2), σ)))))
  else
  lt (sR σ v0 1) fun b40 => (
  gd (nz b40) (
  gd (ob σ b40 14) (
  gd (inb σ b40 v2) (
  gd (inb σ b40 (v2 - (1 : Int32))) (
  lt ((sI σ b40 (ix v2)) - (sI σ b40 (ix (v2 - (1 : Int32))))) fun y46 => (
  bd (fJ9_floorDiv_7cf53 σ (y46 * (v1 - (sI σ b26 (ix (v2 - (1 : Int32)))))) y32) fun r48 t49 => (
  some ((sI σ b40 (ix (v2 - (1 : Int32)))) + r48, t49)))))))))))))))
  else
  lt (sR σ v0 1) fun b52 => (
  gd (nz b52) (
  gd (ob σ b52 14) (
  gd (inb σ b52 ((sI σ v0 2) - (1 : Int32))) (
  some (sI σ b52 (ix ((sI σ v0 2) - (1 : Int32))), σ)))))))
set_option maxRecDepth 20000 in
theorem s9_at_p52 : ∀ (σ : St) (v0 : Nat) (v1 : Int32) (v2 : Int32) (r : Int32) (τ : St), f9_at_p52 σ v0 v1 v2 = some (r, τ) → Ev 3 m9_at 52 [(0, .ref v0), (1, .int v1), (2, .int v2)] [] σ (some (.int r)) τ := by
  intro σ v0 v1 v2 r τ hf
  unfold f9_at_p52 at hf
  refine ev_iload_n (j := 2) (i := 2) (q := 2) rfl rfl d9_at_52 ?_
  refine ev_aload_n (j := 0) (i := 0) (q := 0) rfl rfl d9_at_53 ?_
  obtain ⟨h24, hf⟩ := gd_some hf
  refine ev_getI cls9 (j := 2) (by decide) rfl w51 h24 d9_at_54 ?_
  rcases ite_some hf with ⟨c25, hf⟩ | ⟨c25, hf⟩
  · refine ev_icmp_lt_P (tgt := 72) c25 (by decide) d9_at_57 ?_
    refine ev_aload_n (j := 0) (i := 0) (q := 0) rfl rfl d9_at_72 ?_
    obtain ⟨b26, e27, hf⟩ := lt_some hf
    obtain ⟨h28, hf⟩ := gd_some hf
    refine ev_getRb cls9 (j := 0) (by decide) rfl w49 h24 e27 (nz_ne h28) d9_at_73 ?_
    refine ev_iload_n (j := 2) (i := 2) (q := 2) rfl rfl d9_at_76 ?_
    obtain ⟨h29, hf⟩ := gd_some hf
    obtain ⟨h30, hf⟩ := gd_some hf
    refine ev_iald h29 h30 d9_at_77 ?_
    refine ev_aload_n (j := 0) (i := 0) (q := 0) rfl rfl d9_at_78 ?_
    refine ev_getRb cls9 (j := 0) (by decide) rfl w49 h24 e27 (nz_ne h28) d9_at_79 ?_
    refine ev_iload_n (j := 2) (i := 2) (q := 2) rfl rfl d9_at_82 ?_
    refine ev_iconst ci_1 d9_at_83 ?_
    refine ev_isub d9_at_84 ?_
    obtain ⟨h31, hf⟩ := gd_some hf
    refine ev_iald h29 h31 d9_at_85 ?_
    refine ev_isub d9_at_86 ?_
    obtain ⟨y32, e33, hf⟩ := lt_some hf
    refine ev_nmI e33 ?_
    refine ev_istore_n (lv2 := [(3, .int y32), (0, .ref v0), (1, .int v1), (2, .int v2)]) (j := 3) (i := 3) rfl (by decide) rfl d9_at_87 ?_
    refine ev_iload_n (j := 3) (i := 3) (q := 0) rfl rfl d9_at_88 ?_
    rcases ite_some hf with ⟨c34, hf⟩ | ⟨c34, hf⟩
    · refine ev_if_gt_P (tgt := 99) c34 (by decide) d9_at_89 ?_
      refine ev_aload_n (j := 0) (i := 0) (q := 1) rfl rfl d9_at_92 ?_
      obtain ⟨b35, e36, hf⟩ := lt_some hf
      obtain ⟨h37, hf⟩ := gd_some hf
      refine ev_getRb cls9 (j := 1) (by decide) rfl w50 h24 e36 (nz_ne h37) d9_at_93 ?_
      refine ev_iload_n (j := 2) (i := 2) (q := 3) rfl rfl d9_at_96 ?_
      obtain ⟨h38, hf⟩ := gd_some hf
      obtain ⟨h39, hf⟩ := gd_some hf
      refine ev_iald h38 h39 d9_at_97 ?_
      obtain ⟨rfl, rfl⟩ := ret_some hf
      exact ev_iret rfl d9_at_98
    · refine ev_if_gt_Q (tgt := 99) c34 (by decide) d9_at_89 ?_
      refine ev_aload_n (j := 0) (i := 0) (q := 1) rfl rfl d9_at_99 ?_
      obtain ⟨b40, e41, hf⟩ := lt_some hf
      obtain ⟨h42, hf⟩ := gd_some hf
      refine ev_getRb cls9 (j := 1) (by decide) rfl w50 h24 e41 (nz_ne h42) d9_at_100 ?_
      refine ev_iload_n (j := 2) (i := 2) (q := 3) rfl rfl d9_at_103 ?_
      obtain ⟨h43, hf⟩ := gd_some hf
      obtain ⟨h44, hf⟩ := gd_some hf
      refine ev_iald h43 h44 d9_at_104 ?_
      refine ev_aload_n (j := 0) (i := 0) (q := 1) rfl rfl d9_at_105 ?_
      refine ev_getRb cls9 (j := 1) (by decide) rfl w50 h24 e41 (nz_ne h42) d9_at_106 ?_
      refine ev_iload_n (j := 2) (i := 2) (q := 3) rfl rfl d9_at_109 ?_
      refine ev_iconst ci_1 d9_at_110 ?_
      refine ev_isub d9_at_111 ?_
      obtain ⟨h45, hf⟩ := gd_some hf
      refine ev_iald h43 h45 d9_at_112 ?_
      refine ev_isub d9_at_113 ?_
      obtain ⟨y46, e47, hf⟩ := lt_some hf
      refine ev_nmI e47 ?_
      refine ev_istore (lv2 := [(4, .int y46), (3, .int y32), (0, .ref v0), (1, .int v1), (2, .int v2)]) (i := 4) (by decide) rfl d9_at_114 ?_
      refine ev_aload_n (j := 0) (i := 0) (q := 2) rfl rfl d9_at_116 ?_
      refine ev_getRb cls9 (j := 1) (by decide) rfl w50 h24 e41 (nz_ne h42) d9_at_117 ?_
      refine ev_iload_n (j := 2) (i := 2) (q := 4) rfl rfl d9_at_120 ?_
      refine ev_iconst ci_1 d9_at_121 ?_
      refine ev_isub d9_at_122 ?_
      refine ev_iald h43 h45 d9_at_123 ?_
      refine ev_iload (i := 4) (q := 0) rfl d9_at_124 ?_
      refine ev_iload_n (j := 1) (i := 1) (q := 3) rfl rfl d9_at_126 ?_
      refine ev_aload_n (j := 0) (i := 0) (q := 2) rfl rfl d9_at_127 ?_
      refine ev_getRb cls9 (j := 0) (by decide) rfl w49 h24 e27 (nz_ne h28) d9_at_128 ?_
      refine ev_iload_n (j := 2) (i := 2) (q := 4) rfl rfl d9_at_131 ?_
      refine ev_iconst ci_1 d9_at_132 ?_
      refine ev_isub d9_at_133 ?_
      refine ev_iald h29 h31 d9_at_134 ?_
      refine ev_isub d9_at_135 ?_
      refine ev_imul d9_at_136 ?_
      refine ev_iload_n (j := 3) (i := 3) (q := 1) rfl rfl d9_at_137 ?_
      obtain ⟨r48, t49, k50, hf⟩ := bd_some hf
      have q51 := sJ9_floorDiv_7cf53 _ _ _ _ _ k50
      refine ev_callS (vs := [.int (y46 * (v1 - (sI σ b26 (ix (v2 - (1 : Int32)))))), .int y32]) (sk := [.int (sI σ b40 (ix (v2 - (1 : Int32))))]) q51 (by decide) (Nat.le_of_ble_eq_true rfl) w561 w562 w8 w563 kJ9_floorDiv_7cf53 rfl (Nat.le_of_ble_eq_true rfl) d9_at_138 ?_
      refine ev_iadd d9_at_141 ?_
      obtain ⟨rfl, rfl⟩ := ret_some hf
      exact ev_iret rfl d9_at_142
  · refine ev_icmp_lt_Q (tgt := 72) c25 (by decide) d9_at_57 ?_
    refine ev_aload_n (j := 0) (i := 0) (q := 0) rfl rfl d9_at_60 ?_
    obtain ⟨b52, e53, hf⟩ := lt_some hf
    obtain ⟨h54, hf⟩ := gd_some hf
    refine ev_getRb cls9 (j := 1) (by decide) rfl w50 h24 e53 (nz_ne h54) d9_at_61 ?_
    refine ev_aload_n (j := 0) (i := 0) (q := 0) rfl rfl d9_at_64 ?_
    refine ev_getI cls9 (j := 2) (by decide) rfl w51 h24 d9_at_65 ?_
    refine ev_iconst ci_1 d9_at_68 ?_
    refine ev_isub d9_at_69 ?_
    obtain ⟨h55, hf⟩ := gd_some hf
    obtain ⟨h56, hf⟩ := gd_some hf
    refine ev_iald h55 h56 d9_at_70 ?_
    obtain ⟨rfl, rfl⟩ := ret_some hf
    exact ev_iret rfl d9_at_71
def f9_at_p28 : Nat → St → Nat → Int32 → Int32 → Option (Int32 × St)
  | 0, _, _, _, _ => none
  | n + 1, σ, v0, v1, v2 =>
  gd (ob σ v0 9) (
  (if v2 < (sI σ v0 2) then
  lt (sR σ v0 0) fun b16 => (
  gd (nz b16) (
  gd (ob σ b16 14) (
  gd (inb σ b16 v2) (
  (if (sI σ b16 (ix v2)) < v1 then
  lt (v2 + (1 : Int32)) fun y22 => (
  (f9_at_p28 n) σ v0 v1 y22)
  else
  f9_at_p52 σ v0 v1 v2)))))
  else
  f9_at_p52 σ v0 v1 v2))
set_option maxRecDepth 20000 in
theorem s9_at_p28 : ∀ (n : Nat) (σ : St) (v0 : Nat) (v1 : Int32) (v2 : Int32) (r : Int32) (τ : St), f9_at_p28 n σ v0 v1 v2 = some (r, τ) → Ev 3 m9_at 28 [(0, .ref v0), (1, .int v1), (2, .int v2)] [] σ (some (.int r)) τ := by
  intro n
  induction n with
  | zero =>
    intro σ v0 v1 v2 r τ hf
    cases hf
  | succ n ih =>
    intro σ v0 v1 v2 r τ hf
    rw [f9_at_p28] at hf
    refine ev_iload_n (j := 2) (i := 2) (q := 2) rfl rfl d9_at_28 ?_
    refine ev_aload_n (j := 0) (i := 0) (q := 0) rfl rfl d9_at_29 ?_
    obtain ⟨h14, hf⟩ := gd_some hf
    refine ev_getI cls9 (j := 2) (by decide) rfl w51 h14 d9_at_30 ?_
    rcases ite_some hf with ⟨c15, hf⟩ | ⟨c15, hf⟩
    · refine ev_icmp_ge_P (tgt := 52) c15 (by decide) d9_at_33 ?_
      refine ev_aload_n (j := 0) (i := 0) (q := 0) rfl rfl d9_at_36 ?_
      obtain ⟨b16, e17, hf⟩ := lt_some hf
      obtain ⟨h18, hf⟩ := gd_some hf
      refine ev_getRb cls9 (j := 0) (by decide) rfl w49 h14 e17 (nz_ne h18) d9_at_37 ?_
      refine ev_iload_n (j := 2) (i := 2) (q := 2) rfl rfl d9_at_40 ?_
      obtain ⟨h19, hf⟩ := gd_some hf
      obtain ⟨h20, hf⟩ := gd_some hf
      refine ev_iald h19 h20 d9_at_41 ?_
      refine ev_iload_n (j := 1) (i := 1) (q := 1) rfl rfl d9_at_42 ?_
      rcases ite_some hf with ⟨c21, hf⟩ | ⟨c21, hf⟩
      · refine ev_icmp_ge_P (tgt := 52) c21 (by decide) d9_at_43 ?_
        obtain ⟨y22, e23, hf⟩ := lt_some hf
        refine ev_iinc (lv2 := [(2, .int y22), (0, .ref v0), (1, .int v1)]) (i := 2) (q := 2) (v := y22) (n := 1) rfl (by rw [ci_1]; exact e23.symm) (by decide) rfl d9_at_46 ?_
        refine ev_goto (tgt := 28) (by decide) d9_at_49 ?_
        exact Ev.sub [1, 2, 0] rfl (ih _ _ _ _ _ _ hf)
      · refine ev_icmp_ge_Q (tgt := 52) c21 (by decide) d9_at_43 ?_
        exact Ev.sub [0, 1, 2] rfl (s9_at_p52 _ _ _ _ _ _ hf)
    · refine ev_icmp_ge_Q (tgt := 52) c15 (by decide) d9_at_33 ?_
      exact Ev.sub [0, 1, 2] rfl (s9_at_p52 _ _ _ _ _ _ hf)
def f9_at (σ : St) (v0 : Nat) (v1 : Int32) : Option (Int32 × St) :=
  gd (ob σ v0 9) (
  (if (sI σ v0 2) = (0 : Int32) then
  some ((0 : Int32), σ)
  else
  lt (sR σ v0 0) fun b3 => (
  gd (nz b3) (
  gd (ob σ b3 14) (
  gd (inb σ b3 (0 : Int32)) (
  (if v1 ≤ (sI σ b3 (ix (0 : Int32))) then
  lt (sR σ v0 1) fun b9 => (
  gd (nz b9) (
  gd (ob σ b9 14) (
  gd (inb σ b9 (0 : Int32)) (
  some (sI σ b9 (ix (0 : Int32)), σ)))))
  else
  f9_at_p28 FU σ v0 v1 (1 : Int32))))))))
set_option maxRecDepth 50000 in
theorem s9_at : ∀ (σ : St) (v0 : Nat) (v1 : Int32) (r : Int32) (τ : St), f9_at σ v0 v1 = some (r, τ) → Call 3 m9_at [.ref v0, .int v1] σ (some (.int r)) τ := by
  intro σ v0 v1 r τ hf
  unfold f9_at at hf
  refine Call.of (by decide +kernel) rfl (Nat.le_of_ble_eq_true rfl) ?_
  refine ev_aload_n (j := 0) (i := 0) (q := 0) rfl rfl d9_at_0 ?_
  obtain ⟨h1, hf⟩ := gd_some hf
  refine ev_getI cls9 (j := 2) (by decide) rfl w51 h1 d9_at_1 ?_
  rcases ite_some hf with ⟨c2, hf⟩ | ⟨c2, hf⟩
  · refine ev_if_ne_P (tgt := 9) c2 (by decide) d9_at_4 ?_
    refine ev_iconst ci_0 d9_at_7 ?_
    obtain ⟨rfl, rfl⟩ := ret_some hf
    exact ev_iret rfl d9_at_8
  · refine ev_if_ne_Q (tgt := 9) c2 (by decide) d9_at_4 ?_
    refine ev_iload_n (j := 1) (i := 1) (q := 1) rfl rfl d9_at_9 ?_
    refine ev_aload_n (j := 0) (i := 0) (q := 0) rfl rfl d9_at_10 ?_
    obtain ⟨b3, e4, hf⟩ := lt_some hf
    obtain ⟨h5, hf⟩ := gd_some hf
    refine ev_getRb cls9 (j := 0) (by decide) rfl w49 h1 e4 (nz_ne h5) d9_at_11 ?_
    refine ev_iconst ci_0 d9_at_14 ?_
    obtain ⟨h6, hf⟩ := gd_some hf
    obtain ⟨h7, hf⟩ := gd_some hf
    refine ev_iald h6 h7 d9_at_15 ?_
    rcases ite_some hf with ⟨c8, hf⟩ | ⟨c8, hf⟩
    · refine ev_icmp_gt_P (tgt := 26) c8 (by decide) d9_at_16 ?_
      refine ev_aload_n (j := 0) (i := 0) (q := 0) rfl rfl d9_at_19 ?_
      obtain ⟨b9, e10, hf⟩ := lt_some hf
      obtain ⟨h11, hf⟩ := gd_some hf
      refine ev_getRb cls9 (j := 1) (by decide) rfl w50 h1 e10 (nz_ne h11) d9_at_20 ?_
      refine ev_iconst ci_0 d9_at_23 ?_
      obtain ⟨h12, hf⟩ := gd_some hf
      obtain ⟨h13, hf⟩ := gd_some hf
      refine ev_iald h12 h13 d9_at_24 ?_
      obtain ⟨rfl, rfl⟩ := ret_some hf
      exact ev_iret rfl d9_at_25
    · refine ev_icmp_gt_Q (tgt := 26) c8 (by decide) d9_at_16 ?_
      refine ev_iconst ci_1 d9_at_26 ?_
      refine ev_istore_n (lv2 := [(2, .int (1 : Int32)), (0, .ref v0), (1, .int v1)]) (j := 2) (i := 2) rfl (by decide) rfl d9_at_27 ?_
      exact Ev.sub [1, 2, 0] rfl (s9_at_p28 FU _ _ _ _ _ _ hf)
abbrev m8_flowMet : MD := ("MillBoats$River", ⟨"MillBoats$River", "flowMet", "(I[II)I"⟩, prog_10_method_8_code, 8, (some Jvm.ClassFile.FieldType.int))
theorem k8_flowMet : okY m8_flowMet.2.1 3 := ⟨by decide +kernel, by decide +kernel, by decide +kernel⟩
def f8_flowMet_p38 : Nat → St → Nat → Nat → Int32 → Int32 → Int32 → Int32 → Option (Int32 × St)
  | 0, _, _, _, _, _, _, _ => none
  | n + 1, σ, v0, v2, v4, v5, v6, v7 =>
  gd (ob σ v0 8) (
  (if v7 < (sI σ v0 5) then
  lt (sR σ v0 2) fun b30 => (
  gd (nz b30) (
  gd (ob σ b30 17) (
  gd (inb σ b30 v7) (
  lt (sR σ b30 (ix v7)) fun b35 => (
  gd (nz b35) (
  gd (ob σ b35 0) (
  gd (ob σ v2 14) (
  gd (inb σ v2 v7) (
  bd (f8_shadow σ v5 (sI σ b35 1) (sI σ v2 (ix v7)) v4) fun r41 t42 => (
  lt (v6 - r41) fun y45 => (
  lt (v7 + (1 : Int32)) fun y47 => (
  (f8_flowMet_p38 n) t42 v0 v2 v4 v5 y45 y47))))))))))))
  else
  bd (fJ9_max_7cf53 σ (0 : Int32) v6) fun r49 t50 => (
  some (r49, t50))))
set_option maxRecDepth 20000 in
theorem s8_flowMet_p38 : ∀ (n : Nat) (σ : St) (v0 : Nat) (v2 : Nat) (v4 : Int32) (v5 : Int32) (v6 : Int32) (v7 : Int32) (r : Int32) (τ : St), f8_flowMet_p38 n σ v0 v2 v4 v5 v6 v7 = some (r, τ) → Ev 4 m8_flowMet 38 [(0, .ref v0), (2, .ref v2), (4, .int v4), (5, .int v5), (6, .int v6), (7, .int v7)] [] σ (some (.int r)) τ := by
  intro n
  induction n with
  | zero =>
    intro σ v0 v2 v4 v5 v6 v7 r τ hf
    cases hf
  | succ n ih =>
    intro σ v0 v2 v4 v5 v6 v7 r τ hf
    rw [f8_flowMet_p38] at hf
    refine ev_iload (i := 7) (q := 5) rfl d8_flowMet_38 ?_
    refine ev_aload_n (j := 0) (i := 0) (q := 0) rfl rfl d8_flowMet_40 ?_
    obtain ⟨h28, hf⟩ := gd_some hf
    refine ev_getI cls8 (j := 5) (by decide) rfl w121 h28 d8_flowMet_41 ?_
    rcases ite_some hf with ⟨c29, hf⟩ | ⟨c29, hf⟩
    · refine ev_icmp_ge_P (tgt := 79) c29 (by decide) d8_flowMet_44 ?_
      refine ev_iload (i := 6) (q := 4) rfl d8_flowMet_47 ?_
      refine ev_iload (i := 5) (q := 3) rfl d8_flowMet_49 ?_
      refine ev_aload_n (j := 0) (i := 0) (q := 0) rfl rfl d8_flowMet_51 ?_
      obtain ⟨b30, e31, hf⟩ := lt_some hf
      obtain ⟨h32, hf⟩ := gd_some hf
      refine ev_getRb cls8 (j := 2) (by decide) rfl w108 h28 e31 (nz_ne h32) d8_flowMet_52 ?_
      refine ev_iload (i := 7) (q := 5) rfl d8_flowMet_55 ?_
      obtain ⟨h33, hf⟩ := gd_some hf
      obtain ⟨h34, hf⟩ := gd_some hf
      obtain ⟨b35, e36, hf⟩ := lt_some hf
      obtain ⟨h37, hf⟩ := gd_some hf
      refine ev_qaldb (kd := 17) (by decide) (by decide) rfl h33 h34 e36 (nz_ne h37) d8_flowMet_57 ?_
      obtain ⟨h38, hf⟩ := gd_some hf
      refine ev_getIN cls0 (j := 1) (by decide) rfl w68 h38 d8_flowMet_58 ?_
      refine ev_aload_n (j := 2) (i := 2) (q := 1) rfl rfl d8_flowMet_61 ?_
      refine ev_iload (i := 7) (q := 5) rfl d8_flowMet_62 ?_
      obtain ⟨h39, hf⟩ := gd_some hf
      obtain ⟨h40, hf⟩ := gd_some hf
      refine ev_iald h39 h40 d8_flowMet_64 ?_
      refine ev_iload (i := 4) (q := 2) rfl d8_flowMet_65 ?_
      obtain ⟨r41, t42, k43, hf⟩ := bd_some hf
      have q44 := s8_shadow _ _ _ _ _ _ _ k43
      refine ev_callS (vs := [.int v5, .int (sI σ b35 1), .int (sI σ v2 (ix v7)), .int v4]) (sk := [.int v6]) q44 (by decide) (Nat.le_of_ble_eq_true rfl) w610 w611 w2 w612 k8_shadow rfl (Nat.le_of_ble_eq_true rfl) d8_flowMet_67 ?_
      refine ev_isub d8_flowMet_70 ?_
      obtain ⟨y45, e46, hf⟩ := lt_some hf
      refine ev_nmI e46 ?_
      refine ev_istore (lv2 := [(6, .int y45), (0, .ref v0), (2, .ref v2), (4, .int v4), (5, .int v5), (7, .int v7)]) (i := 6) (by decide) rfl d8_flowMet_71 ?_
      obtain ⟨y47, e48, hf⟩ := lt_some hf
      refine ev_iinc (lv2 := [(7, .int y47), (6, .int y45), (0, .ref v0), (2, .ref v2), (4, .int v4), (5, .int v5)]) (i := 7) (q := 5) (v := y47) (n := 1) rfl (by rw [ci_1]; exact e48.symm) (by decide) rfl d8_flowMet_73 ?_
      refine ev_goto (tgt := 38) (by decide) d8_flowMet_76 ?_
      exact Ev.sub [2, 3, 4, 5, 1, 0] rfl (ih _ _ _ _ _ _ _ _ _ hf)
    · refine ev_icmp_ge_Q (tgt := 79) c29 (by decide) d8_flowMet_44 ?_
      refine ev_iconst ci_0 d8_flowMet_79 ?_
      refine ev_iload (i := 6) (q := 4) rfl d8_flowMet_80 ?_
      obtain ⟨r49, t50, k51, hf⟩ := bd_some hf
      have q52 := sJ9_max_7cf53 _ _ _ _ _ k51
      refine ev_callS (vs := [.int (0 : Int32), .int v6]) (sk := []) q52 (by decide) (Nat.le_of_ble_eq_true rfl) w613 w152 w8 w153 kJ9_max_7cf53 rfl (Nat.le_of_ble_eq_true rfl) d8_flowMet_82 ?_
      obtain ⟨rfl, rfl⟩ := ret_some hf
      exact ev_iret rfl d8_flowMet_85
def f8_flowMet (σ : St) (v0 : Nat) (v1 : Int32) (v2 : Nat) (v3 : Int32) : Option (Int32 × St) :=
  gd (ob σ v2 14) (
  gd (inb σ v2 v1) (
  lt (sI σ v2 (ix v1)) fun y3 => (
  bd (f11_isBerth σ y3) fun r5 t6 => (
  (if r5 = (0 : Int32) then
  some ((0 : Int32), t6)
  else
  gd (ob t6 v0 8) (
  lt (sR t6 v0 1) fun b11 => (
  gd (nz b11) (
  bd (f11_laneOf t6 y3) fun r14 t15 => (
  gd (ob t15 b11 19) (
  gd (inb t15 b11 r14) (
  lt (sR t15 b11 (ix r14)) fun b20 => (
  gd (nz b20) (
  gd (ob t15 b20 9) (
  bd (f9_at t15 b20 v3) fun r24 t25 => (
  f8_flowMet_p38 FU t25 v0 v2 y3 r24 r24 (0 : Int32))))))))))))))))
set_option maxRecDepth 50000 in
theorem s8_flowMet : ∀ (σ : St) (v0 : Nat) (v1 : Int32) (v2 : Nat) (v3 : Int32) (r : Int32) (τ : St), f8_flowMet σ v0 v1 v2 v3 = some (r, τ) → Call 4 m8_flowMet [.ref v0, .int v1, .ref v2, .int v3] σ (some (.int r)) τ := by
  intro σ v0 v1 v2 v3 r τ hf
  unfold f8_flowMet at hf
  refine Call.of (by decide +kernel) rfl (Nat.le_of_ble_eq_true rfl) ?_
  refine ev_aload_n (j := 2) (i := 2) (q := 2) rfl rfl d8_flowMet_0 ?_
  refine ev_iload_n (j := 1) (i := 1) (q := 1) rfl rfl d8_flowMet_1 ?_
  obtain ⟨h1, hf⟩ := gd_some hf
  obtain ⟨h2, hf⟩ := gd_some hf
  refine ev_iald h1 h2 d8_flowMet_2 ?_
  obtain ⟨y3, e4, hf⟩ := lt_some hf
  refine ev_nmI e4 ?_
  refine ev_istore (lv2 := [(4, .int y3), (0, .ref v0), (1, .int v1), (2, .ref v2), (3, .int v3)]) (i := 4) (by decide) rfl d8_flowMet_3 ?_
  refine ev_iload (i := 4) (q := 0) rfl d8_flowMet_5 ?_
  obtain ⟨r5, t6, k7, hf⟩ := bd_some hf
  have q8 := s11_isBerth _ _ _ _ k7
  refine ev_callSN (vs := [.int y3]) (sk := []) q8 (by decide) (Nat.le_of_ble_eq_true rfl) w605 w540 w1 w541 k11_isBerth rfl (Nat.le_of_ble_eq_true rfl) d8_flowMet_7 ?_
  rcases ite_some hf with ⟨c9, hf⟩ | ⟨c9, hf⟩
  · refine ev_if_ne_P (tgt := 15) c9 (by decide) d8_flowMet_10 ?_
    refine ev_iconst ci_0 d8_flowMet_13 ?_
    obtain ⟨rfl, rfl⟩ := ret_some hf
    exact ev_iret rfl d8_flowMet_14
  · refine ev_if_ne_Q (tgt := 15) c9 (by decide) d8_flowMet_10 ?_
    refine ev_aload_n (j := 0) (i := 0) (q := 1) rfl rfl d8_flowMet_15 ?_
    obtain ⟨h10, hf⟩ := gd_some hf
    obtain ⟨b11, e12, hf⟩ := lt_some hf
    obtain ⟨h13, hf⟩ := gd_some hf
    refine ev_getRb cls8 (j := 1) (by decide) rfl w105 h10 e12 (nz_ne h13) d8_flowMet_16 ?_
    refine ev_iload (i := 4) (q := 0) rfl d8_flowMet_19 ?_
    obtain ⟨r14, t15, k16, hf⟩ := bd_some hf
    have q17 := s11_laneOf _ _ _ _ k16
    refine ev_callSN (vs := [.int y3]) (sk := [.ref b11]) q17 (by decide) (Nat.le_of_ble_eq_true rfl) w606 w607 w1 w608 k11_laneOf rfl (Nat.le_of_ble_eq_true rfl) d8_flowMet_21 ?_
    obtain ⟨h18, hf⟩ := gd_some hf
    obtain ⟨h19, hf⟩ := gd_some hf
    obtain ⟨b20, e21, hf⟩ := lt_some hf
    obtain ⟨h22, hf⟩ := gd_some hf
    refine ev_qaldb (kd := 19) (by decide) (by decide) rfl h18 h19 e21 (nz_ne h22) d8_flowMet_24 ?_
    refine ev_iload_n (j := 3) (i := 3) (q := 4) rfl rfl d8_flowMet_25 ?_
    obtain ⟨h23, hf⟩ := gd_some hf
    obtain ⟨r24, t25, k26, hf⟩ := bd_some hf
    have q27 := s9_at _ _ _ _ _ k26
    refine ev_callV (vs := [.int v3]) (sk := []) cls9 h23 q27 (by decide) (Nat.le_of_ble_eq_true rfl) w609 w558 w559 w3 w560 k9_at rfl (Nat.le_of_ble_eq_true rfl) d8_flowMet_26 ?_
    refine ev_istore (lv2 := [(5, .int r24), (4, .int y3), (0, .ref v0), (1, .int v1), (2, .ref v2), (3, .int v3)]) (i := 5) (by decide) rfl d8_flowMet_29 ?_
    refine ev_iload (i := 5) (q := 0) rfl d8_flowMet_31 ?_
    refine ev_istore (lv2 := [(6, .int r24), (5, .int r24), (4, .int y3), (0, .ref v0), (1, .int v1), (2, .ref v2), (3, .int v3)]) (i := 6) (by decide) rfl d8_flowMet_33 ?_
    refine ev_iconst ci_0 d8_flowMet_35 ?_
    refine ev_istore (lv2 := [(7, .int (0 : Int32)), (6, .int r24), (5, .int r24), (4, .int y3), (0, .ref v0), (1, .int v1), (2, .ref v2), (3, .int v3)]) (i := 7) (by decide) rfl d8_flowMet_36 ?_
    exact Ev.sub [4, 6, 3, 2, 1, 0] rfl (s8_flowMet_p38 FU _ _ _ _ _ _ _ _ _ hf)
abbrev m8_pullBorne : MD := ("MillBoats$River", ⟨"MillBoats$River", "pullBorne", "(I[IIZ)I"⟩, prog_10_method_13_code, 6, (some Jvm.ClassFile.FieldType.int))
theorem k8_pullBorne : okY m8_pullBorne.2.1 4 := ⟨by decide +kernel, by decide +kernel, by decide +kernel⟩
def f8_pullBorne (σ : St) (v0 : Nat) (v1 : Int32) (v2 : Nat) (v3 : Int32) (v4 : Int32) : Option (Int32 × St) :=
  gd (ob σ v2 14) (
  gd (inb σ v2 v1) (
  bd (f11_isBerth σ (sI σ v2 (ix v1))) fun r3 t4 => (
  (if r3 = (0 : Int32) then
  some ((0 : Int32), t4)
  else
  gd (ob t4 v0 8) (
  bd (f8_bears t4 v0 (sI t4 v2 (ix v1)) v1 v3) fun r9 t10 => (
  (if r9 = (0 : Int32) then
  some ((0 : Int32), t10)
  else
  bd (f8_flowMet t10 v0 v1 v2 v3) fun r14 t15 => (
  lt (sR t15 v0 2) fun b18 => (
  gd (nz b18) (
  gd (ob t15 b18 17) (
  gd (inb t15 b18 v1) (
  lt (sR t15 b18 (ix v1)) fun b23 => (
  gd (nz b23) (
  gd (ob t15 b23 0) (
  lt ((r14 * ((20 : Int32) + (sI t15 b23 1))) / (20 : Int32)) fun y27 => (
  (if v4 = (0 : Int32) then
  some (y27, t15)
  else
  some ((2 : Int32) * y27, t15))))))))))))))))))
set_option maxRecDepth 50000 in
theorem s8_pullBorne : ∀ (σ : St) (v0 : Nat) (v1 : Int32) (v2 : Nat) (v3 : Int32) (v4 : Int32) (r : Int32) (τ : St), f8_pullBorne σ v0 v1 v2 v3 v4 = some (r, τ) → Call 5 m8_pullBorne [.ref v0, .int v1, .ref v2, .int v3, .int v4] σ (some (.int r)) τ := by
  intro σ v0 v1 v2 v3 v4 r τ hf
  unfold f8_pullBorne at hf
  refine Call.of (by decide +kernel) rfl (Nat.le_of_ble_eq_true rfl) ?_
  refine ev_aload_n (j := 2) (i := 2) (q := 2) rfl rfl d8_pullBorne_0 ?_
  refine ev_iload_n (j := 1) (i := 1) (q := 1) rfl rfl d8_pullBorne_1 ?_
  obtain ⟨h1, hf⟩ := gd_some hf
  obtain ⟨h2, hf⟩ := gd_some hf
  refine ev_iald h1 h2 d8_pullBorne_2 ?_
  obtain ⟨r3, t4, k5, hf⟩ := bd_some hf
  have q6 := s11_isBerth _ _ _ _ k5
  refine ev_callSN (vs := [.int (sI σ v2 (ix v1))]) (sk := []) q6 (by decide) (Nat.le_of_ble_eq_true rfl) w605 w540 w1 w541 k11_isBerth rfl (Nat.le_of_ble_eq_true rfl) d8_pullBorne_3 ?_
  rcases ite_some hf with ⟨c7, hf⟩ | ⟨c7, hf⟩
  · refine ev_if_eq_P (tgt := 21) c7 (by decide) d8_pullBorne_6 ?_
    refine ev_iconst ci_0 d8_pullBorne_21 ?_
    obtain ⟨rfl, rfl⟩ := ret_some hf
    exact ev_iret rfl d8_pullBorne_22
  · refine ev_if_eq_Q (tgt := 21) c7 (by decide) d8_pullBorne_6 ?_
    refine ev_aload_n (j := 0) (i := 0) (q := 0) rfl rfl d8_pullBorne_9 ?_
    refine ev_aload_n (j := 2) (i := 2) (q := 2) rfl rfl d8_pullBorne_10 ?_
    refine ev_iload_n (j := 1) (i := 1) (q := 1) rfl rfl d8_pullBorne_11 ?_
    refine ev_iald (mono_ob q6.1 h1) (inb_m q6.1 h1 h2) d8_pullBorne_12 ?_
    refine ev_iload_n (j := 1) (i := 1) (q := 1) rfl rfl d8_pullBorne_13 ?_
    refine ev_iload_n (j := 3) (i := 3) (q := 3) rfl rfl d8_pullBorne_14 ?_
    obtain ⟨h8, hf⟩ := gd_some hf
    obtain ⟨r9, t10, k11, hf⟩ := bd_some hf
    have q12 := s8_bears _ _ _ _ _ _ _ k11
    refine ev_callV (vs := [.int (sI t4 v2 (ix v1)), .int v1, .int v3]) (sk := []) cls8 h8 q12 (by decide) (Nat.le_of_ble_eq_true rfl) w622 w623 w624 w2 w625 k8_bears rfl (Nat.le_of_ble_eq_true rfl) d8_pullBorne_15 ?_
    rcases ite_some hf with ⟨c13, hf⟩ | ⟨c13, hf⟩
    · refine ev_if_ne_P (tgt := 23) c13 (by decide) d8_pullBorne_18 ?_
      refine ev_iconst ci_0 d8_pullBorne_21 ?_
      obtain ⟨rfl, rfl⟩ := ret_some hf
      exact ev_iret rfl d8_pullBorne_22
    · refine ev_if_ne_Q (tgt := 23) c13 (by decide) d8_pullBorne_18 ?_
      refine ev_aload_n (j := 0) (i := 0) (q := 0) rfl rfl d8_pullBorne_23 ?_
      refine ev_iload_n (j := 1) (i := 1) (q := 1) rfl rfl d8_pullBorne_24 ?_
      refine ev_aload_n (j := 2) (i := 2) (q := 2) rfl rfl d8_pullBorne_25 ?_
      refine ev_iload_n (j := 3) (i := 3) (q := 3) rfl rfl d8_pullBorne_26 ?_
      obtain ⟨r14, t15, k16, hf⟩ := bd_some hf
      have q17 := s8_flowMet _ _ _ _ _ _ _ k16
      refine ev_callV (vs := [.int v1, .ref v2, .int v3]) (sk := []) cls8 (mono_ob q12.1 h8) q17 (by decide) (Nat.le_of_ble_eq_true rfl) w630 w602 w603 w2 w604 k8_flowMet rfl (Nat.le_of_ble_eq_true rfl) d8_pullBorne_27 ?_
      refine ev_bipush cb_20 d8_pullBorne_30 ?_
      refine ev_aload_n (j := 0) (i := 0) (q := 0) rfl rfl d8_pullBorne_32 ?_
      obtain ⟨b18, e19, hf⟩ := lt_some hf
      obtain ⟨h20, hf⟩ := gd_some hf
      refine ev_getRb cls8 (j := 2) (by decide) rfl w108 (mono_ob q17.1 (mono_ob q12.1 h8)) e19 (nz_ne h20) d8_pullBorne_33 ?_
      refine ev_iload_n (j := 1) (i := 1) (q := 1) rfl rfl d8_pullBorne_36 ?_
      obtain ⟨h21, hf⟩ := gd_some hf
      obtain ⟨h22, hf⟩ := gd_some hf
      obtain ⟨b23, e24, hf⟩ := lt_some hf
      obtain ⟨h25, hf⟩ := gd_some hf
      refine ev_qaldb (kd := 17) (by decide) (by decide) rfl h21 h22 e24 (nz_ne h25) d8_pullBorne_37 ?_
      obtain ⟨h26, hf⟩ := gd_some hf
      refine ev_getIN cls0 (j := 1) (by decide) rfl w68 h26 d8_pullBorne_38 ?_
      refine ev_iadd d8_pullBorne_41 ?_
      refine ev_imul d8_pullBorne_42 ?_
      refine ev_bipush cb_20 d8_pullBorne_43 ?_
      refine ev_idiv (by decide) d8_pullBorne_45 ?_
      obtain ⟨y27, e28, hf⟩ := lt_some hf
      refine ev_nmI e28 ?_
      refine ev_istore (lv2 := [(5, .int y27), (0, .ref v0), (1, .int v1), (2, .ref v2), (3, .int v3), (4, .int v4)]) (i := 5) (by decide) rfl d8_pullBorne_46 ?_
      refine ev_iload (i := 4) (q := 5) rfl d8_pullBorne_48 ?_
      rcases ite_some hf with ⟨c29, hf⟩ | ⟨c29, hf⟩
      · refine ev_if_eq_P (tgt := 60) c29 (by decide) d8_pullBorne_50 ?_
        refine ev_iload (i := 5) (q := 0) rfl d8_pullBorne_60 ?_
        obtain ⟨rfl, rfl⟩ := ret_some hf
        exact ev_iret rfl d8_pullBorne_62
      · refine ev_if_eq_Q (tgt := 60) c29 (by decide) d8_pullBorne_50 ?_
        refine ev_iconst ci_2 d8_pullBorne_53 ?_
        refine ev_iload (i := 5) (q := 0) rfl d8_pullBorne_54 ?_
        refine ev_imul d8_pullBorne_56 ?_
        refine ev_goto (tgt := 62) (by decide) d8_pullBorne_57 ?_
        obtain ⟨rfl, rfl⟩ := ret_some hf
        exact ev_iret rfl d8_pullBorne_62
abbrev m2_nextBerth : MD := ("MillBoats$Drift", ⟨"MillBoats$Drift", "nextBerth", "(II)I"⟩, prog_4_method_7_code, 10, (some Jvm.ClassFile.FieldType.int))
theorem k2_nextBerth : okY m2_nextBerth.2.1 2 := ⟨by decide +kernel, by decide +kernel, by decide +kernel⟩
def f2_nextBerth_p123 (K14 : St → Nat → Int32 → Int32 → Int32 → Int32 → Int32 → Int32 → Option (Int32 × St)) (σ : St) (v0 : Nat) (v1 : Int32) (v2 : Int32) (v3 : Int32) (v4 : Int32) (v5 : Int32) (v6 : Int32) : Option (Int32 × St) :=
  lt (v6 + (1 : Int32)) fun y44 => (
  K14 σ v0 v1 v2 v3 v4 v5 y44)
set_option maxRecDepth 20000 in
theorem s2_nextBerth_p123 {K14 : St → Nat → Int32 → Int32 → Int32 → Int32 → Int32 → Int32 → Option (Int32 × St)} (hK14 : ∀ (σ : St) (v0 : Nat) (v1 : Int32) (v2 : Int32) (v3 : Int32) (v4 : Int32) (v5 : Int32) (v6 : Int32) (r : Int32) (τ : St), K14 σ v0 v1 v2 v3 v4 v5 v6 = some (r, τ) → Ev 4 m2_nextBerth 14 [(0, .ref v0), (1, .int v1), (2, .int v2), (3, .int v3), (4, .int v4), (5, .int v5), (6, .int v6)] [] σ (some (.int r)) τ) : ∀ (σ : St) (v0 : Nat) (v1 : Int32) (v2 : Int32) (v3 : Int32) (v4 : Int32) (v5 : Int32) (v6 : Int32) (r : Int32) (τ : St), f2_nextBerth_p123 K14 σ v0 v1 v2 v3 v4 v5 v6 = some (r, τ) → Ev 4 m2_nextBerth 123 [(0, .ref v0), (1, .int v1), (2, .int v2), (3, .int v3), (4, .int v4), (5, .int v5), (6, .int v6)] [] σ (some (.int r)) τ := by
  intro σ v0 v1 v2 v3 v4 v5 v6 r τ hf
  unfold f2_nextBerth_p123 at hf
  obtain ⟨y44, e45, hf⟩ := lt_some hf
  refine ev_iinc (lv2 := [(6, .int y44), (0, .ref v0), (1, .int v1), (2, .int v2), (3, .int v3), (4, .int v4), (5, .int v5)]) (i := 6) (q := 6) (v := y44) (n := 1) rfl (by rw [ci_1]; exact e45.symm) (by decide) rfl d2_nextBerth_123 ?_
  refine ev_goto (tgt := 14) (by decide) d2_nextBerth_126 ?_
  exact Ev.sub [1, 2, 3, 4, 5, 6, 0] rfl (hK14 _ _ _ _ _ _ _ _ _ _ hf)
def f2_nextBerth_p44 (K14 : St → Nat → Int32 → Int32 → Int32 → Int32 → Int32 → Int32 → Option (Int32 × St)) (σ : St) (v0 : Nat) (v1 : Int32) (v2 : Int32) (v3 : Int32) (v4 : Int32) (v5 : Int32) (v6 : Int32) (x0 : Int32) : Option (Int32 × St) :=
  bd (f11_stretchOf σ v2) fun r8 t9 => (
  lt (((x0 * (12 : Int32)) + r8) + (1 : Int32)) fun y12 => (
  (if x0 < (0 : Int32) then
  f2_nextBerth_p123 K14 t9 v0 v1 v2 v3 v4 v5 v6
  else
  (if x0 < (6 : Int32) then
  gd (ob t9 v0 2) (
  lt (sR t9 v0 0) fun b17 => (
  gd (nz b17) (
  gd (ob t9 b17 8) (
  bd (f8_bears t9 b17 y12 v1 (sI t9 v0 4)) fun r21 t22 => (
  (if r21 = (0 : Int32) then
  f2_nextBerth_p123 K14 t22 v0 v1 v2 v3 v4 v5 v6
  else
  lt (sR t22 v0 0) fun b26 => (
  gd (nz b26) (
  gd (ob t22 b26 8) (
  lt (sR t22 b26 1) fun b30 => (
  gd (nz b30) (
  gd (ob t22 b30 19) (
  gd (inb t22 b30 x0) (
  lt (sR t22 b30 (ix x0)) fun b35 => (
  gd (nz b35) (
  gd (ob t22 b35 9) (
  bd (f9_at t22 b35 (sI t22 v0 4)) fun r39 t40 => (
  (if r39 ≤ v5 then
  f2_nextBerth_p123 K14 t40 v0 v1 v2 v3 v4 v5 v6
  else
  f2_nextBerth_p123 K14 t40 v0 v1 v2 v3 y12 r39 v6))))))))))))))))))
  else
  f2_nextBerth_p123 K14 t9 v0 v1 v2 v3 v4 v5 v6))))
set_option maxRecDepth 20000 in
theorem s2_nextBerth_p44 {K14 : St → Nat → Int32 → Int32 → Int32 → Int32 → Int32 → Int32 → Option (Int32 × St)} (hK14 : ∀ (σ : St) (v0 : Nat) (v1 : Int32) (v2 : Int32) (v3 : Int32) (v4 : Int32) (v5 : Int32) (v6 : Int32) (r : Int32) (τ : St), K14 σ v0 v1 v2 v3 v4 v5 v6 = some (r, τ) → Ev 4 m2_nextBerth 14 [(0, .ref v0), (1, .int v1), (2, .int v2), (3, .int v3), (4, .int v4), (5, .int v5), (6, .int v6)] [] σ (some (.int r)) τ) : ∀ (σ : St) (v0 : Nat) (v1 : Int32) (v2 : Int32) (v3 : Int32) (v4 : Int32) (v5 : Int32) (v6 : Int32) (x0 : Int32) (r : Int32) (τ : St), f2_nextBerth_p44 K14 σ v0 v1 v2 v3 v4 v5 v6 x0 = some (r, τ) → Ev 4 m2_nextBerth 44 [(0, .ref v0), (1, .int v1), (2, .int v2), (3, .int v3), (4, .int v4), (5, .int v5), (6, .int v6)] [.int x0] σ (some (.int r)) τ := by
  intro σ v0 v1 v2 v3 v4 v5 v6 x0 r τ hf
  unfold f2_nextBerth_p44 at hf
  refine ev_istore (lv2 := [(7, .int x0), (0, .ref v0), (1, .int v1), (2, .int v2), (3, .int v3), (4, .int v4), (5, .int v5), (6, .int v6)]) (i := 7) (by decide) rfl d2_nextBerth_44 ?_
  refine ev_iload (i := 7) (q := 0) rfl d2_nextBerth_46 ?_
  refine ev_bipush cb_12 d2_nextBerth_48 ?_
  refine ev_imul d2_nextBerth_50 ?_
  refine ev_iload_n (j := 2) (i := 2) (q := 3) rfl rfl d2_nextBerth_51 ?_
  obtain ⟨r8, t9, k10, hf⟩ := bd_some hf
  have q11 := s11_stretchOf _ _ _ _ k10
  refine ev_callSN (vs := [.int v2]) (sk := [.int (x0 * (12 : Int32))]) q11 (by decide) (Nat.le_of_ble_eq_true rfl) w966 w867 w1 w868 k11_stretchOf rfl (Nat.le_of_ble_eq_true rfl) d2_nextBerth_52 ?_
  refine ev_iadd d2_nextBerth_55 ?_
  refine ev_iconst ci_1 d2_nextBerth_56 ?_
  refine ev_iadd d2_nextBerth_57 ?_
  obtain ⟨y12, e13, hf⟩ := lt_some hf
  refine ev_nmI e13 ?_
  refine ev_istore (lv2 := [(8, .int y12), (7, .int x0), (0, .ref v0), (1, .int v1), (2, .int v2), (3, .int v3), (4, .int v4), (5, .int v5), (6, .int v6)]) (i := 8) (by decide) rfl d2_nextBerth_58 ?_
  refine ev_iload (i := 7) (q := 1) rfl d2_nextBerth_60 ?_
  rcases ite_some hf with ⟨c14, hf⟩ | ⟨c14, hf⟩
  · refine ev_if_lt_P (tgt := 123) c14 (by decide) d2_nextBerth_62 ?_
    exact Ev.sub [2, 3, 4, 5, 6, 7, 8] rfl (s2_nextBerth_p123 hK14 _ _ _ _ _ _ _ _ _ _ hf)
  · refine ev_if_lt_Q (tgt := 123) c14 (by decide) d2_nextBerth_62 ?_
    refine ev_iload (i := 7) (q := 1) rfl d2_nextBerth_65 ?_
    refine ev_bipush cb_6 d2_nextBerth_67 ?_
    rcases ite_some hf with ⟨c15, hf⟩ | ⟨c15, hf⟩
    · refine ev_icmp_ge_P (tgt := 123) c15 (by decide) d2_nextBerth_69 ?_
      refine ev_aload_n (j := 0) (i := 0) (q := 2) rfl rfl d2_nextBerth_72 ?_
      obtain ⟨h16, hf⟩ := gd_some hf
      obtain ⟨b17, e18, hf⟩ := lt_some hf
      obtain ⟨h19, hf⟩ := gd_some hf
      refine ev_getRb cls2 (j := 0) (by decide) rfl w350 h16 e18 (nz_ne h19) d2_nextBerth_73 ?_
      refine ev_iload (i := 8) (q := 0) rfl d2_nextBerth_76 ?_
      refine ev_iload_n (j := 1) (i := 1) (q := 3) rfl rfl d2_nextBerth_78 ?_
      refine ev_aload_n (j := 0) (i := 0) (q := 2) rfl rfl d2_nextBerth_79 ?_
      refine ev_getI cls2 (j := 4) (by decide) rfl w355 h16 d2_nextBerth_80 ?_
      obtain ⟨h20, hf⟩ := gd_some hf
      obtain ⟨r21, t22, k23, hf⟩ := bd_some hf
      have q24 := s8_bears _ _ _ _ _ _ _ k23
      refine ev_callV (vs := [.int y12, .int v1, .int (sI t9 v0 4)]) (sk := []) cls8 h20 q24 (by decide) (Nat.le_of_ble_eq_true rfl) w972 w623 w624 w2 w625 k8_bears rfl (Nat.le_of_ble_eq_true rfl) d2_nextBerth_83 ?_
      rcases ite_some hf with ⟨c25, hf⟩ | ⟨c25, hf⟩
      · refine ev_if_eq_P (tgt := 123) c25 (by decide) d2_nextBerth_86 ?_
        exact Ev.sub [2, 3, 4, 5, 6, 7, 8] rfl (s2_nextBerth_p123 hK14 _ _ _ _ _ _ _ _ _ _ hf)
      · refine ev_if_eq_Q (tgt := 123) c25 (by decide) d2_nextBerth_86 ?_
        refine ev_aload_n (j := 0) (i := 0) (q := 2) rfl rfl d2_nextBerth_89 ?_
        obtain ⟨b26, e27, hf⟩ := lt_some hf
        obtain ⟨h28, hf⟩ := gd_some hf
        refine ev_getRb cls2 (j := 0) (by decide) rfl w350 (mono_ob q24.1 h16) e27 (nz_ne h28) d2_nextBerth_90 ?_
        obtain ⟨h29, hf⟩ := gd_some hf
        obtain ⟨b30, e31, hf⟩ := lt_some hf
        obtain ⟨h32, hf⟩ := gd_some hf
        refine ev_getRNb cls8 (j := 1) (by decide) rfl w107 h29 e31 (nz_ne h32) d2_nextBerth_93 ?_
        refine ev_iload (i := 7) (q := 1) rfl d2_nextBerth_96 ?_
        obtain ⟨h33, hf⟩ := gd_some hf
        obtain ⟨h34, hf⟩ := gd_some hf
        obtain ⟨b35, e36, hf⟩ := lt_some hf
        obtain ⟨h37, hf⟩ := gd_some hf
        refine ev_qaldb (kd := 19) (by decide) (by decide) rfl h33 h34 e36 (nz_ne h37) d2_nextBerth_98 ?_
        refine ev_aload_n (j := 0) (i := 0) (q := 2) rfl rfl d2_nextBerth_99 ?_
        refine ev_getI cls2 (j := 4) (by decide) rfl w355 (mono_ob q24.1 h16) d2_nextBerth_100 ?_
        obtain ⟨h38, hf⟩ := gd_some hf
        obtain ⟨r39, t40, k41, hf⟩ := bd_some hf
        have q42 := s9_at _ _ _ _ _ k41
        refine ev_callV (vs := [.int (sI t22 v0 4)]) (sk := []) cls9 h38 q42 (by decide) (Nat.le_of_ble_eq_true rfl) w973 w558 w559 w3 w560 k9_at rfl (Nat.le_of_ble_eq_true rfl) d2_nextBerth_103 ?_
        refine ev_istore (lv2 := [(9, .int r39), (8, .int y12), (7, .int x0), (0, .ref v0), (1, .int v1), (2, .int v2), (3, .int v3), (4, .int v4), (5, .int v5), (6, .int v6)]) (i := 9) (by decide) rfl d2_nextBerth_106 ?_
        refine ev_iload (i := 9) (q := 0) rfl d2_nextBerth_108 ?_
        refine ev_iload (i := 5) (q := 8) rfl d2_nextBerth_110 ?_
        rcases ite_some hf with ⟨c43, hf⟩ | ⟨c43, hf⟩
        · refine ev_icmp_le_P (tgt := 123) c43 (by decide) d2_nextBerth_112 ?_
          exact Ev.sub [3, 4, 5, 6, 7, 8, 9] rfl (s2_nextBerth_p123 hK14 _ _ _ _ _ _ _ _ _ _ hf)
        · refine ev_icmp_le_Q (tgt := 123) c43 (by decide) d2_nextBerth_112 ?_
          refine ev_iload (i := 8) (q := 1) rfl d2_nextBerth_115 ?_
          refine ev_istore (lv2 := [(4, .int y12), (9, .int r39), (8, .int y12), (7, .int x0), (0, .ref v0), (1, .int v1), (2, .int v2), (3, .int v3), (5, .int v5), (6, .int v6)]) (i := 4) (by decide) rfl d2_nextBerth_117 ?_
          refine ev_iload (i := 9) (q := 1) rfl d2_nextBerth_119 ?_
          refine ev_istore (lv2 := [(5, .int r39), (4, .int y12), (9, .int r39), (8, .int y12), (7, .int x0), (0, .ref v0), (1, .int v1), (2, .int v2), (3, .int v3), (6, .int v6)]) (i := 5) (by decide) rfl d2_nextBerth_121 ?_
          exact Ev.sub [5, 6, 7, 8, 1, 0, 9] rfl (s2_nextBerth_p123 hK14 _ _ _ _ _ _ _ _ _ _ hf)
    · refine ev_icmp_ge_Q (tgt := 123) c15 (by decide) d2_nextBerth_69 ?_
      exact Ev.sub [2, 3, 4, 5, 6, 7, 8] rfl (s2_nextBerth_p123 hK14 _ _ _ _ _ _ _ _ _ _ hf)
def f2_nextBerth_p14 : Nat → St → Nat → Int32 → Int32 → Int32 → Int32 → Int32 → Int32 → Option (Int32 × St)
  | 0, _, _, _, _, _, _, _, _ => none
  | n + 1, σ, v0, v1, v2, v3, v4, v5, v6 =>
  (if v6 < (3 : Int32) then
  (if v6 = (0 : Int32) then
  f2_nextBerth_p44 (f2_nextBerth_p14 n) σ v0 v1 v2 v3 v4 v5 v6 v3
  else
  (if v6 = (1 : Int32) then
  f2_nextBerth_p44 (f2_nextBerth_p14 n) σ v0 v1 v2 v3 v4 v5 v6 (v3 - (1 : Int32))
  else
  f2_nextBerth_p44 (f2_nextBerth_p14 n) σ v0 v1 v2 v3 v4 v5 v6 (v3 + (1 : Int32))))
  else
  some (v4, σ))
set_option maxRecDepth 20000 in
theorem s2_nextBerth_p14 : ∀ (n : Nat) (σ : St) (v0 : Nat) (v1 : Int32) (v2 : Int32) (v3 : Int32) (v4 : Int32) (v5 : Int32) (v6 : Int32) (r : Int32) (τ : St), f2_nextBerth_p14 n σ v0 v1 v2 v3 v4 v5 v6 = some (r, τ) → Ev 4 m2_nextBerth 14 [(0, .ref v0), (1, .int v1), (2, .int v2), (3, .int v3), (4, .int v4), (5, .int v5), (6, .int v6)] [] σ (some (.int r)) τ := by
  intro n
  induction n with
  | zero =>
    intro σ v0 v1 v2 v3 v4 v5 v6 r τ hf
    cases hf
  | succ n ih =>
    intro σ v0 v1 v2 v3 v4 v5 v6 r τ hf
    rw [f2_nextBerth_p14] at hf
    refine ev_iload (i := 6) (q := 6) rfl d2_nextBerth_14 ?_
    refine ev_iconst ci_3 d2_nextBerth_16 ?_
    rcases ite_some hf with ⟨c5, hf⟩ | ⟨c5, hf⟩
    · refine ev_icmp_ge_P (tgt := 129) c5 (by decide) d2_nextBerth_17 ?_
      refine ev_iload (i := 6) (q := 6) rfl d2_nextBerth_20 ?_
      rcases ite_some hf with ⟨c6, hf⟩ | ⟨c6, hf⟩
      · refine ev_if_ne_P (tgt := 29) c6 (by decide) d2_nextBerth_22 ?_
        refine ev_iload_n (j := 3) (i := 3) (q := 3) rfl rfl d2_nextBerth_25 ?_
        refine ev_goto (tgt := 44) (by decide) d2_nextBerth_26 ?_
        exact Ev.sub [0, 1, 2, 3, 4, 5, 6] rfl (s2_nextBerth_p44 ih _ _ _ _ _ _ _ _ _ _ _ hf)
      · refine ev_if_ne_Q (tgt := 29) c6 (by decide) d2_nextBerth_22 ?_
        refine ev_iload (i := 6) (q := 6) rfl d2_nextBerth_29 ?_
        refine ev_iconst ci_1 d2_nextBerth_31 ?_
        rcases ite_some hf with ⟨c7, hf⟩ | ⟨c7, hf⟩
        · refine ev_icmp_ne_P (tgt := 41) c7 (by decide) d2_nextBerth_32 ?_
          refine ev_iload_n (j := 3) (i := 3) (q := 3) rfl rfl d2_nextBerth_35 ?_
          refine ev_iconst ci_1 d2_nextBerth_36 ?_
          refine ev_isub d2_nextBerth_37 ?_
          refine ev_goto (tgt := 44) (by decide) d2_nextBerth_38 ?_
          exact Ev.sub [0, 1, 2, 3, 4, 5, 6] rfl (s2_nextBerth_p44 ih _ _ _ _ _ _ _ _ _ _ _ hf)
        · refine ev_icmp_ne_Q (tgt := 41) c7 (by decide) d2_nextBerth_32 ?_
          refine ev_iload_n (j := 3) (i := 3) (q := 3) rfl rfl d2_nextBerth_41 ?_
          refine ev_iconst ci_1 d2_nextBerth_42 ?_
          refine ev_iadd d2_nextBerth_43 ?_
          exact Ev.sub [0, 1, 2, 3, 4, 5, 6] rfl (s2_nextBerth_p44 ih _ _ _ _ _ _ _ _ _ _ _ hf)
    · refine ev_icmp_ge_Q (tgt := 129) c5 (by decide) d2_nextBerth_17 ?_
      refine ev_iload (i := 4) (q := 4) rfl d2_nextBerth_129 ?_
      obtain ⟨rfl, rfl⟩ := ret_some hf
      exact ev_iret rfl d2_nextBerth_131
def f2_nextBerth (σ : St) (v0 : Nat) (v1 : Int32) (v2 : Int32) : Option (Int32 × St) :=
  bd (f11_laneOf σ v2) fun r1 t2 => (
  f2_nextBerth_p14 FU t2 v0 v1 v2 r1 (-1 : Int32) (-1 : Int32) (0 : Int32))
set_option maxRecDepth 50000 in
theorem s2_nextBerth : ∀ (σ : St) (v0 : Nat) (v1 : Int32) (v2 : Int32) (r : Int32) (τ : St), f2_nextBerth σ v0 v1 v2 = some (r, τ) → Call 4 m2_nextBerth [.ref v0, .int v1, .int v2] σ (some (.int r)) τ := by
  intro σ v0 v1 v2 r τ hf
  unfold f2_nextBerth at hf
  refine Call.of (by decide +kernel) rfl (Nat.le_of_ble_eq_true rfl) ?_
  refine ev_iload_n (j := 2) (i := 2) (q := 2) rfl rfl d2_nextBerth_0 ?_
  obtain ⟨r1, t2, k3, hf⟩ := bd_some hf
  have q4 := s11_laneOf _ _ _ _ k3
  refine ev_callSN (vs := [.int v2]) (sk := []) q4 (by decide) (Nat.le_of_ble_eq_true rfl) w971 w607 w1 w608 k11_laneOf rfl (Nat.le_of_ble_eq_true rfl) d2_nextBerth_1 ?_
  refine ev_istore_n (lv2 := [(3, .int r1), (0, .ref v0), (1, .int v1), (2, .int v2)]) (j := 3) (i := 3) rfl (by decide) rfl d2_nextBerth_4 ?_
  refine ev_iconst ci_m1 d2_nextBerth_5 ?_
  refine ev_istore (lv2 := [(4, .int (-1 : Int32)), (3, .int r1), (0, .ref v0), (1, .int v1), (2, .int v2)]) (i := 4) (by decide) rfl d2_nextBerth_6 ?_
  refine ev_iconst ci_m1 d2_nextBerth_8 ?_
  refine ev_istore (lv2 := [(5, .int (-1 : Int32)), (4, .int (-1 : Int32)), (3, .int r1), (0, .ref v0), (1, .int v1), (2, .int v2)]) (i := 5) (by decide) rfl d2_nextBerth_9 ?_
  refine ev_iconst ci_0 d2_nextBerth_11 ?_
  refine ev_istore (lv2 := [(6, .int (0 : Int32)), (5, .int (-1 : Int32)), (4, .int (-1 : Int32)), (3, .int r1), (0, .ref v0), (1, .int v1), (2, .int v2)]) (i := 6) (by decide) rfl d2_nextBerth_12 ?_
  exact Ev.sub [4, 5, 6, 3, 2, 1, 0] rfl (s2_nextBerth_p14 FU _ _ _ _ _ _ _ _ _ _ hf)
abbrev m8_has : MD := ("MillBoats$River", ⟨"MillBoats$River", "has", "(I)Z"⟩, prog_10_method_2_code, 2, (some Jvm.ClassFile.FieldType.boolean))
theorem k8_has : okY m8_has.2.1 1 := ⟨by decide +kernel, by decide +kernel, by decide +kernel⟩
def f8_has (σ : St) (v0 : Nat) (v1 : Int32) : Option (Int32 × St) :=
  (if v1 < (0 : Int32) then
  some ((0 : Int32), σ)
  else
  gd (ob σ v0 8) (
  (if v1 < (sI σ v0 5) then
  some ((1 : Int32), σ)
  else
  some ((0 : Int32), σ))))
set_option maxRecDepth 50000 in
theorem s8_has : ∀ (σ : St) (v0 : Nat) (v1 : Int32) (r : Int32) (τ : St), f8_has σ v0 v1 = some (r, τ) → Call 2 m8_has [.ref v0, .int v1] σ (some (.int r)) τ := by
  intro σ v0 v1 r τ hf
  unfold f8_has at hf
  refine Call.of (by decide +kernel) rfl (Nat.le_of_ble_eq_true rfl) ?_
  refine ev_iload_n (j := 1) (i := 1) (q := 1) rfl rfl d8_has_0 ?_
  rcases ite_some hf with ⟨c1, hf⟩ | ⟨c1, hf⟩
  · refine ev_if_lt_P (tgt := 16) c1 (by decide) d8_has_1 ?_
    refine ev_iconst ci_0 d8_has_16 ?_
    obtain ⟨rfl, rfl⟩ := ret_some hf
    exact ev_zret rfl (by decide) d8_has_17
  · refine ev_if_lt_Q (tgt := 16) c1 (by decide) d8_has_1 ?_
    refine ev_iload_n (j := 1) (i := 1) (q := 1) rfl rfl d8_has_4 ?_
    refine ev_aload_n (j := 0) (i := 0) (q := 0) rfl rfl d8_has_5 ?_
    obtain ⟨h2, hf⟩ := gd_some hf
    refine ev_getI cls8 (j := 5) (by decide) rfl w121 h2 d8_has_6 ?_
    rcases ite_some hf with ⟨c3, hf⟩ | ⟨c3, hf⟩
    · refine ev_icmp_ge_P (tgt := 16) c3 (by decide) d8_has_9 ?_
      refine ev_iconst ci_1 d8_has_12 ?_
      refine ev_goto (tgt := 17) (by decide) d8_has_13 ?_
      obtain ⟨rfl, rfl⟩ := ret_some hf
      exact ev_zret rfl (by decide) d8_has_17
    · refine ev_icmp_ge_Q (tgt := 16) c3 (by decide) d8_has_9 ?_
      refine ev_iconst ci_0 d8_has_16 ?_
      obtain ⟨rfl, rfl⟩ := ret_some hf
      exact ev_zret rfl (by decide) d8_has_17
abbrev m8_liesAtBerth : MD := ("MillBoats$River", ⟨"MillBoats$River", "liesAtBerth", "(I)Z"⟩, prog_10_method_3_code, 2, (some Jvm.ClassFile.FieldType.boolean))
theorem k8_liesAtBerth : okY m8_liesAtBerth.2.1 1 := ⟨by decide +kernel, by decide +kernel, by decide +kernel⟩
def f8_liesAtBerth (σ : St) (v0 : Nat) (v1 : Int32) : Option (Int32 × St) :=
  gd (ob σ v0 8) (
  bd (f8_has σ v0 v1) fun r2 t3 => (
  (if r2 = (0 : Int32) then
  some ((0 : Int32), t3)
  else
  lt (sR t3 v0 3) fun b7 => (
  gd (nz b7) (
  gd (ob t3 b7 14) (
  gd (inb t3 b7 v1) (
  (if (sI t3 b7 (ix v1)) < (0 : Int32) then
  some ((0 : Int32), t3)
  else
  some ((1 : Int32), t3)))))))))
set_option maxRecDepth 50000 in
theorem s8_liesAtBerth : ∀ (σ : St) (v0 : Nat) (v1 : Int32) (r : Int32) (τ : St), f8_liesAtBerth σ v0 v1 = some (r, τ) → Call 3 m8_liesAtBerth [.ref v0, .int v1] σ (some (.int r)) τ := by
  intro σ v0 v1 r τ hf
  unfold f8_liesAtBerth at hf
  refine Call.of (by decide +kernel) rfl (Nat.le_of_ble_eq_true rfl) ?_
  refine ev_aload_n (j := 0) (i := 0) (q := 0) rfl rfl d8_liesAtBerth_0 ?_
  refine ev_iload_n (j := 1) (i := 1) (q := 1) rfl rfl d8_liesAtBerth_1 ?_
  obtain ⟨h1, hf⟩ := gd_some hf
  obtain ⟨r2, t3, k4, hf⟩ := bd_some hf
  have q5 := s8_has _ _ _ _ _ k4
  refine ev_callV (vs := [.int v1]) (sk := []) cls8 h1 q5 (by decide) (Nat.le_of_ble_eq_true rfl) w600 w577 w578 w2 w579 k8_has rfl (Nat.le_of_ble_eq_true rfl) d8_liesAtBerth_2 ?_
  rcases ite_some hf with ⟨c6, hf⟩ | ⟨c6, hf⟩
  · refine ev_if_eq_P (tgt := 21) c6 (by decide) d8_liesAtBerth_5 ?_
    refine ev_iconst ci_0 d8_liesAtBerth_21 ?_
    obtain ⟨rfl, rfl⟩ := ret_some hf
    exact ev_zret rfl (by decide) d8_liesAtBerth_22
  · refine ev_if_eq_Q (tgt := 21) c6 (by decide) d8_liesAtBerth_5 ?_
    refine ev_aload_n (j := 0) (i := 0) (q := 0) rfl rfl d8_liesAtBerth_8 ?_
    obtain ⟨b7, e8, hf⟩ := lt_some hf
    obtain ⟨h9, hf⟩ := gd_some hf
    refine ev_getRb cls8 (j := 3) (by decide) rfl w114 (mono_ob q5.1 h1) e8 (nz_ne h9) d8_liesAtBerth_9 ?_
    refine ev_iload_n (j := 1) (i := 1) (q := 1) rfl rfl d8_liesAtBerth_12 ?_
    obtain ⟨h10, hf⟩ := gd_some hf
    obtain ⟨h11, hf⟩ := gd_some hf
    refine ev_iald h10 h11 d8_liesAtBerth_13 ?_
    rcases ite_some hf with ⟨c12, hf⟩ | ⟨c12, hf⟩
    · refine ev_if_lt_P (tgt := 21) c12 (by decide) d8_liesAtBerth_14 ?_
      refine ev_iconst ci_0 d8_liesAtBerth_21 ?_
      obtain ⟨rfl, rfl⟩ := ret_some hf
      exact ev_zret rfl (by decide) d8_liesAtBerth_22
    · refine ev_if_lt_Q (tgt := 21) c12 (by decide) d8_liesAtBerth_14 ?_
      refine ev_iconst ci_1 d8_liesAtBerth_17 ?_
      refine ev_goto (tgt := 22) (by decide) d8_liesAtBerth_18 ?_
      obtain ⟨rfl, rfl⟩ := ret_some hf
      exact ev_zret rfl (by decide) d8_liesAtBerth_22
abbrev m8_lyingAt : MD := ("MillBoats$River", ⟨"MillBoats$River", "lyingAt", "(I[I)I"⟩, prog_10_method_5_code, 4, (some Jvm.ClassFile.FieldType.int))
theorem k8_lyingAt : okY m8_lyingAt.2.1 2 := ⟨by decide +kernel, by decide +kernel, by decide +kernel⟩
def f8_lyingAt_p2 : Nat → St → Nat → Int32 → Nat → Int32 → Option (Int32 × St)
  | 0, _, _, _, _, _ => none
  | n + 1, σ, v0, v1, v2, v3 =>
  gd (ob σ v0 8) (
  (if v3 < (sI σ v0 5) then
  gd (ob σ v2 14) (
  gd (inb σ v2 v3) (
  (if (sI σ v2 (ix v3)) = v1 then
  some (v3, σ)
  else
  lt (v3 + (1 : Int32)) fun y6 => (
  (f8_lyingAt_p2 n) σ v0 v1 v2 y6))))
  else
  some ((-1 : Int32), σ)))
set_option maxRecDepth 20000 in
theorem s8_lyingAt_p2 : ∀ (n : Nat) (σ : St) (v0 : Nat) (v1 : Int32) (v2 : Nat) (v3 : Int32) (r : Int32) (τ : St), f8_lyingAt_p2 n σ v0 v1 v2 v3 = some (r, τ) → Ev 2 m8_lyingAt 2 [(0, .ref v0), (1, .int v1), (2, .ref v2), (3, .int v3)] [] σ (some (.int r)) τ := by
  intro n
  induction n with
  | zero =>
    intro σ v0 v1 v2 v3 r τ hf
    cases hf
  | succ n ih =>
    intro σ v0 v1 v2 v3 r τ hf
    rw [f8_lyingAt_p2] at hf
    refine ev_iload_n (j := 3) (i := 3) (q := 3) rfl rfl d8_lyingAt_2 ?_
    refine ev_aload_n (j := 0) (i := 0) (q := 0) rfl rfl d8_lyingAt_3 ?_
    obtain ⟨h1, hf⟩ := gd_some hf
    refine ev_getI cls8 (j := 5) (by decide) rfl w121 h1 d8_lyingAt_4 ?_
    rcases ite_some hf with ⟨c2, hf⟩ | ⟨c2, hf⟩
    · refine ev_icmp_ge_P (tgt := 25) c2 (by decide) d8_lyingAt_7 ?_
      refine ev_aload_n (j := 2) (i := 2) (q := 2) rfl rfl d8_lyingAt_10 ?_
      refine ev_iload_n (j := 3) (i := 3) (q := 3) rfl rfl d8_lyingAt_11 ?_
      obtain ⟨h3, hf⟩ := gd_some hf
      obtain ⟨h4, hf⟩ := gd_some hf
      refine ev_iald h3 h4 d8_lyingAt_12 ?_
      refine ev_iload_n (j := 1) (i := 1) (q := 1) rfl rfl d8_lyingAt_13 ?_
      rcases ite_some hf with ⟨c5, hf⟩ | ⟨c5, hf⟩
      · refine ev_icmp_ne_P (tgt := 19) c5 (by decide) d8_lyingAt_14 ?_
        refine ev_iload_n (j := 3) (i := 3) (q := 3) rfl rfl d8_lyingAt_17 ?_
        obtain ⟨rfl, rfl⟩ := ret_some hf
        exact ev_iret rfl d8_lyingAt_18
      · refine ev_icmp_ne_Q (tgt := 19) c5 (by decide) d8_lyingAt_14 ?_
        obtain ⟨y6, e7, hf⟩ := lt_some hf
        refine ev_iinc (lv2 := [(3, .int y6), (0, .ref v0), (1, .int v1), (2, .ref v2)]) (i := 3) (q := 3) (v := y6) (n := 1) rfl (by rw [ci_1]; exact e7.symm) (by decide) rfl d8_lyingAt_19 ?_
        refine ev_goto (tgt := 2) (by decide) d8_lyingAt_22 ?_
        exact Ev.sub [1, 2, 3, 0] rfl (ih _ _ _ _ _ _ _ hf)
    · refine ev_icmp_ge_Q (tgt := 25) c2 (by decide) d8_lyingAt_7 ?_
      refine ev_iconst ci_m1 d8_lyingAt_25 ?_
      obtain ⟨rfl, rfl⟩ := ret_some hf
      exact ev_iret rfl d8_lyingAt_26
def f8_lyingAt (σ : St) (v0 : Nat) (v1 : Int32) (v2 : Nat) : Option (Int32 × St) :=
  f8_lyingAt_p2 FU σ v0 v1 v2 (0 : Int32)
set_option maxRecDepth 50000 in
theorem s8_lyingAt : ∀ (σ : St) (v0 : Nat) (v1 : Int32) (v2 : Nat) (r : Int32) (τ : St), f8_lyingAt σ v0 v1 v2 = some (r, τ) → Call 2 m8_lyingAt [.ref v0, .int v1, .ref v2] σ (some (.int r)) τ := by
  intro σ v0 v1 v2 r τ hf
  unfold f8_lyingAt at hf
  refine Call.of (by decide +kernel) rfl (Nat.le_of_ble_eq_true rfl) ?_
  refine ev_iconst ci_0 d8_lyingAt_0 ?_
  refine ev_istore_n (lv2 := [(3, .int (0 : Int32)), (0, .ref v0), (1, .int v1), (2, .ref v2)]) (j := 3) (i := 3) rfl (by decide) rfl d8_lyingAt_1 ?_
  exact Ev.sub [1, 2, 3, 0] rfl (s8_lyingAt_p2 FU _ _ _ _ _ _ _ hf)
