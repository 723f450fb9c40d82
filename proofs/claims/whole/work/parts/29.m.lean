theorem d11_rules_0 : decode prog_1_method_18_code 0 = .ok (.iload_n 1, 1) := by decide +kernel
theorem d11_rules_1 : decode prog_1_method_18_code 1 = .ok (.invokestatic 161, 3) := by decide +kernel
theorem d11_rules_4 : decode prog_1_method_18_code 4 = .ok (.ifCond .eq 21, 3) := by decide +kernel
theorem d11_rules_7 : decode prog_1_method_18_code 7 = .ok (.iload_n 2, 1) := by decide +kernel
theorem d11_rules_8 : decode prog_1_method_18_code 8 = .ok (.invokestatic 129, 3) := by decide +kernel
theorem d11_rules_11 : decode prog_1_method_18_code 11 = .ok (.ifCond .eq 14, 3) := by decide +kernel
theorem d11_rules_14 : decode prog_1_method_18_code 14 = .ok (.aload_n 0, 1) := by decide +kernel
theorem d11_rules_15 : decode prog_1_method_18_code 15 = .ok (.getfield 21, 3) := by decide +kernel
theorem d11_rules_18 : decode prog_1_method_18_code 18 = .ok (.iload_n 1, 1) := by decide +kernel
theorem d11_rules_19 : decode prog_1_method_18_code 19 = .ok (.invokevirtual 164, 3) := by decide +kernel
theorem d11_rules_22 : decode prog_1_method_18_code 22 = .ok (.ifCond .eq 5, 3) := by decide +kernel
theorem d11_rules_25 : decode prog_1_method_18_code 25 = .ok (.iconst (-1), 1) := by decide +kernel
theorem d11_rules_26 : decode prog_1_method_18_code 26 = .ok (.ireturn, 1) := by decide +kernel
theorem d11_rules_27 : decode prog_1_method_18_code 27 = .ok (.aload_n 0, 1) := by decide +kernel
theorem d11_rules_28 : decode prog_1_method_18_code 28 = .ok (.getfield 21, 3) := by decide +kernel
theorem d11_rules_31 : decode prog_1_method_18_code 31 = .ok (.getfield 167, 3) := by decide +kernel
theorem d11_rules_34 : decode prog_1_method_18_code 34 = .ok (.aload_n 0, 1) := by decide +kernel
theorem d11_rules_35 : decode prog_1_method_18_code 35 = .ok (.getfield 57, 3) := by decide +kernel
theorem d11_rules_38 : decode prog_1_method_18_code 38 = .ok (.aload_n 0, 1) := by decide +kernel
theorem d11_rules_39 : decode prog_1_method_18_code 39 = .ok (.getfield 154, 3) := by decide +kernel
theorem d11_rules_42 : decode prog_1_method_18_code 42 = .ok (.invokevirtual 171, 3) := by decide +kernel
theorem d11_rules_45 : decode prog_1_method_18_code 45 = .ok (.istore_n 3, 1) := by decide +kernel
theorem d11_rules_46 : decode prog_1_method_18_code 46 = .ok (.aload_n 0, 1) := by decide +kernel
theorem d11_rules_47 : decode prog_1_method_18_code 47 = .ok (.iconst 0, 1) := by decide +kernel
theorem d11_rules_48 : decode prog_1_method_18_code 48 = .ok (.putfield 154, 3) := by decide +kernel
theorem d11_rules_51 : decode prog_1_method_18_code 51 = .ok (.iload_n 3, 1) := by decide +kernel
theorem d11_rules_52 : decode prog_1_method_18_code 52 = .ok (.ifCond .ne 19, 3) := by decide +kernel
theorem d11_rules_55 : decode prog_1_method_18_code 55 = .ok (.aload_n 0, 1) := by decide +kernel
theorem d11_rules_56 : decode prog_1_method_18_code 56 = .ok (.getfield 21, 3) := by decide +kernel
theorem d11_rules_59 : decode prog_1_method_18_code 59 = .ok (.iload_n 1, 1) := by decide +kernel
theorem d11_rules_60 : decode prog_1_method_18_code 60 = .ok (.iload_n 2, 1) := by decide +kernel
theorem d11_rules_61 : decode prog_1_method_18_code 61 = .ok (.aload_n 0, 1) := by decide +kernel
theorem d11_rules_62 : decode prog_1_method_18_code 62 = .ok (.getfield 103, 3) := by decide +kernel
theorem d11_rules_65 : decode prog_1_method_18_code 65 = .ok (.invokevirtual 177, 3) := by decide +kernel
theorem d11_rules_68 : decode prog_1_method_18_code 68 = .ok (.goto 6, 3) := by decide +kernel
theorem d11_rules_71 : decode prog_1_method_18_code 71 = .ok (.iconst (-1), 1) := by decide +kernel
theorem d11_rules_72 : decode prog_1_method_18_code 72 = .ok (.iload_n 3, 1) := by decide +kernel
theorem d11_rules_73 : decode prog_1_method_18_code 73 = .ok (.isub, 1) := by decide +kernel
theorem d11_rules_74 : decode prog_1_method_18_code 74 = .ok (.ireturn, 1) := by decide +kernel
theorem d11_place_0 : decode prog_1_method_19_code 0 = .ok (.aload_n 0, 1) := by decide +kernel
theorem d11_place_1 : decode prog_1_method_19_code 1 = .ok (.getfield 21, 3) := by decide +kernel
theorem d11_place_4 : decode prog_1_method_19_code 4 = .ok (.getfield 167, 3) := by decide +kernel
theorem d11_place_7 : decode prog_1_method_19_code 7 = .ok (.getfield 180, 3) := by decide +kernel
theorem d11_place_10 : decode prog_1_method_19_code 10 = .ok (.ireturn, 1) := by decide +kernel
theorem d11_barred_0 : decode prog_1_method_20_code 0 = .ok (.aload_n 0, 1) := by decide +kernel
theorem d11_barred_1 : decode prog_1_method_20_code 1 = .ok (.getfield 12, 3) := by decide +kernel
theorem d11_barred_4 : decode prog_1_method_20_code 4 = .ok (.iload_n 1, 1) := by decide +kernel
theorem d11_barred_5 : decode prog_1_method_20_code 5 = .ok (.invokevirtual 89, 3) := by decide +kernel
theorem d11_barred_8 : decode prog_1_method_20_code 8 = .ok (.ifCond .eq 26, 3) := by decide +kernel
theorem d11_barred_11 : decode prog_1_method_20_code 11 = .ok (.iload_n 2, 1) := by decide +kernel
theorem d11_barred_12 : decode prog_1_method_20_code 12 = .ok (.invokestatic 61, 3) := by decide +kernel
theorem d11_barred_15 : decode prog_1_method_20_code 15 = .ok (.ifCond .eq 19, 3) := by decide +kernel
theorem d11_barred_18 : decode prog_1_method_20_code 18 = .ok (.iload_n 3, 1) := by decide +kernel
theorem d11_barred_19 : decode prog_1_method_20_code 19 = .ok (.invokestatic 129, 3) := by decide +kernel
theorem d11_barred_22 : decode prog_1_method_20_code 22 = .ok (.ifCond .eq 12, 3) := by decide +kernel
theorem d11_barred_25 : decode prog_1_method_20_code 25 = .ok (.aload_n 0, 1) := by decide +kernel
theorem d11_barred_26 : decode prog_1_method_20_code 26 = .ok (.iload 4, 2) := by decide +kernel
theorem d11_barred_28 : decode prog_1_method_20_code 28 = .ok (.invokevirtual 145, 3) := by decide +kernel
theorem d11_barred_31 : decode prog_1_method_20_code 31 = .ok (.ifCond .ne 5, 3) := by decide +kernel
theorem d11_barred_34 : decode prog_1_method_20_code 34 = .ok (.iconst (-1), 1) := by decide +kernel
theorem d11_barred_35 : decode prog_1_method_20_code 35 = .ok (.ireturn, 1) := by decide +kernel
theorem d11_barred_36 : decode prog_1_method_20_code 36 = .ok (.aload_n 0, 1) := by decide +kernel
theorem d11_barred_37 : decode prog_1_method_20_code 37 = .ok (.getfield 21, 3) := by decide +kernel
theorem d11_barred_40 : decode prog_1_method_20_code 40 = .ok (.iload_n 1, 1) := by decide +kernel
theorem d11_barred_41 : decode prog_1_method_20_code 41 = .ok (.iload_n 2, 1) := by decide +kernel
theorem d11_barred_42 : decode prog_1_method_20_code 42 = .ok (.iload_n 3, 1) := by decide +kernel
theorem d11_barred_43 : decode prog_1_method_20_code 43 = .ok (.iload 4, 2) := by decide +kernel
theorem d11_barred_45 : decode prog_1_method_20_code 45 = .ok (.invokevirtual 183, 3) := by decide +kernel
theorem d11_barred_48 : decode prog_1_method_20_code 48 = .ok (.ireturn, 1) := by decide +kernel
theorem d11_word_0 : decode prog_1_method_21_code 0 = .ok (.iload_n 1, 1) := by decide +kernel
theorem d11_word_1 : decode prog_1_method_21_code 1 = .ok (.invokestatic 161, 3) := by decide +kernel
theorem d11_word_4 : decode prog_1_method_21_code 4 = .ok (.ifCond .eq 38, 3) := by decide +kernel
theorem d11_word_7 : decode prog_1_method_21_code 7 = .ok (.aload_n 0, 1) := by decide +kernel
theorem d11_word_8 : decode prog_1_method_21_code 8 = .ok (.getfield 12, 3) := by decide +kernel
theorem d11_word_11 : decode prog_1_method_21_code 11 = .ok (.iload_n 2, 1) := by decide +kernel
theorem d11_word_12 : decode prog_1_method_21_code 12 = .ok (.invokevirtual 89, 3) := by decide +kernel
theorem d11_word_15 : decode prog_1_method_21_code 15 = .ok (.ifCond .eq 27, 3) := by decide +kernel
theorem d11_word_18 : decode prog_1_method_21_code 18 = .ok (.iload_n 3, 1) := by decide +kernel
theorem d11_word_19 : decode prog_1_method_21_code 19 = .ok (.invokestatic 61, 3) := by decide +kernel
theorem d11_word_22 : decode prog_1_method_21_code 22 = .ok (.ifCond .eq 20, 3) := by decide +kernel
theorem d11_word_25 : decode prog_1_method_21_code 25 = .ok (.iload 4, 2) := by decide +kernel
theorem d11_word_27 : decode prog_1_method_21_code 27 = .ok (.invokestatic 129, 3) := by decide +kernel
theorem d11_word_30 : decode prog_1_method_21_code 30 = .ok (.ifCond .eq 12, 3) := by decide +kernel
theorem d11_word_33 : decode prog_1_method_21_code 33 = .ok (.aload_n 0, 1) := by decide +kernel
theorem d11_word_34 : decode prog_1_method_21_code 34 = .ok (.iload 5, 2) := by decide +kernel
theorem d11_word_36 : decode prog_1_method_21_code 36 = .ok (.invokevirtual 145, 3) := by decide +kernel
theorem d11_word_39 : decode prog_1_method_21_code 39 = .ok (.ifCond .ne 5, 3) := by decide +kernel
theorem d11_word_42 : decode prog_1_method_21_code 42 = .ok (.iconst (-1), 1) := by decide +kernel
theorem d11_word_43 : decode prog_1_method_21_code 43 = .ok (.ireturn, 1) := by decide +kernel
theorem d11_word_44 : decode prog_1_method_21_code 44 = .ok (.aload_n 0, 1) := by decide +kernel
theorem d11_word_45 : decode prog_1_method_21_code 45 = .ok (.getfield 21, 3) := by decide +kernel
theorem d11_word_48 : decode prog_1_method_21_code 48 = .ok (.iload_n 1, 1) := by decide +kernel
theorem d11_word_49 : decode prog_1_method_21_code 49 = .ok (.iload_n 2, 1) := by decide +kernel
theorem d11_word_50 : decode prog_1_method_21_code 50 = .ok (.iload_n 3, 1) := by decide +kernel
theorem d11_word_51 : decode prog_1_method_21_code 51 = .ok (.iload 4, 2) := by decide +kernel
theorem d11_word_53 : decode prog_1_method_21_code 53 = .ok (.iload 5, 2) := by decide +kernel
theorem d11_word_55 : decode prog_1_method_21_code 55 = .ok (.invokevirtual 187, 3) := by decide +kernel
theorem d11_word_58 : decode prog_1_method_21_code 58 = .ok (.ireturn, 1) := by decide +kernel
theorem d11_isStretch_0 : decode prog_1_method_42_code 0 = .ok (.iload_n 0, 1) := by decide +kernel
theorem d11_isStretch_1 : decode prog_1_method_42_code 1 = .ok (.ifCond .lt 13, 3) := by decide +kernel
theorem d11_isStretch_4 : decode prog_1_method_42_code 4 = .ok (.iload_n 0, 1) := by decide +kernel
theorem d11_isStretch_5 : decode prog_1_method_42_code 5 = .ok (.bipush 12, 2) := by decide +kernel
theorem d11_isStretch_7 : decode prog_1_method_42_code 7 = .ok (.if_icmp .ge 7, 3) := by decide +kernel
theorem d11_isStretch_10 : decode prog_1_method_42_code 10 = .ok (.iconst 1, 1) := by decide +kernel
theorem d11_isStretch_11 : decode prog_1_method_42_code 11 = .ok (.goto 4, 3) := by decide +kernel
theorem d11_isStretch_14 : decode prog_1_method_42_code 14 = .ok (.iconst 0, 1) := by decide +kernel
theorem d11_isStretch_15 : decode prog_1_method_42_code 15 = .ok (.ireturn, 1) := by decide +kernel
theorem d11_way_0 : decode prog_1_method_22_code 0 = .ok (.iload_n 1, 1) := by decide +kernel
theorem d11_way_1 : decode prog_1_method_22_code 1 = .ok (.invokestatic 191, 3) := by decide +kernel
theorem d11_way_4 : decode prog_1_method_22_code 4 = .ok (.ifCond .eq 18, 3) := by decide +kernel
theorem d11_way_7 : decode prog_1_method_22_code 7 = .ok (.iload_n 2, 1) := by decide +kernel
theorem d11_way_8 : decode prog_1_method_22_code 8 = .ok (.invokestatic 129, 3) := by decide +kernel
theorem d11_way_11 : decode prog_1_method_22_code 11 = .ok (.ifCond .eq 11, 3) := by decide +kernel
theorem d11_way_14 : decode prog_1_method_22_code 14 = .ok (.aload_n 0, 1) := by decide +kernel
theorem d11_way_15 : decode prog_1_method_22_code 15 = .ok (.iload_n 3, 1) := by decide +kernel
theorem d11_way_16 : decode prog_1_method_22_code 16 = .ok (.invokevirtual 145, 3) := by decide +kernel
theorem d11_way_19 : decode prog_1_method_22_code 19 = .ok (.ifCond .ne 5, 3) := by decide +kernel
theorem d11_way_22 : decode prog_1_method_22_code 22 = .ok (.iconst (-1), 1) := by decide +kernel
theorem d11_way_23 : decode prog_1_method_22_code 23 = .ok (.ireturn, 1) := by decide +kernel
theorem d11_way_24 : decode prog_1_method_22_code 24 = .ok (.aload_n 0, 1) := by decide +kernel
theorem d11_way_25 : decode prog_1_method_22_code 25 = .ok (.getfield 21, 3) := by decide +kernel
theorem d11_way_28 : decode prog_1_method_22_code 28 = .ok (.iload_n 1, 1) := by decide +kernel
theorem d11_way_29 : decode prog_1_method_22_code 29 = .ok (.iload_n 2, 1) := by decide +kernel
theorem d11_way_30 : decode prog_1_method_22_code 30 = .ok (.iload_n 3, 1) := by decide +kernel
theorem d11_way_31 : decode prog_1_method_22_code 31 = .ok (.invokevirtual 194, 3) := by decide +kernel
theorem d11_way_34 : decode prog_1_method_22_code 34 = .ok (.ireturn, 1) := by decide +kernel
theorem d11_heightToday_0 : decode prog_1_method_36_code 0 = .ok (.aload_n 0, 1) := by decide +kernel
theorem d11_heightToday_1 : decode prog_1_method_36_code 1 = .ok (.getfield 21, 3) := by decide +kernel
theorem d11_heightToday_4 : decode prog_1_method_36_code 4 = .ok (.getfield 132, 3) := by decide +kernel
theorem d11_heightToday_7 : decode prog_1_method_36_code 7 = .ok (.aload_n 0, 1) := by decide +kernel
theorem d11_heightToday_8 : decode prog_1_method_36_code 8 = .ok (.getfield 103, 3) := by decide +kernel
theorem d11_heightToday_11 : decode prog_1_method_36_code 11 = .ok (.aload_n 0, 1) := by decide +kernel
theorem d11_heightToday_12 : decode prog_1_method_36_code 12 = .ok (.getfield 103, 3) := by decide +kernel
theorem d11_heightToday_15 : decode prog_1_method_36_code 15 = .ok (.iconst 5, 1) := by decide +kernel
theorem d11_heightToday_16 : decode prog_1_method_36_code 16 = .ok (.invokevirtual 148, 3) := by decide +kernel
theorem d11_heightToday_19 : decode prog_1_method_36_code 19 = .ok (.ireturn, 1) := by decide +kernel
theorem d11_kept_0 : decode prog_1_method_23_code 0 = .ok (.iload_n 1, 1) := by decide +kernel
theorem d11_kept_1 : decode prog_1_method_23_code 1 = .ok (.invokestatic 191, 3) := by decide +kernel
theorem d11_kept_4 : decode prog_1_method_23_code 4 = .ok (.ifCond .ne 5, 3) := by decide +kernel
theorem d11_kept_7 : decode prog_1_method_23_code 7 = .ok (.iconst (-1), 1) := by decide +kernel
theorem d11_kept_8 : decode prog_1_method_23_code 8 = .ok (.ireturn, 1) := by decide +kernel
theorem d11_kept_9 : decode prog_1_method_23_code 9 = .ok (.aload_n 0, 1) := by decide +kernel
theorem d11_kept_10 : decode prog_1_method_23_code 10 = .ok (.getfield 21, 3) := by decide +kernel
theorem d11_kept_13 : decode prog_1_method_23_code 13 = .ok (.iload_n 1, 1) := by decide +kernel
theorem d11_kept_14 : decode prog_1_method_23_code 14 = .ok (.aload_n 0, 1) := by decide +kernel
theorem d11_kept_15 : decode prog_1_method_23_code 15 = .ok (.getfield 103, 3) := by decide +kernel
theorem d11_kept_18 : decode prog_1_method_23_code 18 = .ok (.aload_n 0, 1) := by decide +kernel
theorem d11_kept_19 : decode prog_1_method_23_code 19 = .ok (.getfield 103, 3) := by decide +kernel
theorem d11_kept_22 : decode prog_1_method_23_code 22 = .ok (.invokevirtual 194, 3) := by decide +kernel
theorem d11_kept_25 : decode prog_1_method_23_code 25 = .ok (.istore_n 2, 1) := by decide +kernel
theorem d11_kept_26 : decode prog_1_method_23_code 26 = .ok (.aload_n 0, 1) := by decide +kernel
theorem d11_kept_27 : decode prog_1_method_23_code 27 = .ok (.getfield 12, 3) := by decide +kernel
theorem d11_kept_30 : decode prog_1_method_23_code 30 = .ok (.iload_n 1, 1) := by decide +kernel
theorem d11_kept_31 : decode prog_1_method_23_code 31 = .ok (.iload_n 2, 1) := by decide +kernel
theorem d11_kept_32 : decode prog_1_method_23_code 32 = .ok (.aload_n 0, 1) := by decide +kernel
theorem d11_kept_33 : decode prog_1_method_23_code 33 = .ok (.getfield 12, 3) := by decide +kernel
theorem d11_kept_36 : decode prog_1_method_23_code 36 = .ok (.getfield 92, 3) := by decide +kernel
theorem d11_kept_39 : decode prog_1_method_23_code 39 = .ok (.aload_n 0, 1) := by decide +kernel
theorem d11_kept_40 : decode prog_1_method_23_code 40 = .ok (.invokevirtual 197, 3) := by decide +kernel
theorem d11_kept_43 : decode prog_1_method_23_code 43 = .ok (.invokevirtual 201, 3) := by decide +kernel
theorem d11_kept_46 : decode prog_1_method_23_code 46 = .ok (.ifCond .eq 7, 3) := by decide +kernel
theorem d11_kept_49 : decode prog_1_method_23_code 49 = .ok (.iconst 1, 1) := by decide +kernel
theorem d11_kept_50 : decode prog_1_method_23_code 50 = .ok (.goto 4, 3) := by decide +kernel
theorem d11_kept_53 : decode prog_1_method_23_code 53 = .ok (.iconst 0, 1) := by decide +kernel
theorem d11_kept_54 : decode prog_1_method_23_code 54 = .ok (.ireturn, 1) := by decide +kernel
theorem d11_skiffs_0 : decode prog_1_method_24_code 0 = .ok (.iload_n 1, 1) := by decide +kernel
theorem d11_skiffs_1 : decode prog_1_method_24_code 1 = .ok (.invokestatic 161, 3) := by decide +kernel
theorem d11_skiffs_4 : decode prog_1_method_24_code 4 = .ok (.ifCond .eq 13, 3) := by decide +kernel
theorem d11_skiffs_7 : decode prog_1_method_24_code 7 = .ok (.iload_n 2, 1) := by decide +kernel
theorem d11_skiffs_8 : decode prog_1_method_24_code 8 = .ok (.ifCond .lt 9, 3) := by decide +kernel
theorem d11_skiffs_11 : decode prog_1_method_24_code 11 = .ok (.iload_n 2, 1) := by decide +kernel
theorem d11_skiffs_12 : decode prog_1_method_24_code 12 = .ok (.bipush 20, 2) := by decide +kernel
theorem d11_skiffs_14 : decode prog_1_method_24_code 14 = .ok (.if_icmp .le 5, 3) := by decide +kernel
theorem d11_skiffs_17 : decode prog_1_method_24_code 17 = .ok (.iconst 0, 1) := by decide +kernel
theorem d11_skiffs_18 : decode prog_1_method_24_code 18 = .ok (.ireturn, 1) := by decide +kernel
theorem d11_skiffs_19 : decode prog_1_method_24_code 19 = .ok (.aload_n 0, 1) := by decide +kernel
theorem d11_skiffs_20 : decode prog_1_method_24_code 20 = .ok (.getfield 37, 3) := by decide +kernel
theorem d11_skiffs_23 : decode prog_1_method_24_code 23 = .ok (.getfield 205, 3) := by decide +kernel
theorem d11_skiffs_26 : decode prog_1_method_24_code 26 = .ok (.iload_n 1, 1) := by decide +kernel
theorem d11_skiffs_27 : decode prog_1_method_24_code 27 = .ok (.iload_n 2, 1) := by decide +kernel
theorem d11_skiffs_28 : decode prog_1_method_24_code 28 = .ok (.iastore, 1) := by decide +kernel
theorem d11_skiffs_29 : decode prog_1_method_24_code 29 = .ok (.iconst 1, 1) := by decide +kernel
theorem d11_skiffs_30 : decode prog_1_method_24_code 30 = .ok (.ireturn, 1) := by decide +kernel
theorem d11_order_0 : decode prog_1_method_25_code 0 = .ok (.iload_n 1, 1) := by decide +kernel
theorem d11_order_1 : decode prog_1_method_25_code 1 = .ok (.invokestatic 161, 3) := by decide +kernel
theorem d11_order_4 : decode prog_1_method_25_code 4 = .ok (.ifCond .eq 15, 3) := by decide +kernel
theorem d11_order_7 : decode prog_1_method_25_code 7 = .ok (.iload_n 2, 1) := by decide +kernel
theorem d11_order_8 : decode prog_1_method_25_code 8 = .ok (.iconst 1, 1) := by decide +kernel
theorem d11_order_9 : decode prog_1_method_25_code 9 = .ok (.if_icmp .lt 10, 3) := by decide +kernel
theorem d11_order_12 : decode prog_1_method_25_code 12 = .ok (.iload_n 2, 1) := by decide +kernel
theorem d11_order_13 : decode prog_1_method_25_code 13 = .ok (.sipush 500, 3) := by decide +kernel
theorem d11_order_16 : decode prog_1_method_25_code 16 = .ok (.if_icmp .le 5, 3) := by decide +kernel
theorem d11_order_19 : decode prog_1_method_25_code 19 = .ok (.iconst (-1), 1) := by decide +kernel
theorem d11_order_20 : decode prog_1_method_25_code 20 = .ok (.ireturn, 1) := by decide +kernel
theorem d11_order_21 : decode prog_1_method_25_code 21 = .ok (.aload_n 0, 1) := by decide +kernel
theorem d11_order_22 : decode prog_1_method_25_code 22 = .ok (.getfield 37, 3) := by decide +kernel
theorem d11_order_25 : decode prog_1_method_25_code 25 = .ok (.iload_n 1, 1) := by decide +kernel
theorem d11_order_26 : decode prog_1_method_25_code 26 = .ok (.iload_n 2, 1) := by decide +kernel
theorem d11_order_27 : decode prog_1_method_25_code 27 = .ok (.invokevirtual 208, 3) := by decide +kernel
theorem d11_order_30 : decode prog_1_method_25_code 30 = .ok (.ireturn, 1) := by decide +kernel
theorem d11_day_0 : decode prog_1_method_26_code 0 = .ok (.aload_n 0, 1) := by decide +kernel
theorem d11_day_1 : decode prog_1_method_26_code 1 = .ok (.getfield 103, 3) := by decide +kernel
theorem d11_day_4 : decode prog_1_method_26_code 4 = .ok (.sipush 999, 3) := by decide +kernel
theorem d11_day_7 : decode prog_1_method_26_code 7 = .ok (.if_icmp .lt 5, 3) := by decide +kernel
theorem d11_day_10 : decode prog_1_method_26_code 10 = .ok (.iconst (-1), 1) := by decide +kernel
theorem d11_day_11 : decode prog_1_method_26_code 11 = .ok (.ireturn, 1) := by decide +kernel
theorem d11_day_12 : decode prog_1_method_26_code 12 = .ok (.aload_n 0, 1) := by decide +kernel
theorem d11_day_13 : decode prog_1_method_26_code 13 = .ok (.invokevirtual 197, 3) := by decide +kernel
theorem d11_day_16 : decode prog_1_method_26_code 16 = .ok (.istore_n 1, 1) := by decide +kernel
theorem d11_day_17 : decode prog_1_method_26_code 17 = .ok (.aload_n 0, 1) := by decide +kernel
theorem d11_day_18 : decode prog_1_method_26_code 18 = .ok (.getfield 28, 3) := by decide +kernel
theorem d11_day_21 : decode prog_1_method_26_code 21 = .ok (.aload_n 0, 1) := by decide +kernel
theorem d11_day_22 : decode prog_1_method_26_code 22 = .ok (.getfield 103, 3) := by decide +kernel
theorem d11_day_25 : decode prog_1_method_26_code 25 = .ok (.iload_n 1, 1) := by decide +kernel
theorem d11_day_26 : decode prog_1_method_26_code 26 = .ok (.aload_n 0, 1) := by decide +kernel
theorem d11_day_27 : decode prog_1_method_26_code 27 = .ok (.getfield 21, 3) := by decide +kernel
theorem d11_day_30 : decode prog_1_method_26_code 30 = .ok (.getfield 142, 3) := by decide +kernel
theorem d11_day_33 : decode prog_1_method_26_code 33 = .ok (.aload_n 0, 1) := by decide +kernel
theorem d11_day_34 : decode prog_1_method_26_code 34 = .ok (.getfield 103, 3) := by decide +kernel
theorem d11_day_37 : decode prog_1_method_26_code 37 = .ok (.aload_n 0, 1) := by decide +kernel
theorem d11_day_38 : decode prog_1_method_26_code 38 = .ok (.getfield 103, 3) := by decide +kernel
theorem d11_day_41 : decode prog_1_method_26_code 41 = .ok (.iconst 0, 1) := by decide +kernel
theorem d11_day_42 : decode prog_1_method_26_code 42 = .ok (.invokevirtual 151, 3) := by decide +kernel
theorem d11_day_45 : decode prog_1_method_26_code 45 = .ok (.iconst 1, 1) := by decide +kernel
theorem d11_day_46 : decode prog_1_method_26_code 46 = .ok (.if_icmp .ne 7, 3) := by decide +kernel
theorem d11_day_49 : decode prog_1_method_26_code 49 = .ok (.iconst 1, 1) := by decide +kernel
theorem d11_day_50 : decode prog_1_method_26_code 50 = .ok (.goto 4, 3) := by decide +kernel
theorem d11_day_53 : decode prog_1_method_26_code 53 = .ok (.iconst 0, 1) := by decide +kernel
theorem d11_day_54 : decode prog_1_method_26_code 54 = .ok (.invokevirtual 212, 3) := by decide +kernel
theorem d11_day_57 : decode prog_1_method_26_code 57 = .ok (.aload_n 0, 1) := by decide +kernel
theorem d11_day_58 : decode prog_1_method_26_code 58 = .ok (.getfield 37, 3) := by decide +kernel
theorem d11_day_61 : decode prog_1_method_26_code 61 = .ok (.aload_n 0, 1) := by decide +kernel
theorem d11_day_62 : decode prog_1_method_26_code 62 = .ok (.getfield 103, 3) := by decide +kernel
theorem d11_day_65 : decode prog_1_method_26_code 65 = .ok (.iload_n 1, 1) := by decide +kernel
theorem d11_day_66 : decode prog_1_method_26_code 66 = .ok (.invokevirtual 216, 3) := by decide +kernel
theorem d11_day_69 : decode prog_1_method_26_code 69 = .ok (.aload_n 0, 1) := by decide +kernel
theorem d11_day_70 : decode prog_1_method_26_code 70 = .ok (.dup, 1) := by decide +kernel
theorem d11_day_71 : decode prog_1_method_26_code 71 = .ok (.getfield 103, 3) := by decide +kernel
theorem d11_day_74 : decode prog_1_method_26_code 74 = .ok (.iconst 1, 1) := by decide +kernel
theorem d11_day_75 : decode prog_1_method_26_code 75 = .ok (.iadd, 1) := by decide +kernel
theorem d11_day_76 : decode prog_1_method_26_code 76 = .ok (.putfield 103, 3) := by decide +kernel
theorem d11_day_79 : decode prog_1_method_26_code 79 = .ok (.aload_n 0, 1) := by decide +kernel
theorem d11_day_80 : decode prog_1_method_26_code 80 = .ok (.getfield 103, 3) := by decide +kernel
theorem d11_day_83 : decode prog_1_method_26_code 83 = .ok (.ireturn, 1) := by decide +kernel
theorem d11_event_0 : decode prog_1_method_27_code 0 = .ok (.aload_n 0, 1) := by decide +kernel
theorem d11_event_1 : decode prog_1_method_27_code 1 = .ok (.getfield 28, 3) := by decide +kernel
theorem d11_event_4 : decode prog_1_method_27_code 4 = .ok (.iload_n 1, 1) := by decide +kernel
theorem d11_event_5 : decode prog_1_method_27_code 5 = .ok (.iload_n 2, 1) := by decide +kernel
theorem d11_event_6 : decode prog_1_method_27_code 6 = .ok (.invokevirtual 220, 3) := by decide +kernel
theorem d11_event_9 : decode prog_1_method_27_code 9 = .ok (.ireturn, 1) := by decide +kernel
theorem d11_plan_0 : decode prog_1_method_28_code 0 = .ok (.iload_n 1, 1) := by decide +kernel
theorem d11_plan_1 : decode prog_1_method_28_code 1 = .ok (.aload_n 0, 1) := by decide +kernel
theorem d11_plan_2 : decode prog_1_method_28_code 2 = .ok (.getfield 103, 3) := by decide +kernel
theorem d11_plan_5 : decode prog_1_method_28_code 5 = .ok (.if_icmp .lt 25, 3) := by decide +kernel
theorem d11_plan_8 : decode prog_1_method_28_code 8 = .ok (.iload_n 1, 1) := by decide +kernel
theorem d11_plan_9 : decode prog_1_method_28_code 9 = .ok (.sipush 999, 3) := by decide +kernel
theorem d11_plan_12 : decode prog_1_method_28_code 12 = .ok (.if_icmp .gt 18, 3) := by decide +kernel
theorem d11_plan_15 : decode prog_1_method_28_code 15 = .ok (.iload_n 3, 1) := by decide +kernel
theorem d11_plan_16 : decode prog_1_method_28_code 16 = .ok (.invokestatic 191, 3) := by decide +kernel
theorem d11_plan_19 : decode prog_1_method_28_code 19 = .ok (.ifCond .eq 11, 3) := by decide +kernel
theorem d11_plan_22 : decode prog_1_method_28_code 22 = .ok (.iload 4, 2) := by decide +kernel
theorem d11_plan_24 : decode prog_1_method_28_code 24 = .ok (.invokestatic 191, 3) := by decide +kernel
theorem d11_plan_27 : decode prog_1_method_28_code 27 = .ok (.ifCond .ne 5, 3) := by decide +kernel
theorem d11_plan_30 : decode prog_1_method_28_code 30 = .ok (.iconst (-1), 1) := by decide +kernel
theorem d11_plan_31 : decode prog_1_method_28_code 31 = .ok (.ireturn, 1) := by decide +kernel
theorem d11_plan_32 : decode prog_1_method_28_code 32 = .ok (.iload_n 3, 1) := by decide +kernel
theorem d11_plan_33 : decode prog_1_method_28_code 33 = .ok (.iload 4, 2) := by decide +kernel
theorem d11_plan_35 : decode prog_1_method_28_code 35 = .ok (.if_icmp .gt 22, 3) := by decide +kernel
theorem d11_plan_38 : decode prog_1_method_28_code 38 = .ok (.iload 4, 2) := by decide +kernel
theorem d11_plan_40 : decode prog_1_method_28_code 40 = .ok (.iload_n 3, 1) := by decide +kernel
theorem d11_plan_41 : decode prog_1_method_28_code 41 = .ok (.isub, 1) := by decide +kernel
theorem d11_plan_42 : decode prog_1_method_28_code 42 = .ok (.iconst 4, 1) := by decide +kernel
theorem d11_plan_43 : decode prog_1_method_28_code 43 = .ok (.if_icmp .ge 14, 3) := by decide +kernel
theorem d11_plan_46 : decode prog_1_method_28_code 46 = .ok (.aload_n 0, 1) := by decide +kernel
theorem d11_plan_47 : decode prog_1_method_28_code 47 = .ok (.getfield 12, 3) := by decide +kernel
theorem d11_plan_50 : decode prog_1_method_28_code 50 = .ok (.iload_n 2, 1) := by decide +kernel
theorem d11_plan_51 : decode prog_1_method_28_code 51 = .ok (.invokevirtual 223, 3) := by decide +kernel
theorem d11_plan_54 : decode prog_1_method_28_code 54 = .ok (.ifCond .ne 5, 3) := by decide +kernel
theorem d11_plan_57 : decode prog_1_method_28_code 57 = .ok (.iconst (-1), 1) := by decide +kernel
theorem d11_plan_58 : decode prog_1_method_28_code 58 = .ok (.ireturn, 1) := by decide +kernel
theorem d11_plan_59 : decode prog_1_method_28_code 59 = .ok (.aload_n 0, 1) := by decide +kernel
theorem d11_plan_60 : decode prog_1_method_28_code 60 = .ok (.getfield 44, 3) := by decide +kernel
theorem d11_plan_63 : decode prog_1_method_28_code 63 = .ok (.iload_n 1, 1) := by decide +kernel
theorem d11_plan_64 : decode prog_1_method_28_code 64 = .ok (.aload_n 0, 1) := by decide +kernel
theorem d11_plan_65 : decode prog_1_method_28_code 65 = .ok (.getfield 103, 3) := by decide +kernel
theorem d11_plan_68 : decode prog_1_method_28_code 68 = .ok (.iload_n 2, 1) := by decide +kernel
theorem d11_plan_69 : decode prog_1_method_28_code 69 = .ok (.iload_n 3, 1) := by decide +kernel
theorem d11_plan_70 : decode prog_1_method_28_code 70 = .ok (.iload 4, 2) := by decide +kernel
theorem d11_plan_72 : decode prog_1_method_28_code 72 = .ok (.invokevirtual 226, 3) := by decide +kernel
theorem d11_plan_75 : decode prog_1_method_28_code 75 = .ok (.ireturn, 1) := by decide +kernel
theorem d11_planned_0 : decode prog_1_method_29_code 0 = .ok (.aload_n 0, 1) := by decide +kernel
theorem d11_planned_1 : decode prog_1_method_29_code 1 = .ok (.getfield 44, 3) := by decide +kernel
theorem d11_planned_4 : decode prog_1_method_29_code 4 = .ok (.iload_n 1, 1) := by decide +kernel
theorem d11_planned_5 : decode prog_1_method_29_code 5 = .ok (.invokevirtual 229, 3) := by decide +kernel
theorem d11_planned_8 : decode prog_1_method_29_code 8 = .ok (.ifCond .eq 15, 3) := by decide +kernel
theorem d11_planned_11 : decode prog_1_method_29_code 11 = .ok (.aload_n 0, 1) := by decide +kernel
theorem d11_planned_12 : decode prog_1_method_29_code 12 = .ok (.getfield 44, 3) := by decide +kernel
theorem d11_planned_15 : decode prog_1_method_29_code 15 = .ok (.getfield 230, 3) := by decide +kernel
theorem d11_planned_18 : decode prog_1_method_29_code 18 = .ok (.iload_n 1, 1) := by decide +kernel
theorem d11_planned_19 : decode prog_1_method_29_code 19 = .ok (.iaload, 1) := by decide +kernel
theorem d11_planned_20 : decode prog_1_method_29_code 20 = .ok (.goto 5, 3) := by decide +kernel
theorem d11_planned_23 : decode prog_1_method_29_code 23 = .ok (.bipush (-2), 2) := by decide +kernel
theorem d11_planned_25 : decode prog_1_method_29_code 25 = .ok (.ireturn, 1) := by decide +kernel
theorem d11_moves_0 : decode prog_1_method_30_code 0 = .ok (.aload_n 0, 1) := by decide +kernel
theorem d11_moves_1 : decode prog_1_method_30_code 1 = .ok (.getfield 53, 3) := by decide +kernel
theorem d11_moves_4 : decode prog_1_method_30_code 4 = .ok (.aload_n 0, 1) := by decide +kernel
theorem d11_moves_5 : decode prog_1_method_30_code 5 = .ok (.invokevirtual 197, 3) := by decide +kernel
theorem d11_moves_8 : decode prog_1_method_30_code 8 = .ok (.invokevirtual 233, 3) := by decide +kernel
theorem d11_moves_11 : decode prog_1_method_30_code 11 = .ok (.ireturn, 1) := by decide +kernel
theorem d11_move_0 : decode prog_1_method_31_code 0 = .ok (.aload_n 0, 1) := by decide +kernel
theorem d11_move_1 : decode prog_1_method_31_code 1 = .ok (.getfield 53, 3) := by decide +kernel
theorem d11_move_4 : decode prog_1_method_31_code 4 = .ok (.aload_n 0, 1) := by decide +kernel
theorem d11_move_5 : decode prog_1_method_31_code 5 = .ok (.invokevirtual 197, 3) := by decide +kernel
theorem d11_move_8 : decode prog_1_method_31_code 8 = .ok (.invokevirtual 233, 3) := by decide +kernel
theorem d11_move_11 : decode prog_1_method_31_code 11 = .ok (.istore_n 3, 1) := by decide +kernel
theorem d11_move_12 : decode prog_1_method_31_code 12 = .ok (.iload_n 1, 1) := by decide +kernel
theorem d11_move_13 : decode prog_1_method_31_code 13 = .ok (.ifCond .lt 13, 3) := by decide +kernel
theorem d11_move_16 : decode prog_1_method_31_code 16 = .ok (.iload_n 1, 1) := by decide +kernel
theorem d11_move_17 : decode prog_1_method_31_code 17 = .ok (.iload_n 3, 1) := by decide +kernel
theorem d11_move_18 : decode prog_1_method_31_code 18 = .ok (.if_icmp .ge 8, 3) := by decide +kernel
theorem d11_move_21 : decode prog_1_method_31_code 21 = .ok (.iload_n 1, 1) := by decide +kernel
theorem d11_move_22 : decode prog_1_method_31_code 22 = .ok (.iconst 3, 1) := by decide +kernel
theorem d11_move_23 : decode prog_1_method_31_code 23 = .ok (.if_icmp .lt 5, 3) := by decide +kernel
theorem d11_move_26 : decode prog_1_method_31_code 26 = .ok (.iconst (-1), 1) := by decide +kernel
theorem d11_move_27 : decode prog_1_method_31_code 27 = .ok (.ireturn, 1) := by decide +kernel
theorem d11_move_28 : decode prog_1_method_31_code 28 = .ok (.iload_n 2, 1) := by decide +kernel
theorem d11_move_29 : decode prog_1_method_31_code 29 = .ok (.ifCond .ne 15, 3) := by decide +kernel
theorem d11_move_32 : decode prog_1_method_31_code 32 = .ok (.aload_n 0, 1) := by decide +kernel
theorem d11_move_33 : decode prog_1_method_31_code 33 = .ok (.getfield 53, 3) := by decide +kernel
theorem d11_move_36 : decode prog_1_method_31_code 36 = .ok (.getfield 236, 3) := by decide +kernel
theorem d11_move_39 : decode prog_1_method_31_code 39 = .ok (.iload_n 1, 1) := by decide +kernel
theorem d11_move_40 : decode prog_1_method_31_code 40 = .ok (.iaload, 1) := by decide +kernel
theorem d11_move_41 : decode prog_1_method_31_code 41 = .ok (.goto 21, 3) := by decide +kernel
theorem d11_move_44 : decode prog_1_method_31_code 44 = .ok (.iload_n 2, 1) := by decide +kernel
theorem d11_move_45 : decode prog_1_method_31_code 45 = .ok (.iconst 1, 1) := by decide +kernel
theorem d11_move_46 : decode prog_1_method_31_code 46 = .ok (.if_icmp .ne 15, 3) := by decide +kernel
theorem d11_move_49 : decode prog_1_method_31_code 49 = .ok (.aload_n 0, 1) := by decide +kernel
theorem d11_move_50 : decode prog_1_method_31_code 50 = .ok (.getfield 53, 3) := by decide +kernel
theorem d11_move_53 : decode prog_1_method_31_code 53 = .ok (.getfield 239, 3) := by decide +kernel
theorem d11_move_56 : decode prog_1_method_31_code 56 = .ok (.iload_n 1, 1) := by decide +kernel
theorem d11_move_57 : decode prog_1_method_31_code 57 = .ok (.iaload, 1) := by decide +kernel
theorem d11_move_58 : decode prog_1_method_31_code 58 = .ok (.goto 4, 3) := by decide +kernel
theorem d11_move_61 : decode prog_1_method_31_code 61 = .ok (.iconst (-1), 1) := by decide +kernel
theorem d11_move_62 : decode prog_1_method_31_code 62 = .ok (.ireturn, 1) := by decide +kernel
theorem d11_go_0 : decode prog_1_method_32_code 0 = .ok (.aload_n 0, 1) := by decide +kernel
theorem d11_go_1 : decode prog_1_method_32_code 1 = .ok (.getfield 53, 3) := by decide +kernel
theorem d11_go_4 : decode prog_1_method_32_code 4 = .ok (.aload_n 0, 1) := by decide +kernel
theorem d11_go_5 : decode prog_1_method_32_code 5 = .ok (.invokevirtual 197, 3) := by decide +kernel
theorem d11_go_8 : decode prog_1_method_32_code 8 = .ok (.invokevirtual 233, 3) := by decide +kernel
theorem d11_go_11 : decode prog_1_method_32_code 11 = .ok (.istore_n 1, 1) := by decide +kernel
theorem d11_go_12 : decode prog_1_method_32_code 12 = .ok (.iconst 0, 1) := by decide +kernel
theorem d11_go_13 : decode prog_1_method_32_code 13 = .ok (.istore_n 2, 1) := by decide +kernel
theorem d11_go_14 : decode prog_1_method_32_code 14 = .ok (.iload_n 2, 1) := by decide +kernel
theorem d11_go_15 : decode prog_1_method_32_code 15 = .ok (.iload_n 1, 1) := by decide +kernel
theorem d11_go_16 : decode prog_1_method_32_code 16 = .ok (.if_icmp .ge 53, 3) := by decide +kernel
theorem d11_go_19 : decode prog_1_method_32_code 19 = .ok (.iload_n 2, 1) := by decide +kernel
theorem d11_go_20 : decode prog_1_method_32_code 20 = .ok (.iconst 3, 1) := by decide +kernel
theorem d11_go_21 : decode prog_1_method_32_code 21 = .ok (.if_icmp .ge 48, 3) := by decide +kernel
theorem d11_go_24 : decode prog_1_method_32_code 24 = .ok (.aload_n 0, 1) := by decide +kernel
theorem d11_go_25 : decode prog_1_method_32_code 25 = .ok (.getfield 53, 3) := by decide +kernel
theorem d11_go_28 : decode prog_1_method_32_code 28 = .ok (.getfield 236, 3) := by decide +kernel
theorem d11_go_31 : decode prog_1_method_32_code 31 = .ok (.iload_n 2, 1) := by decide +kernel
theorem d11_go_32 : decode prog_1_method_32_code 32 = .ok (.iaload, 1) := by decide +kernel
theorem d11_go_33 : decode prog_1_method_32_code 33 = .ok (.istore_n 3, 1) := by decide +kernel
theorem d11_go_34 : decode prog_1_method_32_code 34 = .ok (.aload_n 0, 1) := by decide +kernel
theorem d11_go_35 : decode prog_1_method_32_code 35 = .ok (.getfield 12, 3) := by decide +kernel
theorem d11_go_38 : decode prog_1_method_32_code 38 = .ok (.iload_n 3, 1) := by decide +kernel
theorem d11_go_39 : decode prog_1_method_32_code 39 = .ok (.invokevirtual 89, 3) := by decide +kernel
theorem d11_go_42 : decode prog_1_method_32_code 42 = .ok (.ifCond .eq 21, 3) := by decide +kernel
theorem d11_go_45 : decode prog_1_method_32_code 45 = .ok (.aload_n 0, 1) := by decide +kernel
theorem d11_go_46 : decode prog_1_method_32_code 46 = .ok (.getfield 12, 3) := by decide +kernel
theorem d11_go_49 : decode prog_1_method_32_code 49 = .ok (.getfield 92, 3) := by decide +kernel
theorem d11_go_52 : decode prog_1_method_32_code 52 = .ok (.iload_n 3, 1) := by decide +kernel
theorem d11_go_53 : decode prog_1_method_32_code 53 = .ok (.aload_n 0, 1) := by decide +kernel
theorem d11_go_54 : decode prog_1_method_32_code 54 = .ok (.getfield 44, 3) := by decide +kernel
theorem d11_go_57 : decode prog_1_method_32_code 57 = .ok (.getfield 230, 3) := by decide +kernel
theorem d11_go_60 : decode prog_1_method_32_code 60 = .ok (.iload_n 3, 1) := by decide +kernel
theorem d11_go_61 : decode prog_1_method_32_code 61 = .ok (.iaload, 1) := by decide +kernel
theorem d11_go_62 : decode prog_1_method_32_code 62 = .ok (.iastore, 1) := by decide +kernel
theorem d11_go_63 : decode prog_1_method_32_code 63 = .ok (.iinc 2 1, 3) := by decide +kernel
theorem d11_go_66 : decode prog_1_method_32_code 66 = .ok (.goto (-52), 3) := by decide +kernel
theorem d11_go_69 : decode prog_1_method_32_code 69 = .ok (.iload_n 1, 1) := by decide +kernel
theorem d11_go_70 : decode prog_1_method_32_code 70 = .ok (.ireturn, 1) := by decide +kernel
theorem d11_millOf_0 : decode prog_1_method_33_code 0 = .ok (.aload_n 0, 1) := by decide +kernel
theorem d11_millOf_1 : decode prog_1_method_33_code 1 = .ok (.getfield 12, 3) := by decide +kernel
theorem d11_millOf_4 : decode prog_1_method_33_code 4 = .ok (.iload_n 1, 1) := by decide +kernel
theorem d11_millOf_5 : decode prog_1_method_33_code 5 = .ok (.invokevirtual 89, 3) := by decide +kernel
theorem d11_millOf_8 : decode prog_1_method_33_code 8 = .ok (.ifCond .eq 13, 3) := by decide +kernel
theorem d11_millOf_11 : decode prog_1_method_33_code 11 = .ok (.iload_n 2, 1) := by decide +kernel
theorem d11_millOf_12 : decode prog_1_method_33_code 12 = .ok (.ifCond .lt 9, 3) := by decide +kernel
theorem d11_millOf_15 : decode prog_1_method_33_code 15 = .ok (.iload_n 2, 1) := by decide +kernel
theorem d11_millOf_16 : decode prog_1_method_33_code 16 = .ok (.bipush 7, 2) := by decide +kernel
theorem d11_millOf_18 : decode prog_1_method_33_code 18 = .ok (.if_icmp .le 13, 3) := by decide +kernel
theorem d11_millOf_21 : decode prog_1_method_33_code 21 = .ok (.new 242, 3) := by decide +kernel
theorem d11_millOf_24 : decode prog_1_method_33_code 24 = .ok (.dup, 1) := by decide +kernel
theorem d11_millOf_25 : decode prog_1_method_33_code 25 = .ok (.ldc 244, 2) := by decide +kernel
theorem d11_millOf_27 : decode prog_1_method_33_code 27 = .ok (.invokespecial 246, 3) := by decide +kernel
theorem d11_millOf_30 : decode prog_1_method_33_code 30 = .ok (.athrow, 1) := by decide +kernel
theorem d11_millOf_31 : decode prog_1_method_33_code 31 = .ok (.aload_n 0, 1) := by decide +kernel
theorem d11_millOf_32 : decode prog_1_method_33_code 32 = .ok (.getfield 12, 3) := by decide +kernel
theorem d11_millOf_35 : decode prog_1_method_33_code 35 = .ok (.getfield 99, 3) := by decide +kernel
theorem d11_millOf_38 : decode prog_1_method_33_code 38 = .ok (.iload_n 1, 1) := by decide +kernel
theorem d11_millOf_39 : decode prog_1_method_33_code 39 = .ok (.aaload, 1) := by decide +kernel
theorem d11_millOf_40 : decode prog_1_method_33_code 40 = .ok (.astore_n 3, 1) := by decide +kernel
theorem d11_millOf_41 : decode prog_1_method_33_code 41 = .ok (.iload_n 2, 1) := by decide +kernel
theorem d11_millOf_42 : decode prog_1_method_33_code 42 = .ok (.tableswitch 82 0 6 #[42, 52, 57, 62, 67, 72, 77], 42) := by decide +kernel
theorem d11_millOf_84 : decode prog_1_method_33_code 84 = .ok (.aload_n 0, 1) := by decide +kernel
theorem d11_millOf_85 : decode prog_1_method_33_code 85 = .ok (.getfield 12, 3) := by decide +kernel
theorem d11_millOf_88 : decode prog_1_method_33_code 88 = .ok (.getfield 92, 3) := by decide +kernel
theorem d11_millOf_91 : decode prog_1_method_33_code 91 = .ok (.iload_n 1, 1) := by decide +kernel
theorem d11_millOf_92 : decode prog_1_method_33_code 92 = .ok (.iaload, 1) := by decide +kernel
theorem d11_millOf_93 : decode prog_1_method_33_code 93 = .ok (.ireturn, 1) := by decide +kernel
theorem d11_millOf_94 : decode prog_1_method_33_code 94 = .ok (.aload_n 3, 1) := by decide +kernel
theorem d11_millOf_95 : decode prog_1_method_33_code 95 = .ok (.getfield 249, 3) := by decide +kernel
theorem d11_millOf_98 : decode prog_1_method_33_code 98 = .ok (.ireturn, 1) := by decide +kernel
theorem d11_millOf_99 : decode prog_1_method_33_code 99 = .ok (.aload_n 3, 1) := by decide +kernel
theorem d11_millOf_100 : decode prog_1_method_33_code 100 = .ok (.getfield 252, 3) := by decide +kernel
theorem d11_millOf_103 : decode prog_1_method_33_code 103 = .ok (.ireturn, 1) := by decide +kernel
theorem d11_millOf_104 : decode prog_1_method_33_code 104 = .ok (.aload_n 3, 1) := by decide +kernel
theorem d11_millOf_105 : decode prog_1_method_33_code 105 = .ok (.getfield 255, 3) := by decide +kernel
theorem d11_millOf_108 : decode prog_1_method_33_code 108 = .ok (.ireturn, 1) := by decide +kernel
theorem d11_millOf_109 : decode prog_1_method_33_code 109 = .ok (.aload_n 3, 1) := by decide +kernel
theorem d11_millOf_110 : decode prog_1_method_33_code 110 = .ok (.invokevirtual 258, 3) := by decide +kernel
theorem d11_millOf_113 : decode prog_1_method_33_code 113 = .ok (.ireturn, 1) := by decide +kernel
theorem d11_millOf_114 : decode prog_1_method_33_code 114 = .ok (.aload_n 3, 1) := by decide +kernel
theorem d11_millOf_115 : decode prog_1_method_33_code 115 = .ok (.getfield 261, 3) := by decide +kernel
theorem d11_millOf_118 : decode prog_1_method_33_code 118 = .ok (.ireturn, 1) := by decide +kernel
theorem d11_millOf_119 : decode prog_1_method_33_code 119 = .ok (.aload_n 3, 1) := by decide +kernel
theorem d11_millOf_120 : decode prog_1_method_33_code 120 = .ok (.getfield 264, 3) := by decide +kernel
theorem d11_millOf_123 : decode prog_1_method_33_code 123 = .ok (.ireturn, 1) := by decide +kernel
theorem d11_millOf_124 : decode prog_1_method_33_code 124 = .ok (.aload_n 3, 1) := by decide +kernel
theorem d11_millOf_125 : decode prog_1_method_33_code 125 = .ok (.getfield 267, 3) := by decide +kernel
theorem d11_millOf_128 : decode prog_1_method_33_code 128 = .ok (.aload_n 0, 1) := by decide +kernel
theorem d11_millOf_129 : decode prog_1_method_33_code 129 = .ok (.getfield 103, 3) := by decide +kernel
theorem d11_millOf_132 : decode prog_1_method_33_code 132 = .ok (.if_icmp .ne 7, 3) := by decide +kernel
theorem d11_millOf_135 : decode prog_1_method_33_code 135 = .ok (.iconst 1, 1) := by decide +kernel
theorem d11_millOf_136 : decode prog_1_method_33_code 136 = .ok (.goto 4, 3) := by decide +kernel
theorem d11_millOf_139 : decode prog_1_method_33_code 139 = .ok (.iconst 0, 1) := by decide +kernel
theorem d11_millOf_140 : decode prog_1_method_33_code 140 = .ok (.ireturn, 1) := by decide +kernel
theorem d11_orderOf_0 : decode prog_1_method_34_code 0 = .ok (.aload_n 0, 1) := by decide +kernel
theorem d11_orderOf_1 : decode prog_1_method_34_code 1 = .ok (.getfield 37, 3) := by decide +kernel
theorem d11_orderOf_4 : decode prog_1_method_34_code 4 = .ok (.iload_n 1, 1) := by decide +kernel
theorem d11_orderOf_5 : decode prog_1_method_34_code 5 = .ok (.iload_n 2, 1) := by decide +kernel
theorem d11_orderOf_6 : decode prog_1_method_34_code 6 = .ok (.invokevirtual 270, 3) := by decide +kernel
theorem d11_orderOf_9 : decode prog_1_method_34_code 9 = .ok (.ireturn, 1) := by decide +kernel
theorem d11_count_0 : decode prog_1_method_35_code 0 = .ok (.iload_n 1, 1) := by decide +kernel
theorem d11_count_1 : decode prog_1_method_35_code 1 = .ok (.tableswitch 155 0 11 #[63, 71, 79, 84, 92, 97, 106, 115, 123, 131, 139, 147], 63) := by decide +kernel
theorem d11_count_64 : decode prog_1_method_35_code 64 = .ok (.aload_n 0, 1) := by decide +kernel
theorem d11_count_65 : decode prog_1_method_35_code 65 = .ok (.getfield 12, 3) := by decide +kernel
theorem d11_count_68 : decode prog_1_method_35_code 68 = .ok (.getfield 271, 3) := by decide +kernel
theorem d11_count_71 : decode prog_1_method_35_code 71 = .ok (.ireturn, 1) := by decide +kernel
theorem d11_count_72 : decode prog_1_method_35_code 72 = .ok (.aload_n 0, 1) := by decide +kernel
theorem d11_count_73 : decode prog_1_method_35_code 73 = .ok (.getfield 37, 3) := by decide +kernel
theorem d11_count_76 : decode prog_1_method_35_code 76 = .ok (.getfield 274, 3) := by decide +kernel
theorem d11_count_79 : decode prog_1_method_35_code 79 = .ok (.ireturn, 1) := by decide +kernel
theorem d11_count_80 : decode prog_1_method_35_code 80 = .ok (.aload_n 0, 1) := by decide +kernel
theorem d11_count_81 : decode prog_1_method_35_code 81 = .ok (.getfield 103, 3) := by decide +kernel
theorem d11_count_84 : decode prog_1_method_35_code 84 = .ok (.ireturn, 1) := by decide +kernel
theorem d11_count_85 : decode prog_1_method_35_code 85 = .ok (.aload_n 0, 1) := by decide +kernel
theorem d11_count_86 : decode prog_1_method_35_code 86 = .ok (.getfield 28, 3) := by decide +kernel
theorem d11_count_89 : decode prog_1_method_35_code 89 = .ok (.getfield 275, 3) := by decide +kernel
theorem d11_count_92 : decode prog_1_method_35_code 92 = .ok (.ireturn, 1) := by decide +kernel
theorem d11_count_93 : decode prog_1_method_35_code 93 = .ok (.aload_n 0, 1) := by decide +kernel
theorem d11_count_94 : decode prog_1_method_35_code 94 = .ok (.getfield 154, 3) := by decide +kernel
theorem d11_count_97 : decode prog_1_method_35_code 97 = .ok (.ireturn, 1) := by decide +kernel
theorem d11_count_98 : decode prog_1_method_35_code 98 = .ok (.aload_n 0, 1) := by decide +kernel
theorem d11_count_99 : decode prog_1_method_35_code 99 = .ok (.getfield 21, 3) := by decide +kernel
theorem d11_count_102 : decode prog_1_method_35_code 102 = .ok (.iconst 0, 1) := by decide +kernel
theorem d11_count_103 : decode prog_1_method_35_code 103 = .ok (.invokevirtual 276, 3) := by decide +kernel
theorem d11_count_106 : decode prog_1_method_35_code 106 = .ok (.ireturn, 1) := by decide +kernel
theorem d11_count_107 : decode prog_1_method_35_code 107 = .ok (.aload_n 0, 1) := by decide +kernel
theorem d11_count_108 : decode prog_1_method_35_code 108 = .ok (.getfield 21, 3) := by decide +kernel
theorem d11_count_111 : decode prog_1_method_35_code 111 = .ok (.iconst 1, 1) := by decide +kernel
theorem d11_count_112 : decode prog_1_method_35_code 112 = .ok (.invokevirtual 276, 3) := by decide +kernel
theorem d11_count_115 : decode prog_1_method_35_code 115 = .ok (.ireturn, 1) := by decide +kernel
theorem d11_count_116 : decode prog_1_method_35_code 116 = .ok (.aload_n 0, 1) := by decide +kernel
theorem d11_count_117 : decode prog_1_method_35_code 117 = .ok (.getfield 37, 3) := by decide +kernel
theorem d11_count_120 : decode prog_1_method_35_code 120 = .ok (.invokevirtual 279, 3) := by decide +kernel
theorem d11_count_123 : decode prog_1_method_35_code 123 = .ok (.ireturn, 1) := by decide +kernel
theorem d11_count_124 : decode prog_1_method_35_code 124 = .ok (.aload_n 0, 1) := by decide +kernel
theorem d11_count_125 : decode prog_1_method_35_code 125 = .ok (.getfield 12, 3) := by decide +kernel
theorem d11_count_128 : decode prog_1_method_35_code 128 = .ok (.invokevirtual 282, 3) := by decide +kernel
theorem d11_count_131 : decode prog_1_method_35_code 131 = .ok (.ireturn, 1) := by decide +kernel
theorem d11_count_132 : decode prog_1_method_35_code 132 = .ok (.aload_n 0, 1) := by decide +kernel
theorem d11_count_133 : decode prog_1_method_35_code 133 = .ok (.getfield 12, 3) := by decide +kernel
theorem d11_count_136 : decode prog_1_method_35_code 136 = .ok (.invokevirtual 285, 3) := by decide +kernel
theorem d11_count_139 : decode prog_1_method_35_code 139 = .ok (.ireturn, 1) := by decide +kernel
theorem d11_count_140 : decode prog_1_method_35_code 140 = .ok (.aload_n 0, 1) := by decide +kernel
theorem d11_count_141 : decode prog_1_method_35_code 141 = .ok (.getfield 12, 3) := by decide +kernel
theorem d11_count_144 : decode prog_1_method_35_code 144 = .ok (.invokevirtual 288, 3) := by decide +kernel
theorem d11_count_147 : decode prog_1_method_35_code 147 = .ok (.ireturn, 1) := by decide +kernel
theorem d11_count_148 : decode prog_1_method_35_code 148 = .ok (.aload_n 0, 1) := by decide +kernel
theorem d11_count_149 : decode prog_1_method_35_code 149 = .ok (.getfield 12, 3) := by decide +kernel
theorem d11_count_152 : decode prog_1_method_35_code 152 = .ok (.invokevirtual 291, 3) := by decide +kernel
theorem d11_count_155 : decode prog_1_method_35_code 155 = .ok (.ireturn, 1) := by decide +kernel
theorem d11_count_156 : decode prog_1_method_35_code 156 = .ok (.iconst (-1), 1) := by decide +kernel
theorem d11_count_157 : decode prog_1_method_35_code 157 = .ok (.ireturn, 1) := by decide +kernel
abbrev m11_rules : MD := ("MillBoats", ⟨"MillBoats", "rules", "(II)I"⟩, prog_1_method_18_code, 4, (some Jvm.ClassFile.FieldType.int))
theorem k11_rules : okY m11_rules.2.1 2 := ⟨by decide +kernel, by decide +kernel, by decide +kernel⟩
def f11_rules (σ : St) (v0 : Nat) (v1 : Int32) (v2 : Int32) : Option (Int32 × St) :=
  bd (f11_isShore σ v1) fun r1 t2 => (
  (if r1 = (0 : Int32) then
  some ((-1 : Int32), t2)
  else
  bd (f11_isDay t2 v2) fun r6 t7 => (
  (if r6 = (0 : Int32) then
  some ((-1 : Int32), t7)
  else
  gd (ob t7 v0 11) (
  lt (sR t7 v0 1) fun b12 => (
  gd (nz b12) (
  gd (ob t7 b12 4) (
  bd (f4_isFull t7 b12 v1) fun r16 t17 => (
  (if r16 = (0 : Int32) then
  lt (sR t17 v0 1) fun b21 => (
  gd (nz b21) (
  gd (ob t17 b21 4) (
  lt (sR t17 b21 5) fun b25 => (
  gd (nz b25) (
  lt (sR t17 v0 6) fun b28 => (
  gd (nz b28) (
  gd (ob t17 b25 7) (
  bd (f7_read t17 b25 b28 (sI t17 v0 7)) fun r32 t33 => (
  lt (wI t33 v0 7 (0 : Int32)) fun t36 => (
  (if r32 = (0 : Int32) then
  lt (sR t36 v0 1) fun b39 => (
  gd (nz b39) (
  gd (ob t36 b39 4) (
  bd (f4_keep t36 b39 v1 v2 (sI t36 v0 8)) fun r43 t44 => (
  some (r43, t44)))))
  else
  some ((-1 : Int32) - r32, t36))))))))))))
  else
  some ((-1 : Int32), t17)))))))))))
set_option maxRecDepth 50000 in
theorem s11_rules : ∀ (σ : St) (v0 : Nat) (v1 : Int32) (v2 : Int32) (r : Int32) (τ : St), f11_rules σ v0 v1 v2 = some (r, τ) → Call 73 m11_rules [.ref v0, .int v1, .int v2] σ (some (.int r)) τ := by
  intro σ v0 v1 v2 r τ hf
  unfold f11_rules at hf
  refine Call.of (by decide +kernel) rfl (Nat.le_of_ble_eq_true rfl) ?_
  refine ev_iload_n (j := 1) (i := 1) (q := 1) rfl rfl d11_rules_0 ?_
  obtain ⟨r1, t2, k3, hf⟩ := bd_some hf
  have q4 := s11_isShore _ _ _ _ k3
  refine ev_callS (vs := [.int v1]) (sk := []) q4 (by decide) (Nat.le_of_ble_eq_true rfl) w713 w714 w1 w715 k11_isShore rfl (Nat.le_of_ble_eq_true rfl) d11_rules_1 ?_
  rcases ite_some hf with ⟨c5, hf⟩ | ⟨c5, hf⟩
  · refine ev_if_eq_P (tgt := 25) c5 (by decide) d11_rules_4 ?_
    refine ev_iconst ci_m1 d11_rules_25 ?_
    obtain ⟨rfl, rfl⟩ := ret_some hf
    exact ev_iret rfl d11_rules_26
  · refine ev_if_eq_Q (tgt := 25) c5 (by decide) d11_rules_4 ?_
    refine ev_iload_n (j := 2) (i := 2) (q := 2) rfl rfl d11_rules_7 ?_
    obtain ⟨r6, t7, k8, hf⟩ := bd_some hf
    have q9 := s11_isDay _ _ _ _ k8
    refine ev_callS (vs := [.int v2]) (sk := []) q9 (by decide) (Nat.le_of_ble_eq_true rfl) w662 w663 w1 w664 k11_isDay rfl (Nat.le_of_ble_eq_true rfl) d11_rules_8 ?_
    rcases ite_some hf with ⟨c10, hf⟩ | ⟨c10, hf⟩
    · refine ev_if_eq_P (tgt := 25) c10 (by decide) d11_rules_11 ?_
      refine ev_iconst ci_m1 d11_rules_25 ?_
      obtain ⟨rfl, rfl⟩ := ret_some hf
      exact ev_iret rfl d11_rules_26
    · refine ev_if_eq_Q (tgt := 25) c10 (by decide) d11_rules_11 ?_
      refine ev_aload_n (j := 0) (i := 0) (q := 0) rfl rfl d11_rules_14 ?_
      obtain ⟨h11, hf⟩ := gd_some hf
      obtain ⟨b12, e13, hf⟩ := lt_some hf
      obtain ⟨h14, hf⟩ := gd_some hf
      refine ev_getRb cls11 (j := 1) (by decide) rfl w508 h11 e13 (nz_ne h14) d11_rules_15 ?_
      refine ev_iload_n (j := 1) (i := 1) (q := 1) rfl rfl d11_rules_18 ?_
      obtain ⟨h15, hf⟩ := gd_some hf
      obtain ⟨r16, t17, k18, hf⟩ := bd_some hf
      have q19 := s4_isFull _ _ _ _ _ k18
      refine ev_callV (vs := [.int v1]) (sk := []) cls4 h15 q19 (by decide) (Nat.le_of_ble_eq_true rfl) w716 w717 w718 w6 w719 k4_isFull rfl (Nat.le_of_ble_eq_true rfl) d11_rules_19 ?_
      rcases ite_some hf with ⟨c20, hf⟩ | ⟨c20, hf⟩
      · refine ev_if_eq_P (tgt := 27) c20 (by decide) d11_rules_22 ?_
        refine ev_aload_n (j := 0) (i := 0) (q := 0) rfl rfl d11_rules_27 ?_
        obtain ⟨b21, e22, hf⟩ := lt_some hf
        obtain ⟨h23, hf⟩ := gd_some hf
        refine ev_getRb cls11 (j := 1) (by decide) rfl w508 (mono_ob q19.1 h11) e22 (nz_ne h23) d11_rules_28 ?_
        obtain ⟨h24, hf⟩ := gd_some hf
        obtain ⟨b25, e26, hf⟩ := lt_some hf
        obtain ⟨h27, hf⟩ := gd_some hf
        refine ev_getRNb cls4 (j := 5) (by decide) rfl w324 h24 e26 (nz_ne h27) d11_rules_31 ?_
        refine ev_aload_n (j := 0) (i := 0) (q := 0) rfl rfl d11_rules_34 ?_
        obtain ⟨b28, e29, hf⟩ := lt_some hf
        obtain ⟨h30, hf⟩ := gd_some hf
        refine ev_getRb cls11 (j := 6) (by decide) rfl w513 (mono_ob q19.1 h11) e29 (nz_ne h30) d11_rules_35 ?_
        refine ev_aload_n (j := 0) (i := 0) (q := 0) rfl rfl d11_rules_38 ?_
        refine ev_getI cls11 (j := 7) (by decide) rfl w514 (mono_ob q19.1 h11) d11_rules_39 ?_
        obtain ⟨h31, hf⟩ := gd_some hf
        obtain ⟨r32, t33, k34, hf⟩ := bd_some hf
        have q35 := s7_read _ _ _ _ _ _ k34
        refine ev_callV (vs := [.ref b28, .int (sI t17 v0 7)]) (sk := []) cls7 h31 q35 (by decide) (Nat.le_of_ble_eq_true rfl) w720 w721 w722 w9 w723 k7_read rfl (Nat.le_of_ble_eq_true rfl) d11_rules_42 ?_
        refine ev_istore_n (lv2 := [(3, .int r32), (0, .ref v0), (1, .int v1), (2, .int v2)]) (j := 3) (i := 3) rfl (by decide) rfl d11_rules_45 ?_
        refine ev_aload_n (j := 0) (i := 0) (q := 1) rfl rfl d11_rules_46 ?_
        refine ev_iconst ci_0 d11_rules_47 ?_
        obtain ⟨t36, e37, hf⟩ := lt_some hf
        refine ev_putI cls11 (j := 7) (by decide) rfl rfl w514 (mono_ob q35.1 (mono_ob q19.1 h11)) (fun _ => ⟨rfl, rfl⟩) d11_rules_48 (ev_nmS e37 ?_)
        refine ev_iload_n (j := 3) (i := 3) (q := 0) rfl rfl d11_rules_51 ?_
        rcases ite_some hf with ⟨c38, hf⟩ | ⟨c38, hf⟩
        · refine ev_if_ne_P (tgt := 71) c38 (by decide) d11_rules_52 ?_
          refine ev_aload_n (j := 0) (i := 0) (q := 1) rfl rfl d11_rules_55 ?_
          obtain ⟨b39, e40, hf⟩ := lt_some hf
          obtain ⟨h41, hf⟩ := gd_some hf
          refine ev_getRb cls11 (j := 1) (by decide) rfl w508 (mono_ob (mono_eI e37) (mono_ob q35.1 (mono_ob q19.1 h11))) e40 (nz_ne h41) d11_rules_56 ?_
          refine ev_iload_n (j := 1) (i := 1) (q := 2) rfl rfl d11_rules_59 ?_
          refine ev_iload_n (j := 2) (i := 2) (q := 3) rfl rfl d11_rules_60 ?_
          refine ev_aload_n (j := 0) (i := 0) (q := 1) rfl rfl d11_rules_61 ?_
          refine ev_getI cls11 (j := 8) (by decide) rfl w515 (mono_ob (mono_eI e37) (mono_ob q35.1 (mono_ob q19.1 h11))) d11_rules_62 ?_
          obtain ⟨h42, hf⟩ := gd_some hf
          obtain ⟨r43, t44, k45, hf⟩ := bd_some hf
          have q46 := s4_keep _ _ _ _ _ _ _ k45
          refine ev_callV (vs := [.int v1, .int v2, .int (sI t36 v0 8)]) (sk := []) cls4 h42 q46 (by decide) (Nat.le_of_ble_eq_true rfl) w836 w837 w838 w6 w839 k4_keep rfl (Nat.le_of_ble_eq_true rfl) d11_rules_65 ?_
          refine ev_goto (tgt := 74) (by decide) d11_rules_68 ?_
          obtain ⟨rfl, rfl⟩ := ret_some hf
          exact ev_iret rfl d11_rules_74
        · refine ev_if_ne_Q (tgt := 71) c38 (by decide) d11_rules_52 ?_
          refine ev_iconst ci_m1 d11_rules_71 ?_
          refine ev_iload_n (j := 3) (i := 3) (q := 0) rfl rfl d11_rules_72 ?_
          refine ev_isub d11_rules_73 ?_
          obtain ⟨rfl, rfl⟩ := ret_some hf
          exact ev_iret rfl d11_rules_74
      · refine ev_if_eq_Q (tgt := 27) c20 (by decide) d11_rules_22 ?_
        refine ev_iconst ci_m1 d11_rules_25 ?_
        obtain ⟨rfl, rfl⟩ := ret_some hf
        exact ev_iret rfl d11_rules_26
abbrev m11_place : MD := ("MillBoats", ⟨"MillBoats", "place", "()I"⟩, prog_1_method_19_code, 1, (some Jvm.ClassFile.FieldType.int))
theorem k11_place : okY m11_place.2.1 0 := ⟨by decide +kernel, by decide +kernel, by decide +kernel⟩
def f11_place (σ : St) (v0 : Nat) : Option (Int32 × St) :=
  gd (ob σ v0 11) (
  lt (sR σ v0 1) fun b2 => (
  gd (nz b2) (
  gd (ob σ b2 4) (
  lt (sR σ b2 5) fun b6 => (
  gd (nz b6) (
  gd (ob σ b6 7) (
  some (sI σ b6 12, σ))))))))
set_option maxRecDepth 50000 in
theorem s11_place : ∀ (σ : St) (v0 : Nat) (r : Int32) (τ : St), f11_place σ v0 = some (r, τ) → Call 2 m11_place [.ref v0] σ (some (.int r)) τ := by
  intro σ v0 r τ hf
  unfold f11_place at hf
  refine Call.of (by decide +kernel) rfl (Nat.le_of_ble_eq_true rfl) ?_
  refine ev_aload_n (j := 0) (i := 0) (q := 0) rfl rfl d11_place_0 ?_
  obtain ⟨h1, hf⟩ := gd_some hf
  obtain ⟨b2, e3, hf⟩ := lt_some hf
  obtain ⟨h4, hf⟩ := gd_some hf
  refine ev_getRb cls11 (j := 1) (by decide) rfl w508 h1 e3 (nz_ne h4) d11_place_1 ?_
  obtain ⟨h5, hf⟩ := gd_some hf
  obtain ⟨b6, e7, hf⟩ := lt_some hf
  obtain ⟨h8, hf⟩ := gd_some hf
  refine ev_getRNb cls4 (j := 5) (by decide) rfl w324 h5 e7 (nz_ne h8) d11_place_4 ?_
  obtain ⟨h9, hf⟩ := gd_some hf
  refine ev_getIN cls7 (j := 12) (by decide) rfl w285 h9 d11_place_7 ?_
  obtain ⟨rfl, rfl⟩ := ret_some hf
  exact ev_iret rfl d11_place_10
abbrev m11_barred : MD := ("MillBoats", ⟨"MillBoats", "barred", "(IIII)I"⟩, prog_1_method_20_code, 5, (some Jvm.ClassFile.FieldType.int))
theorem k11_barred : okY m11_barred.2.1 4 := ⟨by decide +kernel, by decide +kernel, by decide +kernel⟩
def f11_barred (σ : St) (v0 : Nat) (v1 : Int32) (v2 : Int32) (v3 : Int32) (v4 : Int32) : Option (Int32 × St) :=
  gd (ob σ v0 11) (
  lt (sR σ v0 0) fun b2 => (
  gd (nz b2) (
  gd (ob σ b2 8) (
  bd (f8_has σ b2 v1) fun r6 t7 => (
  (if r6 = (0 : Int32) then
  some ((-1 : Int32), t7)
  else
  bd (f11_isBerth t7 v2) fun r11 t12 => (
  (if r11 = (0 : Int32) then
  some ((-1 : Int32), t12)
  else
  bd (f11_isDay t12 v3) fun r16 t17 => (
  (if r16 = (0 : Int32) then
  some ((-1 : Int32), t17)
  else
  bd (f11_isKnownDay t17 v0 v4) fun r21 t22 => (
  (if r21 = (0 : Int32) then
  some ((-1 : Int32), t22)
  else
  lt (sR t22 v0 1) fun b26 => (
  gd (nz b26) (
  gd (ob t22 b26 4) (
  bd (f4_standing t22 b26 v1 v2 v3 v4) fun r30 t31 => (
  some (r30, t31)))))))))))))))))
set_option maxRecDepth 50000 in
theorem s11_barred : ∀ (σ : St) (v0 : Nat) (v1 : Int32) (v2 : Int32) (v3 : Int32) (v4 : Int32) (r : Int32) (τ : St), f11_barred σ v0 v1 v2 v3 v4 = some (r, τ) → Call 7 m11_barred [.ref v0, .int v1, .int v2, .int v3, .int v4] σ (some (.int r)) τ := by
  intro σ v0 v1 v2 v3 v4 r τ hf
  unfold f11_barred at hf
  refine Call.of (by decide +kernel) rfl (Nat.le_of_ble_eq_true rfl) ?_
  refine ev_aload_n (j := 0) (i := 0) (q := 0) rfl rfl d11_barred_0 ?_
  obtain ⟨h1, hf⟩ := gd_some hf
  obtain ⟨b2, e3, hf⟩ := lt_some hf
  obtain ⟨h4, hf⟩ := gd_some hf
  refine ev_getRb cls11 (j := 0) (by decide) rfl w507 h1 e3 (nz_ne h4) d11_barred_1 ?_
  refine ev_iload_n (j := 1) (i := 1) (q := 1) rfl rfl d11_barred_4 ?_
  obtain ⟨h5, hf⟩ := gd_some hf
  obtain ⟨r6, t7, k8, hf⟩ := bd_some hf
  have q9 := s8_has _ _ _ _ _ k8
  refine ev_callV (vs := [.int v1]) (sk := []) cls8 h5 q9 (by decide) (Nat.le_of_ble_eq_true rfl) w576 w577 w578 w2 w579 k8_has rfl (Nat.le_of_ble_eq_true rfl) d11_barred_5 ?_
  rcases ite_some hf with ⟨c10, hf⟩ | ⟨c10, hf⟩
  · refine ev_if_eq_P (tgt := 34) c10 (by decide) d11_barred_8 ?_
    refine ev_iconst ci_m1 d11_barred_34 ?_
    obtain ⟨rfl, rfl⟩ := ret_some hf
    exact ev_iret rfl d11_barred_35
  · refine ev_if_eq_Q (tgt := 34) c10 (by decide) d11_barred_8 ?_
    refine ev_iload_n (j := 2) (i := 2) (q := 2) rfl rfl d11_barred_11 ?_
    obtain ⟨r11, t12, k13, hf⟩ := bd_some hf
    have q14 := s11_isBerth _ _ _ _ k13
    refine ev_callS (vs := [.int v2]) (sk := []) q14 (by decide) (Nat.le_of_ble_eq_true rfl) w539 w540 w1 w541 k11_isBerth rfl (Nat.le_of_ble_eq_true rfl) d11_barred_12 ?_
    rcases ite_some hf with ⟨c15, hf⟩ | ⟨c15, hf⟩
    · refine ev_if_eq_P (tgt := 34) c15 (by decide) d11_barred_15 ?_
      refine ev_iconst ci_m1 d11_barred_34 ?_
      obtain ⟨rfl, rfl⟩ := ret_some hf
      exact ev_iret rfl d11_barred_35
    · refine ev_if_eq_Q (tgt := 34) c15 (by decide) d11_barred_15 ?_
      refine ev_iload_n (j := 3) (i := 3) (q := 3) rfl rfl d11_barred_18 ?_
      obtain ⟨r16, t17, k18, hf⟩ := bd_some hf
      have q19 := s11_isDay _ _ _ _ k18
      refine ev_callS (vs := [.int v3]) (sk := []) q19 (by decide) (Nat.le_of_ble_eq_true rfl) w662 w663 w1 w664 k11_isDay rfl (Nat.le_of_ble_eq_true rfl) d11_barred_19 ?_
      rcases ite_some hf with ⟨c20, hf⟩ | ⟨c20, hf⟩
      · refine ev_if_eq_P (tgt := 34) c20 (by decide) d11_barred_22 ?_
        refine ev_iconst ci_m1 d11_barred_34 ?_
        obtain ⟨rfl, rfl⟩ := ret_some hf
        exact ev_iret rfl d11_barred_35
      · refine ev_if_eq_Q (tgt := 34) c20 (by decide) d11_barred_22 ?_
        refine ev_aload_n (j := 0) (i := 0) (q := 0) rfl rfl d11_barred_25 ?_
        refine ev_iload (i := 4) (q := 4) rfl d11_barred_26 ?_
        obtain ⟨r21, t22, k23, hf⟩ := bd_some hf
        have q24 := s11_isKnownDay _ _ _ _ _ k23
        refine ev_callV (vs := [.int v4]) (sk := []) cls11 (mono_ob q19.1 (mono_ob q14.1 (mono_ob q9.1 h1))) q24 (by decide) (Nat.le_of_ble_eq_true rfl) w677 w679 ws0 w1 w680 k11_isKnownDay rfl (Nat.le_of_ble_eq_true rfl) d11_barred_28 ?_
        rcases ite_some hf with ⟨c25, hf⟩ | ⟨c25, hf⟩
        · refine ev_if_ne_P (tgt := 36) c25 (by decide) d11_barred_31 ?_
          refine ev_iconst ci_m1 d11_barred_34 ?_
          obtain ⟨rfl, rfl⟩ := ret_some hf
          exact ev_iret rfl d11_barred_35
        · refine ev_if_ne_Q (tgt := 36) c25 (by decide) d11_barred_31 ?_
          refine ev_aload_n (j := 0) (i := 0) (q := 0) rfl rfl d11_barred_36 ?_
          obtain ⟨b26, e27, hf⟩ := lt_some hf
          obtain ⟨h28, hf⟩ := gd_some hf
          refine ev_getRb cls11 (j := 1) (by decide) rfl w508 (mono_ob q24.1 (mono_ob q19.1 (mono_ob q14.1 (mono_ob q9.1 h1)))) e27 (nz_ne h28) d11_barred_37 ?_
          refine ev_iload_n (j := 1) (i := 1) (q := 1) rfl rfl d11_barred_40 ?_
          refine ev_iload_n (j := 2) (i := 2) (q := 2) rfl rfl d11_barred_41 ?_
          refine ev_iload_n (j := 3) (i := 3) (q := 3) rfl rfl d11_barred_42 ?_
          refine ev_iload (i := 4) (q := 4) rfl d11_barred_43 ?_
          obtain ⟨h29, hf⟩ := gd_some hf
          obtain ⟨r30, t31, k32, hf⟩ := bd_some hf
          have q33 := s4_standing _ _ _ _ _ _ _ _ k32
          refine ev_callV (vs := [.int v1, .int v2, .int v3, .int v4]) (sk := []) cls4 h29 q33 (by decide) (Nat.le_of_ble_eq_true rfl) w856 w857 w858 w6 w859 k4_standing rfl (Nat.le_of_ble_eq_true rfl) d11_barred_45 ?_
          obtain ⟨rfl, rfl⟩ := ret_some hf
          exact ev_iret rfl d11_barred_48
abbrev m11_word : MD := ("MillBoats", ⟨"MillBoats", "word", "(IIIII)I"⟩, prog_1_method_21_code, 6, (some Jvm.ClassFile.FieldType.int))
theorem k11_word : okY m11_word.2.1 5 := ⟨by decide +kernel, by decide +kernel, by decide +kernel⟩
def f11_word (σ : St) (v0 : Nat) (v1 : Int32) (v2 : Int32) (v3 : Int32) (v4 : Int32) (v5 : Int32) : Option (Int32 × St) :=
  bd (f11_isShore σ v1) fun r1 t2 => (
  (if r1 = (0 : Int32) then
  some ((-1 : Int32), t2)
  else
  gd (ob t2 v0 11) (
  lt (sR t2 v0 0) fun b7 => (
  gd (nz b7) (
  gd (ob t2 b7 8) (
  bd (f8_has t2 b7 v2) fun r11 t12 => (
  (if r11 = (0 : Int32) then
  some ((-1 : Int32), t12)
  else
  bd (f11_isBerth t12 v3) fun r16 t17 => (
  (if r16 = (0 : Int32) then
  some ((-1 : Int32), t17)
  else
  bd (f11_isDay t17 v4) fun r21 t22 => (
  (if r21 = (0 : Int32) then
  some ((-1 : Int32), t22)
  else
  bd (f11_isKnownDay t22 v0 v5) fun r26 t27 => (
  (if r26 = (0 : Int32) then
  some ((-1 : Int32), t27)
  else
  lt (sR t27 v0 1) fun b31 => (
  gd (nz b31) (
  gd (ob t27 b31 4) (
  bd (f4_wordRule t27 b31 v1 v2 v3 v4 v5) fun r35 t36 => (
  some (r35, t36)))))))))))))))))))
set_option maxRecDepth 50000 in
theorem s11_word : ∀ (σ : St) (v0 : Nat) (v1 : Int32) (v2 : Int32) (v3 : Int32) (v4 : Int32) (v5 : Int32) (r : Int32) (τ : St), f11_word σ v0 v1 v2 v3 v4 v5 = some (r, τ) → Call 6 m11_word [.ref v0, .int v1, .int v2, .int v3, .int v4, .int v5] σ (some (.int r)) τ := by
  intro σ v0 v1 v2 v3 v4 v5 r τ hf
  unfold f11_word at hf
  refine Call.of (by decide +kernel) rfl (Nat.le_of_ble_eq_true rfl) ?_
  refine ev_iload_n (j := 1) (i := 1) (q := 1) rfl rfl d11_word_0 ?_
  obtain ⟨r1, t2, k3, hf⟩ := bd_some hf
  have q4 := s11_isShore _ _ _ _ k3
  refine ev_callS (vs := [.int v1]) (sk := []) q4 (by decide) (Nat.le_of_ble_eq_true rfl) w713 w714 w1 w715 k11_isShore rfl (Nat.le_of_ble_eq_true rfl) d11_word_1 ?_
  rcases ite_some hf with ⟨c5, hf⟩ | ⟨c5, hf⟩
  · refine ev_if_eq_P (tgt := 42) c5 (by decide) d11_word_4 ?_
    refine ev_iconst ci_m1 d11_word_42 ?_
    obtain ⟨rfl, rfl⟩ := ret_some hf
    exact ev_iret rfl d11_word_43
  · refine ev_if_eq_Q (tgt := 42) c5 (by decide) d11_word_4 ?_
    refine ev_aload_n (j := 0) (i := 0) (q := 0) rfl rfl d11_word_7 ?_
    obtain ⟨h6, hf⟩ := gd_some hf
    obtain ⟨b7, e8, hf⟩ := lt_some hf
    obtain ⟨h9, hf⟩ := gd_some hf
    refine ev_getRb cls11 (j := 0) (by decide) rfl w507 h6 e8 (nz_ne h9) d11_word_8 ?_
    refine ev_iload_n (j := 2) (i := 2) (q := 2) rfl rfl d11_word_11 ?_
    obtain ⟨h10, hf⟩ := gd_some hf
    obtain ⟨r11, t12, k13, hf⟩ := bd_some hf
    have q14 := s8_has _ _ _ _ _ k13
    refine ev_callV (vs := [.int v2]) (sk := []) cls8 h10 q14 (by decide) (Nat.le_of_ble_eq_true rfl) w576 w577 w578 w2 w579 k8_has rfl (Nat.le_of_ble_eq_true rfl) d11_word_12 ?_
    rcases ite_some hf with ⟨c15, hf⟩ | ⟨c15, hf⟩
    · refine ev_if_eq_P (tgt := 42) c15 (by decide) d11_word_15 ?_
      refine ev_iconst ci_m1 d11_word_42 ?_
      obtain ⟨rfl, rfl⟩ := ret_some hf
      exact ev_iret rfl d11_word_43
    · refine ev_if_eq_Q (tgt := 42) c15 (by decide) d11_word_15 ?_
      refine ev_iload_n (j := 3) (i := 3) (q := 3) rfl rfl d11_word_18 ?_
      obtain ⟨r16, t17, k18, hf⟩ := bd_some hf
      have q19 := s11_isBerth _ _ _ _ k18
      refine ev_callS (vs := [.int v3]) (sk := []) q19 (by decide) (Nat.le_of_ble_eq_true rfl) w539 w540 w1 w541 k11_isBerth rfl (Nat.le_of_ble_eq_true rfl) d11_word_19 ?_
      rcases ite_some hf with ⟨c20, hf⟩ | ⟨c20, hf⟩
      · refine ev_if_eq_P (tgt := 42) c20 (by decide) d11_word_22 ?_
        refine ev_iconst ci_m1 d11_word_42 ?_
        obtain ⟨rfl, rfl⟩ := ret_some hf
        exact ev_iret rfl d11_word_43
      · refine ev_if_eq_Q (tgt := 42) c20 (by decide) d11_word_22 ?_
        refine ev_iload (i := 4) (q := 4) rfl d11_word_25 ?_
        obtain ⟨r21, t22, k23, hf⟩ := bd_some hf
        have q24 := s11_isDay _ _ _ _ k23
        refine ev_callS (vs := [.int v4]) (sk := []) q24 (by decide) (Nat.le_of_ble_eq_true rfl) w662 w663 w1 w664 k11_isDay rfl (Nat.le_of_ble_eq_true rfl) d11_word_27 ?_
        rcases ite_some hf with ⟨c25, hf⟩ | ⟨c25, hf⟩
        · refine ev_if_eq_P (tgt := 42) c25 (by decide) d11_word_30 ?_
          refine ev_iconst ci_m1 d11_word_42 ?_
          obtain ⟨rfl, rfl⟩ := ret_some hf
          exact ev_iret rfl d11_word_43
        · refine ev_if_eq_Q (tgt := 42) c25 (by decide) d11_word_30 ?_
          refine ev_aload_n (j := 0) (i := 0) (q := 0) rfl rfl d11_word_33 ?_
          refine ev_iload (i := 5) (q := 5) rfl d11_word_34 ?_
          obtain ⟨r26, t27, k28, hf⟩ := bd_some hf
          have q29 := s11_isKnownDay _ _ _ _ _ k28
          refine ev_callV (vs := [.int v5]) (sk := []) cls11 (mono_ob q24.1 (mono_ob q19.1 (mono_ob q14.1 h6))) q29 (by decide) (Nat.le_of_ble_eq_true rfl) w677 w679 ws0 w1 w680 k11_isKnownDay rfl (Nat.le_of_ble_eq_true rfl) d11_word_36 ?_
          rcases ite_some hf with ⟨c30, hf⟩ | ⟨c30, hf⟩
          · refine ev_if_ne_P (tgt := 44) c30 (by decide) d11_word_39 ?_
            refine ev_iconst ci_m1 d11_word_42 ?_
            obtain ⟨rfl, rfl⟩ := ret_some hf
            exact ev_iret rfl d11_word_43
          · refine ev_if_ne_Q (tgt := 44) c30 (by decide) d11_word_39 ?_
            refine ev_aload_n (j := 0) (i := 0) (q := 0) rfl rfl d11_word_44 ?_
            obtain ⟨b31, e32, hf⟩ := lt_some hf
            obtain ⟨h33, hf⟩ := gd_some hf
            refine ev_getRb cls11 (j := 1) (by decide) rfl w508 (mono_ob q29.1 (mono_ob q24.1 (mono_ob q19.1 (mono_ob q14.1 h6)))) e32 (nz_ne h33) d11_word_45 ?_
            refine ev_iload_n (j := 1) (i := 1) (q := 1) rfl rfl d11_word_48 ?_
            refine ev_iload_n (j := 2) (i := 2) (q := 2) rfl rfl d11_word_49 ?_
            refine ev_iload_n (j := 3) (i := 3) (q := 3) rfl rfl d11_word_50 ?_
            refine ev_iload (i := 4) (q := 4) rfl d11_word_51 ?_
            refine ev_iload (i := 5) (q := 5) rfl d11_word_53 ?_
            obtain ⟨h34, hf⟩ := gd_some hf
            obtain ⟨r35, t36, k37, hf⟩ := bd_some hf
            have q38 := s4_wordRule _ _ _ _ _ _ _ _ _ k37
            refine ev_callV (vs := [.int v1, .int v2, .int v3, .int v4, .int v5]) (sk := []) cls4 h34 q38 (by decide) (Nat.le_of_ble_eq_true rfl) w902 w903 w904 w6 w905 k4_wordRule rfl (Nat.le_of_ble_eq_true rfl) d11_word_55 ?_
            obtain ⟨rfl, rfl⟩ := ret_some hf
            exact ev_iret rfl d11_word_58
abbrev m11_isStretch : MD := ("MillBoats", ⟨"MillBoats", "isStretch", "(I)Z"⟩, prog_1_method_42_code, 1, (some Jvm.ClassFile.FieldType.boolean))
theorem k11_isStretch : okY m11_isStretch.2.1 1 := ⟨by decide +kernel, by decide +kernel, by decide +kernel⟩
def f11_isStretch (σ : St) (v0 : Int32) : Option (Int32 × St) :=
  (if v0 < (0 : Int32) then
  some ((0 : Int32), σ)
  else
  (if v0 < (12 : Int32) then
  some ((1 : Int32), σ)
  else
  some ((0 : Int32), σ)))
set_option maxRecDepth 50000 in
theorem s11_isStretch : ∀ (σ : St) (v0 : Int32) (r : Int32) (τ : St), f11_isStretch σ v0 = some (r, τ) → Call 2 m11_isStretch [.int v0] σ (some (.int r)) τ := by
  intro σ v0 r τ hf
  unfold f11_isStretch at hf
  refine Call.of (by decide +kernel) rfl (Nat.le_of_ble_eq_true rfl) ?_
  refine ev_iload_n (j := 0) (i := 0) (q := 0) rfl rfl d11_isStretch_0 ?_
  rcases ite_some hf with ⟨c1, hf⟩ | ⟨c1, hf⟩
  · refine ev_if_lt_P (tgt := 14) c1 (by decide) d11_isStretch_1 ?_
    refine ev_iconst ci_0 d11_isStretch_14 ?_
    obtain ⟨rfl, rfl⟩ := ret_some hf
    exact ev_zret rfl (by decide) d11_isStretch_15
  · refine ev_if_lt_Q (tgt := 14) c1 (by decide) d11_isStretch_1 ?_
    refine ev_iload_n (j := 0) (i := 0) (q := 0) rfl rfl d11_isStretch_4 ?_
    refine ev_bipush cb_12 d11_isStretch_5 ?_
    rcases ite_some hf with ⟨c2, hf⟩ | ⟨c2, hf⟩
    · refine ev_icmp_ge_P (tgt := 14) c2 (by decide) d11_isStretch_7 ?_
      refine ev_iconst ci_1 d11_isStretch_10 ?_
      refine ev_goto (tgt := 15) (by decide) d11_isStretch_11 ?_
      obtain ⟨rfl, rfl⟩ := ret_some hf
      exact ev_zret rfl (by decide) d11_isStretch_15
    · refine ev_icmp_ge_Q (tgt := 14) c2 (by decide) d11_isStretch_7 ?_
      refine ev_iconst ci_0 d11_isStretch_14 ?_
      obtain ⟨rfl, rfl⟩ := ret_some hf
      exact ev_zret rfl (by decide) d11_isStretch_15
abbrev m11_way : MD := ("MillBoats", ⟨"MillBoats", "way", "(III)I"⟩, prog_1_method_22_code, 4, (some Jvm.ClassFile.FieldType.int))
theorem k11_way : okY m11_way.2.1 3 := ⟨by decide +kernel, by decide +kernel, by decide +kernel⟩
def f11_way (σ : St) (v0 : Nat) (v1 : Int32) (v2 : Int32) (v3 : Int32) : Option (Int32 × St) :=
  bd (f11_isStretch σ v1) fun r1 t2 => (
  (if r1 = (0 : Int32) then
  some ((-1 : Int32), t2)
  else
  bd (f11_isDay t2 v2) fun r6 t7 => (
  (if r6 = (0 : Int32) then
  some ((-1 : Int32), t7)
  else
  gd (ob t7 v0 11) (
  bd (f11_isKnownDay t7 v0 v3) fun r12 t13 => (
  (if r12 = (0 : Int32) then
  some ((-1 : Int32), t13)
  else
  lt (sR t13 v0 1) fun b17 => (
  gd (nz b17) (
  gd (ob t13 b17 4) (
  bd (f4_wayOn t13 b17 v1 v2 v3) fun r21 t22 => (
  some (r21, t22))))))))))))
set_option maxRecDepth 50000 in
theorem s11_way : ∀ (σ : St) (v0 : Nat) (v1 : Int32) (v2 : Int32) (v3 : Int32) (r : Int32) (τ : St), f11_way σ v0 v1 v2 v3 = some (r, τ) → Call 6 m11_way [.ref v0, .int v1, .int v2, .int v3] σ (some (.int r)) τ := by
  intro σ v0 v1 v2 v3 r τ hf
  unfold f11_way at hf
  refine Call.of (by decide +kernel) rfl (Nat.le_of_ble_eq_true rfl) ?_
  refine ev_iload_n (j := 1) (i := 1) (q := 1) rfl rfl d11_way_0 ?_
  obtain ⟨r1, t2, k3, hf⟩ := bd_some hf
  have q4 := s11_isStretch _ _ _ _ k3
  refine ev_callS (vs := [.int v1]) (sk := []) q4 (by decide) (Nat.le_of_ble_eq_true rfl) w910 w911 w1 w912 k11_isStretch rfl (Nat.le_of_ble_eq_true rfl) d11_way_1 ?_
  rcases ite_some hf with ⟨c5, hf⟩ | ⟨c5, hf⟩
  · refine ev_if_eq_P (tgt := 22) c5 (by decide) d11_way_4 ?_
    refine ev_iconst ci_m1 d11_way_22 ?_
    obtain ⟨rfl, rfl⟩ := ret_some hf
    exact ev_iret rfl d11_way_23
  · refine ev_if_eq_Q (tgt := 22) c5 (by decide) d11_way_4 ?_
    refine ev_iload_n (j := 2) (i := 2) (q := 2) rfl rfl d11_way_7 ?_
    obtain ⟨r6, t7, k8, hf⟩ := bd_some hf
    have q9 := s11_isDay _ _ _ _ k8
    refine ev_callS (vs := [.int v2]) (sk := []) q9 (by decide) (Nat.le_of_ble_eq_true rfl) w662 w663 w1 w664 k11_isDay rfl (Nat.le_of_ble_eq_true rfl) d11_way_8 ?_
    rcases ite_some hf with ⟨c10, hf⟩ | ⟨c10, hf⟩
    · refine ev_if_eq_P (tgt := 22) c10 (by decide) d11_way_11 ?_
      refine ev_iconst ci_m1 d11_way_22 ?_
      obtain ⟨rfl, rfl⟩ := ret_some hf
      exact ev_iret rfl d11_way_23
    · refine ev_if_eq_Q (tgt := 22) c10 (by decide) d11_way_11 ?_
      refine ev_aload_n (j := 0) (i := 0) (q := 0) rfl rfl d11_way_14 ?_
      refine ev_iload_n (j := 3) (i := 3) (q := 3) rfl rfl d11_way_15 ?_
      obtain ⟨h11, hf⟩ := gd_some hf
      obtain ⟨r12, t13, k14, hf⟩ := bd_some hf
      have q15 := s11_isKnownDay _ _ _ _ _ k14
      refine ev_callV (vs := [.int v3]) (sk := []) cls11 h11 q15 (by decide) (Nat.le_of_ble_eq_true rfl) w677 w679 ws0 w1 w680 k11_isKnownDay rfl (Nat.le_of_ble_eq_true rfl) d11_way_16 ?_
      rcases ite_some hf with ⟨c16, hf⟩ | ⟨c16, hf⟩
      · refine ev_if_ne_P (tgt := 24) c16 (by decide) d11_way_19 ?_
        refine ev_iconst ci_m1 d11_way_22 ?_
        obtain ⟨rfl, rfl⟩ := ret_some hf
        exact ev_iret rfl d11_way_23
      · refine ev_if_ne_Q (tgt := 24) c16 (by decide) d11_way_19 ?_
        refine ev_aload_n (j := 0) (i := 0) (q := 0) rfl rfl d11_way_24 ?_
        obtain ⟨b17, e18, hf⟩ := lt_some hf
        obtain ⟨h19, hf⟩ := gd_some hf
        refine ev_getRb cls11 (j := 1) (by decide) rfl w508 (mono_ob q15.1 h11) e18 (nz_ne h19) d11_way_25 ?_
        refine ev_iload_n (j := 1) (i := 1) (q := 1) rfl rfl d11_way_28 ?_
        refine ev_iload_n (j := 2) (i := 2) (q := 2) rfl rfl d11_way_29 ?_
        refine ev_iload_n (j := 3) (i := 3) (q := 3) rfl rfl d11_way_30 ?_
        obtain ⟨h20, hf⟩ := gd_some hf
        obtain ⟨r21, t22, k23, hf⟩ := bd_some hf
        have q24 := s4_wayOn _ _ _ _ _ _ _ k23
        refine ev_callV (vs := [.int v1, .int v2, .int v3]) (sk := []) cls4 h20 q24 (by decide) (Nat.le_of_ble_eq_true rfl) w913 w914 w915 w6 w916 k4_wayOn rfl (Nat.le_of_ble_eq_true rfl) d11_way_31 ?_
        obtain ⟨rfl, rfl⟩ := ret_some hf
        exact ev_iret rfl d11_way_34
abbrev m11_heightToday : MD := ("MillBoats", ⟨"MillBoats", "heightToday", "()I"⟩, prog_1_method_36_code, 1, (some Jvm.ClassFile.FieldType.int))
theorem k11_heightToday : okY m11_heightToday.2.1 0 := ⟨by decide +kernel, by decide +kernel, by decide +kernel⟩
def f11_heightToday (σ : St) (v0 : Nat) : Option (Int32 × St) :=
  gd (ob σ v0 11) (
  lt (sR σ v0 1) fun b2 => (
  gd (nz b2) (
  gd (ob σ b2 4) (
  lt (sR σ b2 1) fun b6 => (
  gd (nz b6) (
  gd (ob σ b6 1) (
  bd (f1_latestOr σ b6 (sI σ v0 8) (sI σ v0 8) (5 : Int32)) fun r10 t11 => (
  some (r10, t11)))))))))
set_option maxRecDepth 50000 in
theorem s11_heightToday : ∀ (σ : St) (v0 : Nat) (r : Int32) (τ : St), f11_heightToday σ v0 = some (r, τ) → Call 4 m11_heightToday [.ref v0] σ (some (.int r)) τ := by
  intro σ v0 r τ hf
  unfold f11_heightToday at hf
  refine Call.of (by decide +kernel) rfl (Nat.le_of_ble_eq_true rfl) ?_
  refine ev_aload_n (j := 0) (i := 0) (q := 0) rfl rfl d11_heightToday_0 ?_
  obtain ⟨h1, hf⟩ := gd_some hf
  obtain ⟨b2, e3, hf⟩ := lt_some hf
  obtain ⟨h4, hf⟩ := gd_some hf
  refine ev_getRb cls11 (j := 1) (by decide) rfl w508 h1 e3 (nz_ne h4) d11_heightToday_1 ?_
  obtain ⟨h5, hf⟩ := gd_some hf
  obtain ⟨b6, e7, hf⟩ := lt_some hf
  obtain ⟨h8, hf⟩ := gd_some hf
  refine ev_getRNb cls4 (j := 1) (by decide) rfl w317 h5 e7 (nz_ne h8) d11_heightToday_4 ?_
  refine ev_aload_n (j := 0) (i := 0) (q := 0) rfl rfl d11_heightToday_7 ?_
  refine ev_getI cls11 (j := 8) (by decide) rfl w515 h1 d11_heightToday_8 ?_
  refine ev_aload_n (j := 0) (i := 0) (q := 0) rfl rfl d11_heightToday_11 ?_
  refine ev_getI cls11 (j := 8) (by decide) rfl w515 h1 d11_heightToday_12 ?_
  refine ev_iconst ci_5 d11_heightToday_15 ?_
  obtain ⟨h9, hf⟩ := gd_some hf
  obtain ⟨r10, t11, k12, hf⟩ := bd_some hf
  have q13 := s1_latestOr _ _ _ _ _ _ _ k12
  refine ev_callV (vs := [.int (sI σ v0 8), .int (sI σ v0 8), .int (5 : Int32)]) (sk := []) cls1 h9 q13 (by decide) (Nat.le_of_ble_eq_true rfl) w681 w682 w683 w7 w684 k1_latestOr rfl (Nat.le_of_ble_eq_true rfl) d11_heightToday_16 ?_
  obtain ⟨rfl, rfl⟩ := ret_some hf
  exact ev_iret rfl d11_heightToday_19
abbrev m11_kept : MD := ("MillBoats", ⟨"MillBoats", "kept", "(I)I"⟩, prog_1_method_23_code, 3, (some Jvm.ClassFile.FieldType.int))
theorem k11_kept : okY m11_kept.2.1 1 := ⟨by decide +kernel, by decide +kernel, by decide +kernel⟩
def f11_kept (σ : St) (v0 : Nat) (v1 : Int32) : Option (Int32 × St) :=
  bd (f11_isStretch σ v1) fun r1 t2 => (
  (if r1 = (0 : Int32) then
  some ((-1 : Int32), t2)
  else
  gd (ob t2 v0 11) (
  lt (sR t2 v0 1) fun b7 => (
  gd (nz b7) (
  gd (ob t2 b7 4) (
  bd (f4_wayOn t2 b7 v1 (sI t2 v0 8) (sI t2 v0 8)) fun r11 t12 => (
  lt (sR t12 v0 0) fun b15 => (
  gd (nz b15) (
  gd (ob t12 b15 8) (
  lt (sR t12 b15 3) fun b19 => (
  gd (nz b19) (
  bd (f11_heightToday t12 v0) fun r22 t23 => (
  bd (f8_isOpen t23 b15 v1 r11 b19 r22) fun r26 t27 => (
  (if r26 = (0 : Int32) then
  some ((0 : Int32), t27)
  else
  some ((1 : Int32), t27))))))))))))))))
set_option maxRecDepth 50000 in
theorem s11_kept : ∀ (σ : St) (v0 : Nat) (v1 : Int32) (r : Int32) (τ : St), f11_kept σ v0 v1 = some (r, τ) → Call 6 m11_kept [.ref v0, .int v1] σ (some (.int r)) τ := by
  intro σ v0 v1 r τ hf
  unfold f11_kept at hf
  refine Call.of (by decide +kernel) rfl (Nat.le_of_ble_eq_true rfl) ?_
  refine ev_iload_n (j := 1) (i := 1) (q := 1) rfl rfl d11_kept_0 ?_
  obtain ⟨r1, t2, k3, hf⟩ := bd_some hf
  have q4 := s11_isStretch _ _ _ _ k3
  refine ev_callS (vs := [.int v1]) (sk := []) q4 (by decide) (Nat.le_of_ble_eq_true rfl) w910 w911 w1 w912 k11_isStretch rfl (Nat.le_of_ble_eq_true rfl) d11_kept_1 ?_
  rcases ite_some hf with ⟨c5, hf⟩ | ⟨c5, hf⟩
  · refine ev_if_ne_P (tgt := 9) c5 (by decide) d11_kept_4 ?_
    refine ev_iconst ci_m1 d11_kept_7 ?_
    obtain ⟨rfl, rfl⟩ := ret_some hf
    exact ev_iret rfl d11_kept_8
  · refine ev_if_ne_Q (tgt := 9) c5 (by decide) d11_kept_4 ?_
    refine ev_aload_n (j := 0) (i := 0) (q := 0) rfl rfl d11_kept_9 ?_
    obtain ⟨h6, hf⟩ := gd_some hf
    obtain ⟨b7, e8, hf⟩ := lt_some hf
    obtain ⟨h9, hf⟩ := gd_some hf
    refine ev_getRb cls11 (j := 1) (by decide) rfl w508 h6 e8 (nz_ne h9) d11_kept_10 ?_
    refine ev_iload_n (j := 1) (i := 1) (q := 1) rfl rfl d11_kept_13 ?_
    refine ev_aload_n (j := 0) (i := 0) (q := 0) rfl rfl d11_kept_14 ?_
    refine ev_getI cls11 (j := 8) (by decide) rfl w515 h6 d11_kept_15 ?_
    refine ev_aload_n (j := 0) (i := 0) (q := 0) rfl rfl d11_kept_18 ?_
    refine ev_getI cls11 (j := 8) (by decide) rfl w515 h6 d11_kept_19 ?_
    obtain ⟨h10, hf⟩ := gd_some hf
    obtain ⟨r11, t12, k13, hf⟩ := bd_some hf
    have q14 := s4_wayOn _ _ _ _ _ _ _ k13
    refine ev_callV (vs := [.int v1, .int (sI t2 v0 8), .int (sI t2 v0 8)]) (sk := []) cls4 h10 q14 (by decide) (Nat.le_of_ble_eq_true rfl) w913 w914 w915 w6 w916 k4_wayOn rfl (Nat.le_of_ble_eq_true rfl) d11_kept_22 ?_
    refine ev_istore_n (lv2 := [(2, .int r11), (0, .ref v0), (1, .int v1)]) (j := 2) (i := 2) rfl (by decide) rfl d11_kept_25 ?_
    refine ev_aload_n (j := 0) (i := 0) (q := 1) rfl rfl d11_kept_26 ?_
    obtain ⟨b15, e16, hf⟩ := lt_some hf
    obtain ⟨h17, hf⟩ := gd_some hf
    refine ev_getRb cls11 (j := 0) (by decide) rfl w507 (mono_ob q14.1 h6) e16 (nz_ne h17) d11_kept_27 ?_
    refine ev_iload_n (j := 1) (i := 1) (q := 2) rfl rfl d11_kept_30 ?_
    refine ev_iload_n (j := 2) (i := 2) (q := 0) rfl rfl d11_kept_31 ?_
    refine ev_aload_n (j := 0) (i := 0) (q := 1) rfl rfl d11_kept_32 ?_
    refine ev_getRb cls11 (j := 0) (by decide) rfl w507 (mono_ob q14.1 h6) e16 (nz_ne h17) d11_kept_33 ?_
    obtain ⟨h18, hf⟩ := gd_some hf
    obtain ⟨b19, e20, hf⟩ := lt_some hf
    obtain ⟨h21, hf⟩ := gd_some hf
    refine ev_getRNb cls8 (j := 3) (by decide) rfl w119 h18 e20 (nz_ne h21) d11_kept_36 ?_
    refine ev_aload_n (j := 0) (i := 0) (q := 1) rfl rfl d11_kept_39 ?_
    obtain ⟨r22, t23, k24, hf⟩ := bd_some hf
    have q25 := s11_heightToday _ _ _ _ k24
    refine ev_callV (vs := []) (sk := [.ref b19, .int r11, .int v1, .ref b15]) cls11 (mono_ob q14.1 h6) q25 (by decide) (Nat.le_of_ble_eq_true rfl) w927 w929 ws32 w1 w930 k11_heightToday rfl (Nat.le_of_ble_eq_true rfl) d11_kept_40 ?_
    obtain ⟨r26, t27, k28, hf⟩ := bd_some hf
    have q29 := s8_isOpen _ _ _ _ _ _ _ _ k28
    refine ev_callV (vs := [.int v1, .int r11, .ref b19, .int r22]) (sk := []) cls8 (mono_ob q25.1 h18) q29 (by decide) (Nat.le_of_ble_eq_true rfl) w931 w932 w933 w2 w934 k8_isOpen rfl (Nat.le_of_ble_eq_true rfl) d11_kept_43 ?_
    rcases ite_some hf with ⟨c30, hf⟩ | ⟨c30, hf⟩
    · refine ev_if_eq_P (tgt := 53) c30 (by decide) d11_kept_46 ?_
      refine ev_iconst ci_0 d11_kept_53 ?_
      obtain ⟨rfl, rfl⟩ := ret_some hf
      exact ev_iret rfl d11_kept_54
    · refine ev_if_eq_Q (tgt := 53) c30 (by decide) d11_kept_46 ?_
      refine ev_iconst ci_1 d11_kept_49 ?_
      refine ev_goto (tgt := 54) (by decide) d11_kept_50 ?_
      obtain ⟨rfl, rfl⟩ := ret_some hf
      exact ev_iret rfl d11_kept_54
abbrev m11_skiffs : MD := ("MillBoats", ⟨"MillBoats", "skiffs", "(II)Z"⟩, prog_1_method_24_code, 3, (some Jvm.ClassFile.FieldType.boolean))
theorem k11_skiffs : okY m11_skiffs.2.1 2 := ⟨by decide +kernel, by decide +kernel, by decide +kernel⟩
def f11_skiffs (σ : St) (v0 : Nat) (v1 : Int32) (v2 : Int32) : Option (Int32 × St) :=
  bd (f11_isShore σ v1) fun r1 t2 => (
  (if r1 = (0 : Int32) then
  some ((0 : Int32), t2)
  else
  (if v2 < (0 : Int32) then
  some ((0 : Int32), t2)
  else
  (if v2 ≤ (20 : Int32) then
  gd (ob t2 v0 11) (
  lt (sR t2 v0 3) fun b9 => (
  gd (nz b9) (
  gd (ob t2 b9 3) (
  lt (sR t2 b9 2) fun b13 => (
  gd (nz b13) (
  gd (ob t2 b13 14) (
  gd (inb t2 b13 v1) (
  lt (wI t2 b13 (ix v1) v2) fun t18 => (
  some ((1 : Int32), t18))))))))))
  else
  some ((0 : Int32), t2)))))
set_option maxRecDepth 50000 in
theorem s11_skiffs : ∀ (σ : St) (v0 : Nat) (v1 : Int32) (v2 : Int32) (r : Int32) (τ : St), f11_skiffs σ v0 v1 v2 = some (r, τ) → Call 3 m11_skiffs [.ref v0, .int v1, .int v2] σ (some (.int r)) τ := by
  intro σ v0 v1 v2 r τ hf
  unfold f11_skiffs at hf
  refine Call.of (by decide +kernel) rfl (Nat.le_of_ble_eq_true rfl) ?_
  refine ev_iload_n (j := 1) (i := 1) (q := 1) rfl rfl d11_skiffs_0 ?_
  obtain ⟨r1, t2, k3, hf⟩ := bd_some hf
  have q4 := s11_isShore _ _ _ _ k3
  refine ev_callS (vs := [.int v1]) (sk := []) q4 (by decide) (Nat.le_of_ble_eq_true rfl) w713 w714 w1 w715 k11_isShore rfl (Nat.le_of_ble_eq_true rfl) d11_skiffs_1 ?_
  rcases ite_some hf with ⟨c5, hf⟩ | ⟨c5, hf⟩
  · refine ev_if_eq_P (tgt := 17) c5 (by decide) d11_skiffs_4 ?_
    refine ev_iconst ci_0 d11_skiffs_17 ?_
    obtain ⟨rfl, rfl⟩ := ret_some hf
    exact ev_zret rfl (by decide) d11_skiffs_18
  · refine ev_if_eq_Q (tgt := 17) c5 (by decide) d11_skiffs_4 ?_
    refine ev_iload_n (j := 2) (i := 2) (q := 2) rfl rfl d11_skiffs_7 ?_
    rcases ite_some hf with ⟨c6, hf⟩ | ⟨c6, hf⟩
    · refine ev_if_lt_P (tgt := 17) c6 (by decide) d11_skiffs_8 ?_
      refine ev_iconst ci_0 d11_skiffs_17 ?_
      obtain ⟨rfl, rfl⟩ := ret_some hf
      exact ev_zret rfl (by decide) d11_skiffs_18
    · refine ev_if_lt_Q (tgt := 17) c6 (by decide) d11_skiffs_8 ?_
      refine ev_iload_n (j := 2) (i := 2) (q := 2) rfl rfl d11_skiffs_11 ?_
      refine ev_bipush cb_20 d11_skiffs_12 ?_
      rcases ite_some hf with ⟨c7, hf⟩ | ⟨c7, hf⟩
      · refine ev_icmp_le_P (tgt := 19) c7 (by decide) d11_skiffs_14 ?_
        refine ev_aload_n (j := 0) (i := 0) (q := 0) rfl rfl d11_skiffs_19 ?_
        obtain ⟨h8, hf⟩ := gd_some hf
        obtain ⟨b9, e10, hf⟩ := lt_some hf
        obtain ⟨h11, hf⟩ := gd_some hf
        refine ev_getRb cls11 (j := 3) (by decide) rfl w510 h8 e10 (nz_ne h11) d11_skiffs_20 ?_
        obtain ⟨h12, hf⟩ := gd_some hf
        obtain ⟨b13, e14, hf⟩ := lt_some hf
        obtain ⟨h15, hf⟩ := gd_some hf
        refine ev_getRNb cls3 (j := 2) (by decide) rfl w379 h12 e14 (nz_ne h15) d11_skiffs_23 ?_
        refine ev_iload_n (j := 1) (i := 1) (q := 1) rfl rfl d11_skiffs_26 ?_
        refine ev_iload_n (j := 2) (i := 2) (q := 2) rfl rfl d11_skiffs_27 ?_
        obtain ⟨h16, hf⟩ := gd_some hf
        obtain ⟨h17, hf⟩ := gd_some hf
        obtain ⟨t18, e19, hf⟩ := lt_some hf
        refine ev_iast h16 h17 d11_skiffs_28 (ev_nmS e19 ?_)
        refine ev_iconst ci_1 d11_skiffs_29 ?_
        obtain ⟨rfl, rfl⟩ := ret_some hf
        exact ev_zret rfl (by decide) d11_skiffs_30
      · refine ev_icmp_le_Q (tgt := 19) c7 (by decide) d11_skiffs_14 ?_
        refine ev_iconst ci_0 d11_skiffs_17 ?_
        obtain ⟨rfl, rfl⟩ := ret_some hf
        exact ev_zret rfl (by decide) d11_skiffs_18
abbrev m11_order : MD := ("MillBoats", ⟨"MillBoats", "order", "(II)I"⟩, prog_1_method_25_code, 3, (some Jvm.ClassFile.FieldType.int))
theorem k11_order : okY m11_order.2.1 2 := ⟨by decide +kernel, by decide +kernel, by decide +kernel⟩
def f11_order (σ : St) (v0 : Nat) (v1 : Int32) (v2 : Int32) : Option (Int32 × St) :=
  bd (f11_isShore σ v1) fun r1 t2 => (
  (if r1 = (0 : Int32) then
  some ((-1 : Int32), t2)
  else
  (if v2 < (1 : Int32) then
  some ((-1 : Int32), t2)
  else
  (if v2 ≤ (500 : Int32) then
  gd (ob t2 v0 11) (
  lt (sR t2 v0 3) fun b9 => (
  gd (nz b9) (
  gd (ob t2 b9 3) (
  bd (f3_take t2 b9 v1 v2) fun r13 t14 => (
  some (r13, t14))))))
  else
  some ((-1 : Int32), t2)))))
set_option maxRecDepth 50000 in
theorem s11_order : ∀ (σ : St) (v0 : Nat) (v1 : Int32) (v2 : Int32) (r : Int32) (τ : St), f11_order σ v0 v1 v2 = some (r, τ) → Call 3 m11_order [.ref v0, .int v1, .int v2] σ (some (.int r)) τ := by
  intro σ v0 v1 v2 r τ hf
  unfold f11_order at hf
  refine Call.of (by decide +kernel) rfl (Nat.le_of_ble_eq_true rfl) ?_
  refine ev_iload_n (j := 1) (i := 1) (q := 1) rfl rfl d11_order_0 ?_
  obtain ⟨r1, t2, k3, hf⟩ := bd_some hf
  have q4 := s11_isShore _ _ _ _ k3
  refine ev_callS (vs := [.int v1]) (sk := []) q4 (by decide) (Nat.le_of_ble_eq_true rfl) w713 w714 w1 w715 k11_isShore rfl (Nat.le_of_ble_eq_true rfl) d11_order_1 ?_
  rcases ite_some hf with ⟨c5, hf⟩ | ⟨c5, hf⟩
  · refine ev_if_eq_P (tgt := 19) c5 (by decide) d11_order_4 ?_
    refine ev_iconst ci_m1 d11_order_19 ?_
    obtain ⟨rfl, rfl⟩ := ret_some hf
    exact ev_iret rfl d11_order_20
  · refine ev_if_eq_Q (tgt := 19) c5 (by decide) d11_order_4 ?_
    refine ev_iload_n (j := 2) (i := 2) (q := 2) rfl rfl d11_order_7 ?_
    refine ev_iconst ci_1 d11_order_8 ?_
    rcases ite_some hf with ⟨c6, hf⟩ | ⟨c6, hf⟩
    · refine ev_icmp_lt_P (tgt := 19) c6 (by decide) d11_order_9 ?_
      refine ev_iconst ci_m1 d11_order_19 ?_
      obtain ⟨rfl, rfl⟩ := ret_some hf
      exact ev_iret rfl d11_order_20
    · refine ev_icmp_lt_Q (tgt := 19) c6 (by decide) d11_order_9 ?_
      refine ev_iload_n (j := 2) (i := 2) (q := 2) rfl rfl d11_order_12 ?_
      refine ev_sipush cs_500 d11_order_13 ?_
      rcases ite_some hf with ⟨c7, hf⟩ | ⟨c7, hf⟩
      · refine ev_icmp_le_P (tgt := 21) c7 (by decide) d11_order_16 ?_
        refine ev_aload_n (j := 0) (i := 0) (q := 0) rfl rfl d11_order_21 ?_
        obtain ⟨h8, hf⟩ := gd_some hf
        obtain ⟨b9, e10, hf⟩ := lt_some hf
        obtain ⟨h11, hf⟩ := gd_some hf
        refine ev_getRb cls11 (j := 3) (by decide) rfl w510 h8 e10 (nz_ne h11) d11_order_22 ?_
        refine ev_iload_n (j := 1) (i := 1) (q := 1) rfl rfl d11_order_25 ?_
        refine ev_iload_n (j := 2) (i := 2) (q := 2) rfl rfl d11_order_26 ?_
        obtain ⟨h12, hf⟩ := gd_some hf
        obtain ⟨r13, t14, k15, hf⟩ := bd_some hf
        have q16 := s3_take _ _ _ _ _ _ k15
        refine ev_callV (vs := [.int v1, .int v2]) (sk := []) cls3 h12 q16 (by decide) (Nat.le_of_ble_eq_true rfl) w944 w945 w946 w16 w947 k3_take rfl (Nat.le_of_ble_eq_true rfl) d11_order_27 ?_
        obtain ⟨rfl, rfl⟩ := ret_some hf
        exact ev_iret rfl d11_order_30
      · refine ev_icmp_le_Q (tgt := 21) c7 (by decide) d11_order_16 ?_
        refine ev_iconst ci_m1 d11_order_19 ?_
        obtain ⟨rfl, rfl⟩ := ret_some hf
        exact ev_iret rfl d11_order_20
abbrev m11_day : MD := ("MillBoats", ⟨"MillBoats", "day", "()I"⟩, prog_1_method_26_code, 2, (some Jvm.ClassFile.FieldType.int))
theorem k11_day : okY m11_day.2.1 0 := ⟨by decide +kernel, by decide +kernel, by decide +kernel⟩
def f11_day_p54 (σ : St) (v0 : Nat) (v1 : Int32) (x0 : Int32) (x1 : Int32) (x2 : Int32) (x3 : Nat) : Option (Int32 × St) :=
  gd (ob σ x3 2) (
  bd (f2_breakChains σ x3 x2 x1 x0) fun r24 t25 => (
  gd (ob t25 v0 11) (
  lt (sR t25 v0 3) fun b29 => (
  gd (nz b29) (
  gd (ob t25 b29 3) (
  bd (f3_grindDay t25 b29 (sI t25 v0 8) v1) fun r33 t34 => (
  lt (wI t34 v0 8 ((sI t34 v0 8) + (1 : Int32))) fun t37 => (
  some (sI t37 v0 8, t37)))))))))
set_option maxRecDepth 20000 in
theorem s11_day_p54 : ∀ (σ : St) (v0 : Nat) (v1 : Int32) (x0 : Int32) (x1 : Int32) (x2 : Int32) (x3 : Nat) (r : Int32) (τ : St), f11_day_p54 σ v0 v1 x0 x1 x2 x3 = some (r, τ) → Ev 28 m11_day 54 [(0, .ref v0), (1, .int v1)] [.int x0, .int x1, .int x2, .ref x3] σ (some (.int r)) τ := by
  intro σ v0 v1 x0 x1 x2 x3 r τ hf
  unfold f11_day_p54 at hf
  obtain ⟨h23, hf⟩ := gd_some hf
  obtain ⟨r24, t25, k26, hf⟩ := bd_some hf
  have q27 := s2_breakChains _ _ _ _ _ _ _ k26
  refine ev_callV (vs := [.int x2, .int x1, .int x0]) (sk := []) cls2 h23 q27 (by decide) (Nat.le_of_ble_eq_true rfl) w952 w953 w954 w15 w955 k2_breakChains rfl (Nat.le_of_ble_eq_true rfl) d11_day_54 ?_
  refine ev_aload_n (j := 0) (i := 0) (q := 0) rfl rfl d11_day_57 ?_
  obtain ⟨h28, hf⟩ := gd_some hf
  obtain ⟨b29, e30, hf⟩ := lt_some hf
  obtain ⟨h31, hf⟩ := gd_some hf
  refine ev_getRb cls11 (j := 3) (by decide) rfl w510 h28 e30 (nz_ne h31) d11_day_58 ?_
  refine ev_aload_n (j := 0) (i := 0) (q := 0) rfl rfl d11_day_61 ?_
  refine ev_getI cls11 (j := 8) (by decide) rfl w515 h28 d11_day_62 ?_
  refine ev_iload_n (j := 1) (i := 1) (q := 1) rfl rfl d11_day_65 ?_
  obtain ⟨h32, hf⟩ := gd_some hf
  obtain ⟨r33, t34, k35, hf⟩ := bd_some hf
  have q36 := s3_grindDay _ _ _ _ _ _ k35
  refine ev_callV (vs := [.int (sI t25 v0 8), .int v1]) (sk := []) cls3 h32 q36 (by decide) (Nat.le_of_ble_eq_true rfl) w979 w980 w981 w16 w982 k3_grindDay rfl (Nat.le_of_ble_eq_true rfl) d11_day_66 ?_
  refine ev_aload_n (j := 0) (i := 0) (q := 0) rfl rfl d11_day_69 ?_
  refine ev_dup rfl d11_day_70 ?_
  refine ev_getI cls11 (j := 8) (by decide) rfl w515 (mono_ob q36.1 h28) d11_day_71 ?_
  refine ev_iconst ci_1 d11_day_74 ?_
  refine ev_iadd d11_day_75 ?_
  obtain ⟨t37, e38, hf⟩ := lt_some hf
  refine ev_putI cls11 (j := 8) (by decide) rfl rfl w515 (mono_ob q36.1 h28) (fun _ => ⟨rfl, rfl⟩) d11_day_76 (ev_nmS e38 ?_)
  refine ev_aload_n (j := 0) (i := 0) (q := 0) rfl rfl d11_day_79 ?_
  refine ev_getI cls11 (j := 8) (by decide) rfl w515 (mono_ob (mono_eI e38) (mono_ob q36.1 h28)) d11_day_80 ?_
  obtain ⟨rfl, rfl⟩ := ret_some hf
  exact ev_iret rfl d11_day_83
def f11_day (σ : St) (v0 : Nat) : Option (Int32 × St) :=
  gd (ob σ v0 11) (
  (if (sI σ v0 8) < (999 : Int32) then
  bd (f11_heightToday σ v0) fun r3 t4 => (
  lt (sR t4 v0 2) fun b7 => (
  gd (nz b7) (
  lt (sR t4 v0 1) fun b10 => (
  gd (nz b10) (
  gd (ob t4 b10 4) (
  lt (sR t4 b10 2) fun b14 => (
  gd (nz b14) (
  gd (ob t4 b14 1) (
  bd (f1_exactOr t4 b14 (sI t4 v0 8) (sI t4 v0 8) (0 : Int32)) fun r18 t19 => (
  (if r18 = (1 : Int32) then
  f11_day_p54 t19 v0 r3 (1 : Int32) r3 (sI t4 v0 8) b7
  else
  f11_day_p54 t19 v0 r3 (0 : Int32) r3 (sI t4 v0 8) b7)))))))))))
  else
  some ((-1 : Int32), σ)))
set_option maxRecDepth 50000 in
theorem s11_day : ∀ (σ : St) (v0 : Nat) (r : Int32) (τ : St), f11_day σ v0 = some (r, τ) → Call 28 m11_day [.ref v0] σ (some (.int r)) τ := by
  intro σ v0 r τ hf
  unfold f11_day at hf
  refine Call.of (by decide +kernel) rfl (Nat.le_of_ble_eq_true rfl) ?_
  refine ev_aload_n (j := 0) (i := 0) (q := 0) rfl rfl d11_day_0 ?_
  obtain ⟨h1, hf⟩ := gd_some hf
  refine ev_getI cls11 (j := 8) (by decide) rfl w515 h1 d11_day_1 ?_
  refine ev_sipush cs_999 d11_day_4 ?_
  rcases ite_some hf with ⟨c2, hf⟩ | ⟨c2, hf⟩
  · refine ev_icmp_lt_P (tgt := 12) c2 (by decide) d11_day_7 ?_
    refine ev_aload_n (j := 0) (i := 0) (q := 0) rfl rfl d11_day_12 ?_
    obtain ⟨r3, t4, k5, hf⟩ := bd_some hf
    have q6 := s11_heightToday _ _ _ _ k5
    refine ev_callV (vs := []) (sk := []) cls11 h1 q6 (by decide) (Nat.le_of_ble_eq_true rfl) w927 w929 ws32 w1 w930 k11_heightToday rfl (Nat.le_of_ble_eq_true rfl) d11_day_13 ?_
    refine ev_istore_n (lv2 := [(1, .int r3), (0, .ref v0)]) (j := 1) (i := 1) rfl (by decide) rfl d11_day_16 ?_
    refine ev_aload_n (j := 0) (i := 0) (q := 1) rfl rfl d11_day_17 ?_
    obtain ⟨b7, e8, hf⟩ := lt_some hf
    obtain ⟨h9, hf⟩ := gd_some hf
    refine ev_getRb cls11 (j := 2) (by decide) rfl w509 (mono_ob q6.1 h1) e8 (nz_ne h9) d11_day_18 ?_
    refine ev_aload_n (j := 0) (i := 0) (q := 1) rfl rfl d11_day_21 ?_
    refine ev_getI cls11 (j := 8) (by decide) rfl w515 (mono_ob q6.1 h1) d11_day_22 ?_
    refine ev_iload_n (j := 1) (i := 1) (q := 0) rfl rfl d11_day_25 ?_
    refine ev_aload_n (j := 0) (i := 0) (q := 1) rfl rfl d11_day_26 ?_
    obtain ⟨b10, e11, hf⟩ := lt_some hf
    obtain ⟨h12, hf⟩ := gd_some hf
    refine ev_getRb cls11 (j := 1) (by decide) rfl w508 (mono_ob q6.1 h1) e11 (nz_ne h12) d11_day_27 ?_
    obtain ⟨h13, hf⟩ := gd_some hf
    obtain ⟨b14, e15, hf⟩ := lt_some hf
    obtain ⟨h16, hf⟩ := gd_some hf
    refine ev_getRNb cls4 (j := 2) (by decide) rfl w320 h13 e15 (nz_ne h16) d11_day_30 ?_
    refine ev_aload_n (j := 0) (i := 0) (q := 1) rfl rfl d11_day_33 ?_
    refine ev_getI cls11 (j := 8) (by decide) rfl w515 (mono_ob q6.1 h1) d11_day_34 ?_
    refine ev_aload_n (j := 0) (i := 0) (q := 1) rfl rfl d11_day_37 ?_
    refine ev_getI cls11 (j := 8) (by decide) rfl w515 (mono_ob q6.1 h1) d11_day_38 ?_
    refine ev_iconst ci_0 d11_day_41 ?_
    obtain ⟨h17, hf⟩ := gd_some hf
    obtain ⟨r18, t19, k20, hf⟩ := bd_some hf
    have q21 := s1_exactOr _ _ _ _ _ _ _ k20
    refine ev_callV (vs := [.int (sI t4 v0 8), .int (sI t4 v0 8), .int (0 : Int32)]) (sk := [.int r3, .int (sI t4 v0 8), .ref b7]) cls1 h17 q21 (by decide) (Nat.le_of_ble_eq_true rfl) w693 w694 w695 w7 w696 k1_exactOr rfl (Nat.le_of_ble_eq_true rfl) d11_day_42 ?_
    refine ev_iconst ci_1 d11_day_45 ?_
    rcases ite_some hf with ⟨c22, hf⟩ | ⟨c22, hf⟩
    · refine ev_icmp_ne_P (tgt := 53) c22 (by decide) d11_day_46 ?_
      refine ev_iconst ci_1 d11_day_49 ?_
      refine ev_goto (tgt := 54) (by decide) d11_day_50 ?_
      exact Ev.sub [1, 0] rfl (s11_day_p54 _ _ _ _ _ _ _ _ _ hf)
    · refine ev_icmp_ne_Q (tgt := 53) c22 (by decide) d11_day_46 ?_
      refine ev_iconst ci_0 d11_day_53 ?_
      exact Ev.sub [1, 0] rfl (s11_day_p54 _ _ _ _ _ _ _ _ _ hf)
  · refine ev_icmp_lt_Q (tgt := 12) c2 (by decide) d11_day_7 ?_
    refine ev_iconst ci_m1 d11_day_10 ?_
    obtain ⟨rfl, rfl⟩ := ret_some hf
    exact ev_iret rfl d11_day_11
abbrev m11_event : MD := ("MillBoats", ⟨"MillBoats", "event", "(II)I"⟩, prog_1_method_27_code, 3, (some Jvm.ClassFile.FieldType.int))
theorem k11_event : okY m11_event.2.1 2 := ⟨by decide +kernel, by decide +kernel, by decide +kernel⟩
def f11_event (σ : St) (v0 : Nat) (v1 : Int32) (v2 : Int32) : Option (Int32 × St) :=
  gd (ob σ v0 11) (
  lt (sR σ v0 2) fun b2 => (
  gd (nz b2) (
  gd (ob σ b2 2) (
  bd (f2_told σ b2 v1 v2) fun r6 t7 => (
  some (r6, t7))))))
set_option maxRecDepth 50000 in
theorem s11_event : ∀ (σ : St) (v0 : Nat) (v1 : Int32) (v2 : Int32) (r : Int32) (τ : St), f11_event σ v0 v1 v2 = some (r, τ) → Call 3 m11_event [.ref v0, .int v1, .int v2] σ (some (.int r)) τ := by
  intro σ v0 v1 v2 r τ hf
  unfold f11_event at hf
  refine Call.of (by decide +kernel) rfl (Nat.le_of_ble_eq_true rfl) ?_
  refine ev_aload_n (j := 0) (i := 0) (q := 0) rfl rfl d11_event_0 ?_
  obtain ⟨h1, hf⟩ := gd_some hf
  obtain ⟨b2, e3, hf⟩ := lt_some hf
  obtain ⟨h4, hf⟩ := gd_some hf
  refine ev_getRb cls11 (j := 2) (by decide) rfl w509 h1 e3 (nz_ne h4) d11_event_1 ?_
  refine ev_iload_n (j := 1) (i := 1) (q := 1) rfl rfl d11_event_4 ?_
  refine ev_iload_n (j := 2) (i := 2) (q := 2) rfl rfl d11_event_5 ?_
  obtain ⟨h5, hf⟩ := gd_some hf
  obtain ⟨r6, t7, k8, hf⟩ := bd_some hf
  have q9 := s2_told _ _ _ _ _ _ k8
  refine ev_callV (vs := [.int v1, .int v2]) (sk := []) cls2 h5 q9 (by decide) (Nat.le_of_ble_eq_true rfl) w1008 w1009 w1010 w15 w1011 k2_told rfl (Nat.le_of_ble_eq_true rfl) d11_event_6 ?_
  obtain ⟨rfl, rfl⟩ := ret_some hf
  exact ev_iret rfl d11_event_9
abbrev m11_plan : MD := ("MillBoats", ⟨"MillBoats", "plan", "(IIII)I"⟩, prog_1_method_28_code, 5, (some Jvm.ClassFile.FieldType.int))
theorem k11_plan : okY m11_plan.2.1 4 := ⟨by decide +kernel, by decide +kernel, by decide +kernel⟩
def f11_plan (σ : St) (v0 : Nat) (v1 : Int32) (v2 : Int32) (v3 : Int32) (v4 : Int32) : Option (Int32 × St) :=
  gd (ob σ v0 11) (
  (if v1 < (sI σ v0 8) then
  some ((-1 : Int32), σ)
  else
  (if v1 ≤ (999 : Int32) then
  bd (f11_isStretch σ v3) fun r4 t5 => (
  (if r4 = (0 : Int32) then
  some ((-1 : Int32), t5)
  else
  bd (f11_isStretch t5 v4) fun r9 t10 => (
  (if r9 = (0 : Int32) then
  some ((-1 : Int32), t10)
  else
  (if v3 ≤ v4 then
  (if (v4 - v3) < (4 : Int32) then
  lt (sR t10 v0 0) fun b16 => (
  gd (nz b16) (
  gd (ob t10 b16 8) (
  bd (f8_canPlan t10 b16 v2) fun r20 t21 => (
  (if r20 = (0 : Int32) then
  some ((-1 : Int32), t21)
  else
  lt (sR t21 v0 4) fun b25 => (
  gd (nz b25) (
  gd (ob t21 b25 6) (
  bd (f6_search t21 b25 v1 (sI t21 v0 8) v2 v3 v4) fun r29 t30 => (
  some (r29, t30))))))))))
  else
  some ((-1 : Int32), t10))
  else
  some ((-1 : Int32), t10))))))
  else
  some ((-1 : Int32), σ))))
set_option maxRecDepth 50000 in
theorem s11_plan : ∀ (σ : St) (v0 : Nat) (v1 : Int32) (v2 : Int32) (v3 : Int32) (v4 : Int32) (r : Int32) (τ : St), f11_plan σ v0 v1 v2 v3 v4 = some (r, τ) → Call 21 m11_plan [.ref v0, .int v1, .int v2, .int v3, .int v4] σ (some (.int r)) τ := by
  intro σ v0 v1 v2 v3 v4 r τ hf
  unfold f11_plan at hf
  refine Call.of (by decide +kernel) rfl (Nat.le_of_ble_eq_true rfl) ?_
  refine ev_iload_n (j := 1) (i := 1) (q := 1) rfl rfl d11_plan_0 ?_
  refine ev_aload_n (j := 0) (i := 0) (q := 0) rfl rfl d11_plan_1 ?_
  obtain ⟨h1, hf⟩ := gd_some hf
  refine ev_getI cls11 (j := 8) (by decide) rfl w515 h1 d11_plan_2 ?_
  rcases ite_some hf with ⟨c2, hf⟩ | ⟨c2, hf⟩
  · refine ev_icmp_lt_P (tgt := 30) c2 (by decide) d11_plan_5 ?_
    refine ev_iconst ci_m1 d11_plan_30 ?_
    obtain ⟨rfl, rfl⟩ := ret_some hf
    exact ev_iret rfl d11_plan_31
  · refine ev_icmp_lt_Q (tgt := 30) c2 (by decide) d11_plan_5 ?_
    refine ev_iload_n (j := 1) (i := 1) (q := 1) rfl rfl d11_plan_8 ?_
    refine ev_sipush cs_999 d11_plan_9 ?_
    rcases ite_some hf with ⟨c3, hf⟩ | ⟨c3, hf⟩
    · refine ev_icmp_gt_P (tgt := 30) c3 (by decide) d11_plan_12 ?_
      refine ev_iload_n (j := 3) (i := 3) (q := 3) rfl rfl d11_plan_15 ?_
      obtain ⟨r4, t5, k6, hf⟩ := bd_some hf
      have q7 := s11_isStretch _ _ _ _ k6
      refine ev_callS (vs := [.int v3]) (sk := []) q7 (by decide) (Nat.le_of_ble_eq_true rfl) w910 w911 w1 w912 k11_isStretch rfl (Nat.le_of_ble_eq_true rfl) d11_plan_16 ?_
      rcases ite_some hf with ⟨c8, hf⟩ | ⟨c8, hf⟩
      · refine ev_if_eq_P (tgt := 30) c8 (by decide) d11_plan_19 ?_
        refine ev_iconst ci_m1 d11_plan_30 ?_
        obtain ⟨rfl, rfl⟩ := ret_some hf
        exact ev_iret rfl d11_plan_31
      · refine ev_if_eq_Q (tgt := 30) c8 (by decide) d11_plan_19 ?_
        refine ev_iload (i := 4) (q := 4) rfl d11_plan_22 ?_
        obtain ⟨r9, t10, k11, hf⟩ := bd_some hf
        have q12 := s11_isStretch _ _ _ _ k11
        refine ev_callS (vs := [.int v4]) (sk := []) q12 (by decide) (Nat.le_of_ble_eq_true rfl) w910 w911 w1 w912 k11_isStretch rfl (Nat.le_of_ble_eq_true rfl) d11_plan_24 ?_
        rcases ite_some hf with ⟨c13, hf⟩ | ⟨c13, hf⟩
        · refine ev_if_ne_P (tgt := 32) c13 (by decide) d11_plan_27 ?_
          refine ev_iconst ci_m1 d11_plan_30 ?_
          obtain ⟨rfl, rfl⟩ := ret_some hf
          exact ev_iret rfl d11_plan_31
        · refine ev_if_ne_Q (tgt := 32) c13 (by decide) d11_plan_27 ?_
          refine ev_iload_n (j := 3) (i := 3) (q := 3) rfl rfl d11_plan_32 ?_
          refine ev_iload (i := 4) (q := 4) rfl d11_plan_33 ?_
          rcases ite_some hf with ⟨c14, hf⟩ | ⟨c14, hf⟩
          · refine ev_icmp_gt_P (tgt := 57) c14 (by decide) d11_plan_35 ?_
            refine ev_iload (i := 4) (q := 4) rfl d11_plan_38 ?_
            refine ev_iload_n (j := 3) (i := 3) (q := 3) rfl rfl d11_plan_40 ?_
            refine ev_isub d11_plan_41 ?_
            refine ev_iconst ci_4 d11_plan_42 ?_
            rcases ite_some hf with ⟨c15, hf⟩ | ⟨c15, hf⟩
            · refine ev_icmp_ge_P (tgt := 57) c15 (by decide) d11_plan_43 ?_
              refine ev_aload_n (j := 0) (i := 0) (q := 0) rfl rfl d11_plan_46 ?_
              obtain ⟨b16, e17, hf⟩ := lt_some hf
              obtain ⟨h18, hf⟩ := gd_some hf
              refine ev_getRb cls11 (j := 0) (by decide) rfl w507 (mono_ob q12.1 (mono_ob q7.1 h1)) e17 (nz_ne h18) d11_plan_47 ?_
              refine ev_iload_n (j := 2) (i := 2) (q := 2) rfl rfl d11_plan_50 ?_
              obtain ⟨h19, hf⟩ := gd_some hf
              obtain ⟨r20, t21, k22, hf⟩ := bd_some hf
              have q23 := s8_canPlan _ _ _ _ _ k22
              refine ev_callV (vs := [.int v2]) (sk := []) cls8 h19 q23 (by decide) (Nat.le_of_ble_eq_true rfl) w1016 w1017 w1018 w2 w1019 k8_canPlan rfl (Nat.le_of_ble_eq_true rfl) d11_plan_51 ?_
              rcases ite_some hf with ⟨c24, hf⟩ | ⟨c24, hf⟩
              · refine ev_if_ne_P (tgt := 59) c24 (by decide) d11_plan_54 ?_
                refine ev_iconst ci_m1 d11_plan_57 ?_
                obtain ⟨rfl, rfl⟩ := ret_some hf
                exact ev_iret rfl d11_plan_58
              · refine ev_if_ne_Q (tgt := 59) c24 (by decide) d11_plan_54 ?_
                refine ev_aload_n (j := 0) (i := 0) (q := 0) rfl rfl d11_plan_59 ?_
                obtain ⟨b25, e26, hf⟩ := lt_some hf
                obtain ⟨h27, hf⟩ := gd_some hf
                refine ev_getRb cls11 (j := 4) (by decide) rfl w511 (mono_ob q23.1 (mono_ob q12.1 (mono_ob q7.1 h1))) e26 (nz_ne h27) d11_plan_60 ?_
                refine ev_iload_n (j := 1) (i := 1) (q := 1) rfl rfl d11_plan_63 ?_
                refine ev_aload_n (j := 0) (i := 0) (q := 0) rfl rfl d11_plan_64 ?_
                refine ev_getI cls11 (j := 8) (by decide) rfl w515 (mono_ob q23.1 (mono_ob q12.1 (mono_ob q7.1 h1))) d11_plan_65 ?_
                refine ev_iload_n (j := 2) (i := 2) (q := 2) rfl rfl d11_plan_68 ?_
                refine ev_iload_n (j := 3) (i := 3) (q := 3) rfl rfl d11_plan_69 ?_
                refine ev_iload (i := 4) (q := 4) rfl d11_plan_70 ?_
                obtain ⟨h28, hf⟩ := gd_some hf
                obtain ⟨r29, t30, k31, hf⟩ := bd_some hf
                have q32 := s6_search _ _ _ _ _ _ _ _ _ k31
                refine ev_callV (vs := [.int v1, .int (sI t21 v0 8), .int v2, .int v3, .int v4]) (sk := []) cls6 h28 q32 (by decide) (Nat.le_of_ble_eq_true rfl) w1026 w1027 w1028 w17 w1029 k6_search rfl (Nat.le_of_ble_eq_true rfl) d11_plan_72 ?_
                obtain ⟨rfl, rfl⟩ := ret_some hf
                exact ev_iret rfl d11_plan_75
            · refine ev_icmp_ge_Q (tgt := 57) c15 (by decide) d11_plan_43 ?_
              refine ev_iconst ci_m1 d11_plan_57 ?_
              obtain ⟨rfl, rfl⟩ := ret_some hf
              exact ev_iret rfl d11_plan_58
          · refine ev_icmp_gt_Q (tgt := 57) c14 (by decide) d11_plan_35 ?_
            refine ev_iconst ci_m1 d11_plan_57 ?_
            obtain ⟨rfl, rfl⟩ := ret_some hf
            exact ev_iret rfl d11_plan_58
    · refine ev_icmp_gt_Q (tgt := 30) c3 (by decide) d11_plan_12 ?_
      refine ev_iconst ci_m1 d11_plan_30 ?_
      obtain ⟨rfl, rfl⟩ := ret_some hf
      exact ev_iret rfl d11_plan_31
abbrev m11_planned : MD := ("MillBoats", ⟨"MillBoats", "planned", "(I)I"⟩, prog_1_method_29_code, 2, (some Jvm.ClassFile.FieldType.int))
theorem k11_planned : okY m11_planned.2.1 1 := ⟨by decide +kernel, by decide +kernel, by decide +kernel⟩
def f11_planned (σ : St) (v0 : Nat) (v1 : Int32) : Option (Int32 × St) :=
  gd (ob σ v0 11) (
  lt (sR σ v0 4) fun b2 => (
  gd (nz b2) (
  gd (ob σ b2 6) (
  bd (f6_has σ b2 v1) fun r6 t7 => (
  (if r6 = (0 : Int32) then
  some ((-2 : Int32), t7)
  else
  lt (sR t7 v0 4) fun b11 => (
  gd (nz b11) (
  gd (ob t7 b11 6) (
  lt (sR t7 b11 2) fun b15 => (
  gd (nz b15) (
  gd (ob t7 b15 14) (
  gd (inb t7 b15 v1) (
  some (sI t7 b15 (ix v1), t7))))))))))))))
set_option maxRecDepth 50000 in
theorem s11_planned : ∀ (σ : St) (v0 : Nat) (v1 : Int32) (r : Int32) (τ : St), f11_planned σ v0 v1 = some (r, τ) → Call 3 m11_planned [.ref v0, .int v1] σ (some (.int r)) τ := by
  intro σ v0 v1 r τ hf
  unfold f11_planned at hf
  refine Call.of (by decide +kernel) rfl (Nat.le_of_ble_eq_true rfl) ?_
  refine ev_aload_n (j := 0) (i := 0) (q := 0) rfl rfl d11_planned_0 ?_
  obtain ⟨h1, hf⟩ := gd_some hf
  obtain ⟨b2, e3, hf⟩ := lt_some hf
  obtain ⟨h4, hf⟩ := gd_some hf
  refine ev_getRb cls11 (j := 4) (by decide) rfl w511 h1 e3 (nz_ne h4) d11_planned_1 ?_
  refine ev_iload_n (j := 1) (i := 1) (q := 1) rfl rfl d11_planned_4 ?_
  obtain ⟨h5, hf⟩ := gd_some hf
  obtain ⟨r6, t7, k8, hf⟩ := bd_some hf
  have q9 := s6_has _ _ _ _ _ k8
  refine ev_callV (vs := [.int v1]) (sk := []) cls6 h5 q9 (by decide) (Nat.le_of_ble_eq_true rfl) w1080 w1081 w1082 w17 w1083 k6_has rfl (Nat.le_of_ble_eq_true rfl) d11_planned_5 ?_
  rcases ite_some hf with ⟨c10, hf⟩ | ⟨c10, hf⟩
  · refine ev_if_eq_P (tgt := 23) c10 (by decide) d11_planned_8 ?_
    refine ev_bipush cb_m2 d11_planned_23 ?_
    obtain ⟨rfl, rfl⟩ := ret_some hf
    exact ev_iret rfl d11_planned_25
  · refine ev_if_eq_Q (tgt := 23) c10 (by decide) d11_planned_8 ?_
    refine ev_aload_n (j := 0) (i := 0) (q := 0) rfl rfl d11_planned_11 ?_
    obtain ⟨b11, e12, hf⟩ := lt_some hf
    obtain ⟨h13, hf⟩ := gd_some hf
    refine ev_getRb cls11 (j := 4) (by decide) rfl w511 (mono_ob q9.1 h1) e12 (nz_ne h13) d11_planned_12 ?_
    obtain ⟨h14, hf⟩ := gd_some hf
    obtain ⟨b15, e16, hf⟩ := lt_some hf
    obtain ⟨h17, hf⟩ := gd_some hf
    refine ev_getRNb cls6 (j := 2) (by decide) rfl w421 h14 e16 (nz_ne h17) d11_planned_15 ?_
    refine ev_iload_n (j := 1) (i := 1) (q := 1) rfl rfl d11_planned_18 ?_
    obtain ⟨h18, hf⟩ := gd_some hf
    obtain ⟨h19, hf⟩ := gd_some hf
    refine ev_iald h18 h19 d11_planned_19 ?_
    refine ev_goto (tgt := 25) (by decide) d11_planned_20 ?_
    obtain ⟨rfl, rfl⟩ := ret_some hf
    exact ev_iret rfl d11_planned_25
abbrev m11_moves : MD := ("MillBoats", ⟨"MillBoats", "moves", "()I"⟩, prog_1_method_30_code, 1, (some Jvm.ClassFile.FieldType.int))
theorem k11_moves : okY m11_moves.2.1 0 := ⟨by decide +kernel, by decide +kernel, by decide +kernel⟩
def f11_moves (σ : St) (v0 : Nat) : Option (Int32 × St) :=
  gd (ob σ v0 11) (
  lt (sR σ v0 5) fun b2 => (
  gd (nz b2) (
  bd (f11_heightToday σ v0) fun r5 t6 => (
  gd (ob t6 b2 5) (
  bd (f5_find t6 b2 r5) fun r10 t11 => (
  some (r10, t11)))))))
set_option maxRecDepth 50000 in
theorem s11_moves : ∀ (σ : St) (v0 : Nat) (r : Int32) (τ : St), f11_moves σ v0 = some (r, τ) → Call 21 m11_moves [.ref v0] σ (some (.int r)) τ := by
  intro σ v0 r τ hf
  unfold f11_moves at hf
  refine Call.of (by decide +kernel) rfl (Nat.le_of_ble_eq_true rfl) ?_
  refine ev_aload_n (j := 0) (i := 0) (q := 0) rfl rfl d11_moves_0 ?_
  obtain ⟨h1, hf⟩ := gd_some hf
  obtain ⟨b2, e3, hf⟩ := lt_some hf
  obtain ⟨h4, hf⟩ := gd_some hf
  refine ev_getRb cls11 (j := 5) (by decide) rfl w512 h1 e3 (nz_ne h4) d11_moves_1 ?_
  refine ev_aload_n (j := 0) (i := 0) (q := 0) rfl rfl d11_moves_4 ?_
  obtain ⟨r5, t6, k7, hf⟩ := bd_some hf
  have q8 := s11_heightToday _ _ _ _ k7
  refine ev_callV (vs := []) (sk := [.ref b2]) cls11 h1 q8 (by decide) (Nat.le_of_ble_eq_true rfl) w927 w929 ws32 w1 w930 k11_heightToday rfl (Nat.le_of_ble_eq_true rfl) d11_moves_5 ?_
  obtain ⟨h9, hf⟩ := gd_some hf
  obtain ⟨r10, t11, k12, hf⟩ := bd_some hf
  have q13 := s5_find _ _ _ _ _ k12
  refine ev_callV (vs := [.int r5]) (sk := []) cls5 h9 q13 (by decide) (Nat.le_of_ble_eq_true rfl) w1088 w1089 w1090 w18 w1091 k5_find rfl (Nat.le_of_ble_eq_true rfl) d11_moves_8 ?_
  obtain ⟨rfl, rfl⟩ := ret_some hf
  exact ev_iret rfl d11_moves_11
abbrev m11_move : MD := ("MillBoats", ⟨"MillBoats", "move", "(II)I"⟩, prog_1_method_31_code, 4, (some Jvm.ClassFile.FieldType.int))
theorem k11_move : okY m11_move.2.1 2 := ⟨by decide +kernel, by decide +kernel, by decide +kernel⟩
def f11_move (σ : St) (v0 : Nat) (v1 : Int32) (v2 : Int32) : Option (Int32 × St) :=
  gd (ob σ v0 11) (
  lt (sR σ v0 5) fun b2 => (
  gd (nz b2) (
  bd (f11_heightToday σ v0) fun r5 t6 => (
  gd (ob t6 b2 5) (
  bd (f5_find t6 b2 r5) fun r10 t11 => (
  (if v1 < (0 : Int32) then
  some ((-1 : Int32), t11)
  else
  (if v1 < r10 then
  (if v1 < (3 : Int32) then
  (if v2 = (0 : Int32) then
  lt (sR t11 v0 5) fun b18 => (
  gd (nz b18) (
  gd (ob t11 b18 5) (
  lt (sR t11 b18 2) fun b22 => (
  gd (nz b22) (
  gd (ob t11 b22 14) (
  gd (inb t11 b22 v1) (
  some (sI t11 b22 (ix v1), t11))))))))
  else
  (if v2 = (1 : Int32) then
  lt (sR t11 v0 5) fun b28 => (
  gd (nz b28) (
  gd (ob t11 b28 5) (
  lt (sR t11 b28 3) fun b32 => (
  gd (nz b32) (
  gd (ob t11 b32 14) (
  gd (inb t11 b32 v1) (
  some (sI t11 b32 (ix v1), t11))))))))
  else
  some ((-1 : Int32), t11)))
  else
  some ((-1 : Int32), t11))
  else
  some ((-1 : Int32), t11)))))))))
set_option maxRecDepth 50000 in
theorem s11_move : ∀ (σ : St) (v0 : Nat) (v1 : Int32) (v2 : Int32) (r : Int32) (τ : St), f11_move σ v0 v1 v2 = some (r, τ) → Call 21 m11_move [.ref v0, .int v1, .int v2] σ (some (.int r)) τ := by
  intro σ v0 v1 v2 r τ hf
  unfold f11_move at hf
  refine Call.of (by decide +kernel) rfl (Nat.le_of_ble_eq_true rfl) ?_
  refine ev_aload_n (j := 0) (i := 0) (q := 0) rfl rfl d11_move_0 ?_
  obtain ⟨h1, hf⟩ := gd_some hf
  obtain ⟨b2, e3, hf⟩ := lt_some hf
  obtain ⟨h4, hf⟩ := gd_some hf
  refine ev_getRb cls11 (j := 5) (by decide) rfl w512 h1 e3 (nz_ne h4) d11_move_1 ?_
  refine ev_aload_n (j := 0) (i := 0) (q := 0) rfl rfl d11_move_4 ?_
  obtain ⟨r5, t6, k7, hf⟩ := bd_some hf
  have q8 := s11_heightToday _ _ _ _ k7
  refine ev_callV (vs := []) (sk := [.ref b2]) cls11 h1 q8 (by decide) (Nat.le_of_ble_eq_true rfl) w927 w929 ws32 w1 w930 k11_heightToday rfl (Nat.le_of_ble_eq_true rfl) d11_move_5 ?_
  obtain ⟨h9, hf⟩ := gd_some hf
  obtain ⟨r10, t11, k12, hf⟩ := bd_some hf
  have q13 := s5_find _ _ _ _ _ k12
  refine ev_callV (vs := [.int r5]) (sk := []) cls5 h9 q13 (by decide) (Nat.le_of_ble_eq_true rfl) w1088 w1089 w1090 w18 w1091 k5_find rfl (Nat.le_of_ble_eq_true rfl) d11_move_8 ?_
  refine ev_istore_n (lv2 := [(3, .int r10), (0, .ref v0), (1, .int v1), (2, .int v2)]) (j := 3) (i := 3) rfl (by decide) rfl d11_move_11 ?_
  refine ev_iload_n (j := 1) (i := 1) (q := 2) rfl rfl d11_move_12 ?_
  rcases ite_some hf with ⟨c14, hf⟩ | ⟨c14, hf⟩
  · refine ev_if_lt_P (tgt := 26) c14 (by decide) d11_move_13 ?_
    refine ev_iconst ci_m1 d11_move_26 ?_
    obtain ⟨rfl, rfl⟩ := ret_some hf
    exact ev_iret rfl d11_move_27
  · refine ev_if_lt_Q (tgt := 26) c14 (by decide) d11_move_13 ?_
    refine ev_iload_n (j := 1) (i := 1) (q := 2) rfl rfl d11_move_16 ?_
    refine ev_iload_n (j := 3) (i := 3) (q := 0) rfl rfl d11_move_17 ?_
    rcases ite_some hf with ⟨c15, hf⟩ | ⟨c15, hf⟩
    · refine ev_icmp_ge_P (tgt := 26) c15 (by decide) d11_move_18 ?_
      refine ev_iload_n (j := 1) (i := 1) (q := 2) rfl rfl d11_move_21 ?_
      refine ev_iconst ci_3 d11_move_22 ?_
      rcases ite_some hf with ⟨c16, hf⟩ | ⟨c16, hf⟩
      · refine ev_icmp_lt_P (tgt := 28) c16 (by decide) d11_move_23 ?_
        refine ev_iload_n (j := 2) (i := 2) (q := 3) rfl rfl d11_move_28 ?_
        rcases ite_some hf with ⟨c17, hf⟩ | ⟨c17, hf⟩
        · refine ev_if_ne_P (tgt := 44) c17 (by decide) d11_move_29 ?_
          refine ev_aload_n (j := 0) (i := 0) (q := 1) rfl rfl d11_move_32 ?_
          obtain ⟨b18, e19, hf⟩ := lt_some hf
          obtain ⟨h20, hf⟩ := gd_some hf
          refine ev_getRb cls11 (j := 5) (by decide) rfl w512 (mono_ob q13.1 (mono_ob q8.1 h1)) e19 (nz_ne h20) d11_move_33 ?_
          obtain ⟨h21, hf⟩ := gd_some hf
          obtain ⟨b22, e23, hf⟩ := lt_some hf
          obtain ⟨h24, hf⟩ := gd_some hf
          refine ev_getRNb cls5 (j := 2) (by decide) rfl w477 h21 e23 (nz_ne h24) d11_move_36 ?_
          refine ev_iload_n (j := 1) (i := 1) (q := 2) rfl rfl d11_move_39 ?_
          obtain ⟨h25, hf⟩ := gd_some hf
          obtain ⟨h26, hf⟩ := gd_some hf
          refine ev_iald h25 h26 d11_move_40 ?_
          refine ev_goto (tgt := 62) (by decide) d11_move_41 ?_
          obtain ⟨rfl, rfl⟩ := ret_some hf
          exact ev_iret rfl d11_move_62
        · refine ev_if_ne_Q (tgt := 44) c17 (by decide) d11_move_29 ?_
          refine ev_iload_n (j := 2) (i := 2) (q := 3) rfl rfl d11_move_44 ?_
          refine ev_iconst ci_1 d11_move_45 ?_
          rcases ite_some hf with ⟨c27, hf⟩ | ⟨c27, hf⟩
          · refine ev_icmp_ne_P (tgt := 61) c27 (by decide) d11_move_46 ?_
            refine ev_aload_n (j := 0) (i := 0) (q := 1) rfl rfl d11_move_49 ?_
            obtain ⟨b28, e29, hf⟩ := lt_some hf
            obtain ⟨h30, hf⟩ := gd_some hf
            refine ev_getRb cls11 (j := 5) (by decide) rfl w512 (mono_ob q13.1 (mono_ob q8.1 h1)) e29 (nz_ne h30) d11_move_50 ?_
            obtain ⟨h31, hf⟩ := gd_some hf
            obtain ⟨b32, e33, hf⟩ := lt_some hf
            obtain ⟨h34, hf⟩ := gd_some hf
            refine ev_getRNb cls5 (j := 3) (by decide) rfl w479 h31 e33 (nz_ne h34) d11_move_53 ?_
            refine ev_iload_n (j := 1) (i := 1) (q := 2) rfl rfl d11_move_56 ?_
            obtain ⟨h35, hf⟩ := gd_some hf
            obtain ⟨h36, hf⟩ := gd_some hf
            refine ev_iald h35 h36 d11_move_57 ?_
            refine ev_goto (tgt := 62) (by decide) d11_move_58 ?_
            obtain ⟨rfl, rfl⟩ := ret_some hf
            exact ev_iret rfl d11_move_62
          · refine ev_icmp_ne_Q (tgt := 61) c27 (by decide) d11_move_46 ?_
            refine ev_iconst ci_m1 d11_move_61 ?_
            obtain ⟨rfl, rfl⟩ := ret_some hf
            exact ev_iret rfl d11_move_62
      · refine ev_icmp_lt_Q (tgt := 28) c16 (by decide) d11_move_23 ?_
        refine ev_iconst ci_m1 d11_move_26 ?_
        obtain ⟨rfl, rfl⟩ := ret_some hf
        exact ev_iret rfl d11_move_27
    · refine ev_icmp_ge_Q (tgt := 26) c15 (by decide) d11_move_18 ?_
      refine ev_iconst ci_m1 d11_move_26 ?_
      obtain ⟨rfl, rfl⟩ := ret_some hf
      exact ev_iret rfl d11_move_27
abbrev m11_go : MD := ("MillBoats", ⟨"MillBoats", "go", "()I"⟩, prog_1_method_32_code, 4, (some Jvm.ClassFile.FieldType.int))
theorem k11_go : okY m11_go.2.1 0 := ⟨by decide +kernel, by decide +kernel, by decide +kernel⟩
def f11_go_p63 (K14 : St → Nat → Int32 → Int32 → Option (Int32 × St)) (σ : St) (v0 : Nat) (v1 : Int32) (v2 : Int32) : Option (Int32 × St) :=
  lt (v2 + (1 : Int32)) fun y57 => (
  K14 σ v0 v1 y57)
set_option maxRecDepth 20000 in
theorem s11_go_p63 {K14 : St → Nat → Int32 → Int32 → Option (Int32 × St)} (hK14 : ∀ (σ : St) (v0 : Nat) (v1 : Int32) (v2 : Int32) (r : Int32) (τ : St), K14 σ v0 v1 v2 = some (r, τ) → Ev 21 m11_go 14 [(0, .ref v0), (1, .int v1), (2, .int v2)] [] σ (some (.int r)) τ) : ∀ (σ : St) (v0 : Nat) (v1 : Int32) (v2 : Int32) (r : Int32) (τ : St), f11_go_p63 K14 σ v0 v1 v2 = some (r, τ) → Ev 21 m11_go 63 [(0, .ref v0), (1, .int v1), (2, .int v2)] [] σ (some (.int r)) τ := by
  intro σ v0 v1 v2 r τ hf
  unfold f11_go_p63 at hf
  obtain ⟨y57, e58, hf⟩ := lt_some hf
  refine ev_iinc (lv2 := [(2, .int y57), (0, .ref v0), (1, .int v1)]) (i := 2) (q := 2) (v := y57) (n := 1) rfl (by rw [ci_1]; exact e58.symm) (by decide) rfl d11_go_63 ?_
  refine ev_goto (tgt := 14) (by decide) d11_go_66 ?_
  exact Ev.sub [1, 2, 0] rfl (hK14 _ _ _ _ _ _ hf)
def f11_go_p14 : Nat → St → Nat → Int32 → Int32 → Option (Int32 × St)
  | 0, _, _, _, _ => none
  | n + 1, σ, v0, v1, v2 =>
  (if v2 < v1 then
  (if v2 < (3 : Int32) then
  gd (ob σ v0 11) (
  lt (sR σ v0 5) fun b17 => (
  gd (nz b17) (
  gd (ob σ b17 5) (
  lt (sR σ b17 2) fun b21 => (
  gd (nz b21) (
  gd (ob σ b21 14) (
  gd (inb σ b21 v2) (
  lt (sI σ b21 (ix v2)) fun y26 => (
  lt (sR σ v0 0) fun b28 => (
  gd (nz b28) (
  gd (ob σ b28 8) (
  bd (f8_has σ b28 y26) fun r32 t33 => (
  (if r32 = (0 : Int32) then
  f11_go_p63 (f11_go_p14 n) t33 v0 v1 v2
  else
  lt (sR t33 v0 0) fun b37 => (
  gd (nz b37) (
  gd (ob t33 b37 8) (
  lt (sR t33 b37 3) fun b41 => (
  gd (nz b41) (
  lt (sR t33 v0 4) fun b44 => (
  gd (nz b44) (
  gd (ob t33 b44 6) (
  lt (sR t33 b44 2) fun b48 => (
  gd (nz b48) (
  gd (ob t33 b48 14) (
  gd (inb t33 b48 y26) (
  gd (ob t33 b41 14) (
  gd (inb t33 b41 y26) (
  lt (wI t33 b41 (ix y26) (sI t33 b48 (ix y26))) fun t55 => (
  f11_go_p63 (f11_go_p14 n) t55 v0 v1 v2)))))))))))))))))))))))))))))
  else
  some (v1, σ))
  else
  some (v1, σ))
set_option maxRecDepth 20000 in
theorem s11_go_p14 : ∀ (n : Nat) (σ : St) (v0 : Nat) (v1 : Int32) (v2 : Int32) (r : Int32) (τ : St), f11_go_p14 n σ v0 v1 v2 = some (r, τ) → Ev 21 m11_go 14 [(0, .ref v0), (1, .int v1), (2, .int v2)] [] σ (some (.int r)) τ := by
  intro n
  induction n with
  | zero =>
    intro σ v0 v1 v2 r τ hf
    cases hf
  | succ n ih =>
    intro σ v0 v1 v2 r τ hf
    rw [f11_go_p14] at hf
    refine ev_iload_n (j := 2) (i := 2) (q := 2) rfl rfl d11_go_14 ?_
    refine ev_iload_n (j := 1) (i := 1) (q := 1) rfl rfl d11_go_15 ?_
    rcases ite_some hf with ⟨c14, hf⟩ | ⟨c14, hf⟩
    · refine ev_icmp_ge_P (tgt := 69) c14 (by decide) d11_go_16 ?_
      refine ev_iload_n (j := 2) (i := 2) (q := 2) rfl rfl d11_go_19 ?_
      refine ev_iconst ci_3 d11_go_20 ?_
      rcases ite_some hf with ⟨c15, hf⟩ | ⟨c15, hf⟩
      · refine ev_icmp_ge_P (tgt := 69) c15 (by decide) d11_go_21 ?_
        refine ev_aload_n (j := 0) (i := 0) (q := 0) rfl rfl d11_go_24 ?_
        obtain ⟨h16, hf⟩ := gd_some hf
        obtain ⟨b17, e18, hf⟩ := lt_some hf
        obtain ⟨h19, hf⟩ := gd_some hf
        refine ev_getRb cls11 (j := 5) (by decide) rfl w512 h16 e18 (nz_ne h19) d11_go_25 ?_
        obtain ⟨h20, hf⟩ := gd_some hf
        obtain ⟨b21, e22, hf⟩ := lt_some hf
        obtain ⟨h23, hf⟩ := gd_some hf
        refine ev_getRNb cls5 (j := 2) (by decide) rfl w477 h20 e22 (nz_ne h23) d11_go_28 ?_
        refine ev_iload_n (j := 2) (i := 2) (q := 2) rfl rfl d11_go_31 ?_
        obtain ⟨h24, hf⟩ := gd_some hf
        obtain ⟨h25, hf⟩ := gd_some hf
        refine ev_iald h24 h25 d11_go_32 ?_
        obtain ⟨y26, e27, hf⟩ := lt_some hf
        refine ev_nmI e27 ?_
        refine ev_istore_n (lv2 := [(3, .int y26), (0, .ref v0), (1, .int v1), (2, .int v2)]) (j := 3) (i := 3) rfl (by decide) rfl d11_go_33 ?_
        refine ev_aload_n (j := 0) (i := 0) (q := 1) rfl rfl d11_go_34 ?_
        obtain ⟨b28, e29, hf⟩ := lt_some hf
        obtain ⟨h30, hf⟩ := gd_some hf
        refine ev_getRb cls11 (j := 0) (by decide) rfl w507 h16 e29 (nz_ne h30) d11_go_35 ?_
        refine ev_iload_n (j := 3) (i := 3) (q := 0) rfl rfl d11_go_38 ?_
        obtain ⟨h31, hf⟩ := gd_some hf
        obtain ⟨r32, t33, k34, hf⟩ := bd_some hf
        have q35 := s8_has _ _ _ _ _ k34
        refine ev_callV (vs := [.int y26]) (sk := []) cls8 h31 q35 (by decide) (Nat.le_of_ble_eq_true rfl) w576 w577 w578 w2 w579 k8_has rfl (Nat.le_of_ble_eq_true rfl) d11_go_39 ?_
        rcases ite_some hf with ⟨c36, hf⟩ | ⟨c36, hf⟩
        · refine ev_if_eq_P (tgt := 63) c36 (by decide) d11_go_42 ?_
          exact Ev.sub [1, 2, 3] rfl (s11_go_p63 ih _ _ _ _ _ _ hf)
        · refine ev_if_eq_Q (tgt := 63) c36 (by decide) d11_go_42 ?_
          refine ev_aload_n (j := 0) (i := 0) (q := 1) rfl rfl d11_go_45 ?_
          obtain ⟨b37, e38, hf⟩ := lt_some hf
          obtain ⟨h39, hf⟩ := gd_some hf
          refine ev_getRb cls11 (j := 0) (by decide) rfl w507 (mono_ob q35.1 h16) e38 (nz_ne h39) d11_go_46 ?_
          obtain ⟨h40, hf⟩ := gd_some hf
          obtain ⟨b41, e42, hf⟩ := lt_some hf
          obtain ⟨h43, hf⟩ := gd_some hf
          refine ev_getRNb cls8 (j := 3) (by decide) rfl w119 h40 e42 (nz_ne h43) d11_go_49 ?_
          refine ev_iload_n (j := 3) (i := 3) (q := 0) rfl rfl d11_go_52 ?_
          refine ev_aload_n (j := 0) (i := 0) (q := 1) rfl rfl d11_go_53 ?_
          obtain ⟨b44, e45, hf⟩ := lt_some hf
          obtain ⟨h46, hf⟩ := gd_some hf
          refine ev_getRb cls11 (j := 4) (by decide) rfl w511 (mono_ob q35.1 h16) e45 (nz_ne h46) d11_go_54 ?_
          obtain ⟨h47, hf⟩ := gd_some hf
          obtain ⟨b48, e49, hf⟩ := lt_some hf
          obtain ⟨h50, hf⟩ := gd_some hf
          refine ev_getRNb cls6 (j := 2) (by decide) rfl w421 h47 e49 (nz_ne h50) d11_go_57 ?_
          refine ev_iload_n (j := 3) (i := 3) (q := 0) rfl rfl d11_go_60 ?_
          obtain ⟨h51, hf⟩ := gd_some hf
          obtain ⟨h52, hf⟩ := gd_some hf
          refine ev_iald h51 h52 d11_go_61 ?_
          obtain ⟨h53, hf⟩ := gd_some hf
          obtain ⟨h54, hf⟩ := gd_some hf
          obtain ⟨t55, e56, hf⟩ := lt_some hf
          refine ev_iast h53 h54 d11_go_62 (ev_nmS e56 ?_)
          exact Ev.sub [1, 2, 3] rfl (s11_go_p63 ih _ _ _ _ _ _ hf)
      · refine ev_icmp_ge_Q (tgt := 69) c15 (by decide) d11_go_21 ?_
        refine ev_iload_n (j := 1) (i := 1) (q := 1) rfl rfl d11_go_69 ?_
        obtain ⟨rfl, rfl⟩ := ret_some hf
        exact ev_iret rfl d11_go_70
    · refine ev_icmp_ge_Q (tgt := 69) c14 (by decide) d11_go_16 ?_
      refine ev_iload_n (j := 1) (i := 1) (q := 1) rfl rfl d11_go_69 ?_
      obtain ⟨rfl, rfl⟩ := ret_some hf
      exact ev_iret rfl d11_go_70
def f11_go (σ : St) (v0 : Nat) : Option (Int32 × St) :=
  gd (ob σ v0 11) (
  lt (sR σ v0 5) fun b2 => (
  gd (nz b2) (
  bd (f11_heightToday σ v0) fun r5 t6 => (
  gd (ob t6 b2 5) (
  bd (f5_find t6 b2 r5) fun r10 t11 => (
  f11_go_p14 FU t11 v0 r10 (0 : Int32)))))))
set_option maxRecDepth 50000 in
theorem s11_go : ∀ (σ : St) (v0 : Nat) (r : Int32) (τ : St), f11_go σ v0 = some (r, τ) → Call 21 m11_go [.ref v0] σ (some (.int r)) τ := by
  intro σ v0 r τ hf
  unfold f11_go at hf
  refine Call.of (by decide +kernel) rfl (Nat.le_of_ble_eq_true rfl) ?_
  refine ev_aload_n (j := 0) (i := 0) (q := 0) rfl rfl d11_go_0 ?_
  obtain ⟨h1, hf⟩ := gd_some hf
  obtain ⟨b2, e3, hf⟩ := lt_some hf
  obtain ⟨h4, hf⟩ := gd_some hf
  refine ev_getRb cls11 (j := 5) (by decide) rfl w512 h1 e3 (nz_ne h4) d11_go_1 ?_
  refine ev_aload_n (j := 0) (i := 0) (q := 0) rfl rfl d11_go_4 ?_
  obtain ⟨r5, t6, k7, hf⟩ := bd_some hf
  have q8 := s11_heightToday _ _ _ _ k7
  refine ev_callV (vs := []) (sk := [.ref b2]) cls11 h1 q8 (by decide) (Nat.le_of_ble_eq_true rfl) w927 w929 ws32 w1 w930 k11_heightToday rfl (Nat.le_of_ble_eq_true rfl) d11_go_5 ?_
  obtain ⟨h9, hf⟩ := gd_some hf
  obtain ⟨r10, t11, k12, hf⟩ := bd_some hf
  have q13 := s5_find _ _ _ _ _ k12
  refine ev_callV (vs := [.int r5]) (sk := []) cls5 h9 q13 (by decide) (Nat.le_of_ble_eq_true rfl) w1088 w1089 w1090 w18 w1091 k5_find rfl (Nat.le_of_ble_eq_true rfl) d11_go_8 ?_
  refine ev_istore_n (lv2 := [(1, .int r10), (0, .ref v0)]) (j := 1) (i := 1) rfl (by decide) rfl d11_go_11 ?_
  refine ev_iconst ci_0 d11_go_12 ?_
  refine ev_istore_n (lv2 := [(2, .int (0 : Int32)), (1, .int r10), (0, .ref v0)]) (j := 2) (i := 2) rfl (by decide) rfl d11_go_13 ?_
  exact Ev.sub [2, 1, 0] rfl (s11_go_p14 FU _ _ _ _ _ _ hf)
abbrev m11_millOf : MD := ("MillBoats", ⟨"MillBoats", "millOf", "(II)I"⟩, prog_1_method_33_code, 4, (some Jvm.ClassFile.FieldType.int))
theorem k11_millOf : okY m11_millOf.2.1 2 := ⟨by decide +kernel, by decide +kernel, by decide +kernel⟩
def f11_millOf_p21 (σ : St) : Option (Int32 × St) :=
  none
set_option maxRecDepth 20000 in
theorem s11_millOf_p21 : ∀ (σ : St) (r : Int32) (τ : St), f11_millOf_p21 σ  = some (r, τ) → Ev 4 m11_millOf 21 [] [] σ (some (.int r)) τ := by
  intro σ  r τ hf
  unfold f11_millOf_p21 at hf
  cases hf
def f11_millOf (σ : St) (v0 : Nat) (v1 : Int32) (v2 : Int32) : Option (Int32 × St) :=
  gd (ob σ v0 11) (
  lt (sR σ v0 0) fun b2 => (
  gd (nz b2) (
  gd (ob σ b2 8) (
  bd (f8_has σ b2 v1) fun r6 t7 => (
  (if r6 = (0 : Int32) then
  f11_millOf_p21 t7
  else
  (if v2 < (0 : Int32) then
  f11_millOf_p21 t7
  else
  (if v2 ≤ (7 : Int32) then
  lt (sR t7 v0 0) fun b13 => (
  gd (nz b13) (
  gd (ob t7 b13 8) (
  lt (sR t7 b13 2) fun b17 => (
  gd (nz b17) (
  gd (ob t7 b17 17) (
  gd (inb t7 b17 v1) (
  lt (sR t7 b17 (ix v1)) fun b22 => (
  gd (nz b22) (
  (if v2 = (0 : Int32) then
  lt (sR t7 b13 3) fun b26 => (
  gd (nz b26) (
  gd (ob t7 b26 14) (
  gd (inb t7 b26 v1) (
  some (sI t7 b26 (ix v1), t7)))))
  else
  (if v2 = (1 : Int32) then
  gd (ob t7 b22 0) (
  some (sI t7 b22 0, t7))
  else
  (if v2 = (2 : Int32) then
  gd (ob t7 b22 0) (
  some (sI t7 b22 1, t7))
  else
  (if v2 = (3 : Int32) then
  gd (ob t7 b22 0) (
  some (sI t7 b22 2, t7))
  else
  (if v2 = (4 : Int32) then
  gd (ob t7 b22 0) (
  bd (f0_worn t7 b22) fun r39 t40 => (
  some (r39, t40)))
  else
  (if v2 = (5 : Int32) then
  gd (ob t7 b22 0) (
  some (sI t7 b22 4, t7))
  else
  (if v2 = (6 : Int32) then
  gd (ob t7 b22 0) (
  some (sI t7 b22 5, t7))
  else
  gd (ob t7 b22 0) (
  (if (sI t7 b22 6) = (sI t7 v0 8) then
  some ((1 : Int32), t7)
  else
  some ((0 : Int32), t7)))))))))))))))))))
  else
  f11_millOf_p21 t7))))))))
set_option maxRecDepth 50000 in
theorem s11_millOf : ∀ (σ : St) (v0 : Nat) (v1 : Int32) (v2 : Int32) (r : Int32) (τ : St), f11_millOf σ v0 v1 v2 = some (r, τ) → Call 4 m11_millOf [.ref v0, .int v1, .int v2] σ (some (.int r)) τ := by
  intro σ v0 v1 v2 r τ hf
  unfold f11_millOf at hf
  refine Call.of (by decide +kernel) rfl (Nat.le_of_ble_eq_true rfl) ?_
  refine ev_aload_n (j := 0) (i := 0) (q := 0) rfl rfl d11_millOf_0 ?_
  obtain ⟨h1, hf⟩ := gd_some hf
  obtain ⟨b2, e3, hf⟩ := lt_some hf
  obtain ⟨h4, hf⟩ := gd_some hf
  refine ev_getRb cls11 (j := 0) (by decide) rfl w507 h1 e3 (nz_ne h4) d11_millOf_1 ?_
  refine ev_iload_n (j := 1) (i := 1) (q := 1) rfl rfl d11_millOf_4 ?_
  obtain ⟨h5, hf⟩ := gd_some hf
  obtain ⟨r6, t7, k8, hf⟩ := bd_some hf
  have q9 := s8_has _ _ _ _ _ k8
  refine ev_callV (vs := [.int v1]) (sk := []) cls8 h5 q9 (by decide) (Nat.le_of_ble_eq_true rfl) w576 w577 w578 w2 w579 k8_has rfl (Nat.le_of_ble_eq_true rfl) d11_millOf_5 ?_
  rcases ite_some hf with ⟨c10, hf⟩ | ⟨c10, hf⟩
  · refine ev_if_eq_P (tgt := 21) c10 (by decide) d11_millOf_8 ?_
    exact Ev.sub [] rfl (s11_millOf_p21 _ _ _ hf)
  · refine ev_if_eq_Q (tgt := 21) c10 (by decide) d11_millOf_8 ?_
    refine ev_iload_n (j := 2) (i := 2) (q := 2) rfl rfl d11_millOf_11 ?_
    rcases ite_some hf with ⟨c11, hf⟩ | ⟨c11, hf⟩
    · refine ev_if_lt_P (tgt := 21) c11 (by decide) d11_millOf_12 ?_
      exact Ev.sub [] rfl (s11_millOf_p21 _ _ _ hf)
    · refine ev_if_lt_Q (tgt := 21) c11 (by decide) d11_millOf_12 ?_
      refine ev_iload_n (j := 2) (i := 2) (q := 2) rfl rfl d11_millOf_15 ?_
      refine ev_bipush cb_7 d11_millOf_16 ?_
      rcases ite_some hf with ⟨c12, hf⟩ | ⟨c12, hf⟩
      · refine ev_icmp_le_P (tgt := 31) c12 (by decide) d11_millOf_18 ?_
        refine ev_aload_n (j := 0) (i := 0) (q := 0) rfl rfl d11_millOf_31 ?_
        obtain ⟨b13, e14, hf⟩ := lt_some hf
        obtain ⟨h15, hf⟩ := gd_some hf
        refine ev_getRb cls11 (j := 0) (by decide) rfl w507 (mono_ob q9.1 h1) e14 (nz_ne h15) d11_millOf_32 ?_
        obtain ⟨h16, hf⟩ := gd_some hf
        obtain ⟨b17, e18, hf⟩ := lt_some hf
        obtain ⟨h19, hf⟩ := gd_some hf
        refine ev_getRNb cls8 (j := 2) (by decide) rfl w112 h16 e18 (nz_ne h19) d11_millOf_35 ?_
        refine ev_iload_n (j := 1) (i := 1) (q := 1) rfl rfl d11_millOf_38 ?_
        obtain ⟨h20, hf⟩ := gd_some hf
        obtain ⟨h21, hf⟩ := gd_some hf
        obtain ⟨b22, e23, hf⟩ := lt_some hf
        obtain ⟨h24, hf⟩ := gd_some hf
        refine ev_qaldb (kd := 17) (by decide) (by decide) rfl h20 h21 e23 (nz_ne h24) d11_millOf_39 ?_
        refine ev_astore_n (lv2 := [(3, .ref b22), (0, .ref v0), (1, .int v1), (2, .int v2)]) (j := 3) (i := 3) rfl (by decide) rfl d11_millOf_40 ?_
        refine ev_iload_n (j := 2) (i := 2) (q := 3) rfl rfl d11_millOf_41 ?_
        rcases ite_some hf with ⟨c25, hf⟩ | ⟨c25, hf⟩
        · refine ev_table_in (off := 42) (tgt := 84) d11_millOf_42 (by rw [c25]; decide) (by rw [c25]; decide) (by rw [c25]; decide) (by decide) ?_
          refine ev_aload_n (j := 0) (i := 0) (q := 1) rfl rfl d11_millOf_84 ?_
          refine ev_getRb cls11 (j := 0) (by decide) rfl w507 (mono_ob q9.1 h1) e14 (nz_ne h15) d11_millOf_85 ?_
          obtain ⟨b26, e27, hf⟩ := lt_some hf
          obtain ⟨h28, hf⟩ := gd_some hf
          refine ev_getRNb cls8 (j := 3) (by decide) rfl w119 h16 e27 (nz_ne h28) d11_millOf_88 ?_
          refine ev_iload_n (j := 1) (i := 1) (q := 2) rfl rfl d11_millOf_91 ?_
          obtain ⟨h29, hf⟩ := gd_some hf
          obtain ⟨h30, hf⟩ := gd_some hf
          refine ev_iald h29 h30 d11_millOf_92 ?_
          obtain ⟨rfl, rfl⟩ := ret_some hf
          exact ev_iret rfl d11_millOf_93
        rcases ite_some hf with ⟨c31, hf⟩ | ⟨c31, hf⟩
        · refine ev_table_in (off := 52) (tgt := 94) d11_millOf_42 (by rw [c31]; decide) (by rw [c31]; decide) (by rw [c31]; decide) (by decide) ?_
          refine ev_aload_n (j := 3) (i := 3) (q := 0) rfl rfl d11_millOf_94 ?_
          obtain ⟨h32, hf⟩ := gd_some hf
          refine ev_getIN cls0 (j := 0) (by decide) rfl w67 h32 d11_millOf_95 ?_
          obtain ⟨rfl, rfl⟩ := ret_some hf
          exact ev_iret rfl d11_millOf_98
        rcases ite_some hf with ⟨c33, hf⟩ | ⟨c33, hf⟩
        · refine ev_table_in (off := 57) (tgt := 99) d11_millOf_42 (by rw [c33]; decide) (by rw [c33]; decide) (by rw [c33]; decide) (by decide) ?_
          refine ev_aload_n (j := 3) (i := 3) (q := 0) rfl rfl d11_millOf_99 ?_
          obtain ⟨h34, hf⟩ := gd_some hf
          refine ev_getIN cls0 (j := 1) (by decide) rfl w70 h34 d11_millOf_100 ?_
          obtain ⟨rfl, rfl⟩ := ret_some hf
          exact ev_iret rfl d11_millOf_103
        rcases ite_some hf with ⟨c35, hf⟩ | ⟨c35, hf⟩
        · refine ev_table_in (off := 62) (tgt := 104) d11_millOf_42 (by rw [c35]; decide) (by rw [c35]; decide) (by rw [c35]; decide) (by decide) ?_
          refine ev_aload_n (j := 3) (i := 3) (q := 0) rfl rfl d11_millOf_104 ?_
          obtain ⟨h36, hf⟩ := gd_some hf
          refine ev_getIN cls0 (j := 2) (by decide) rfl w74 h36 d11_millOf_105 ?_
          obtain ⟨rfl, rfl⟩ := ret_some hf
          exact ev_iret rfl d11_millOf_108
        rcases ite_some hf with ⟨c37, hf⟩ | ⟨c37, hf⟩
        · refine ev_table_in (off := 67) (tgt := 109) d11_millOf_42 (by rw [c37]; decide) (by rw [c37]; decide) (by rw [c37]; decide) (by decide) ?_
          refine ev_aload_n (j := 3) (i := 3) (q := 0) rfl rfl d11_millOf_109 ?_
          obtain ⟨h38, hf⟩ := gd_some hf
          obtain ⟨r39, t40, k41, hf⟩ := bd_some hf
          have q42 := s0_worn _ _ _ _ k41
          refine ev_callV (vs := []) (sk := []) cls0 h38 q42 (by decide) (Nat.le_of_ble_eq_true rfl) w1240 w632 w633 w4 w634 k0_worn rfl (Nat.le_of_ble_eq_true rfl) d11_millOf_110 ?_
          obtain ⟨rfl, rfl⟩ := ret_some hf
          exact ev_iret rfl d11_millOf_113
        rcases ite_some hf with ⟨c43, hf⟩ | ⟨c43, hf⟩
        · refine ev_table_in (off := 72) (tgt := 114) d11_millOf_42 (by rw [c43]; decide) (by rw [c43]; decide) (by rw [c43]; decide) (by decide) ?_
          refine ev_aload_n (j := 3) (i := 3) (q := 0) rfl rfl d11_millOf_114 ?_
          obtain ⟨h44, hf⟩ := gd_some hf
          refine ev_getIN cls0 (j := 4) (by decide) rfl w78 h44 d11_millOf_115 ?_
          obtain ⟨rfl, rfl⟩ := ret_some hf
          exact ev_iret rfl d11_millOf_118
        rcases ite_some hf with ⟨c45, hf⟩ | ⟨c45, hf⟩
        · refine ev_table_in (off := 77) (tgt := 119) d11_millOf_42 (by rw [c45]; decide) (by rw [c45]; decide) (by rw [c45]; decide) (by decide) ?_
          refine ev_aload_n (j := 3) (i := 3) (q := 0) rfl rfl d11_millOf_119 ?_
          obtain ⟨h46, hf⟩ := gd_some hf
          refine ev_getIN cls0 (j := 5) (by decide) rfl w81 h46 d11_millOf_120 ?_
          obtain ⟨rfl, rfl⟩ := ret_some hf
          exact ev_iret rfl d11_millOf_123
        refine ev_table_out (tgt := 124) d11_millOf_42 (by have nc25 : v2.toInt ≠ 0 := neI c25; have nc31 : v2.toInt ≠ 1 := neI c31; have nc33 : v2.toInt ≠ 2 := neI c33; have nc35 : v2.toInt ≠ 3 := neI c35; have nc37 : v2.toInt ≠ 4 := neI c37; have nc43 : v2.toInt ≠ 5 := neI c43; have nc45 : v2.toInt ≠ 6 := neI c45; omega) (by decide) ?_
        refine ev_aload_n (j := 3) (i := 3) (q := 0) rfl rfl d11_millOf_124 ?_
        obtain ⟨h47, hf⟩ := gd_some hf
        refine ev_getIN cls0 (j := 6) (by decide) rfl w84 h47 d11_millOf_125 ?_
        refine ev_aload_n (j := 0) (i := 0) (q := 1) rfl rfl d11_millOf_128 ?_
        refine ev_getI cls11 (j := 8) (by decide) rfl w515 (mono_ob q9.1 h1) d11_millOf_129 ?_
        rcases ite_some hf with ⟨c48, hf⟩ | ⟨c48, hf⟩
        · refine ev_icmp_ne_P (tgt := 139) c48 (by decide) d11_millOf_132 ?_
          refine ev_iconst ci_1 d11_millOf_135 ?_
          refine ev_goto (tgt := 140) (by decide) d11_millOf_136 ?_
          obtain ⟨rfl, rfl⟩ := ret_some hf
          exact ev_iret rfl d11_millOf_140
        · refine ev_icmp_ne_Q (tgt := 139) c48 (by decide) d11_millOf_132 ?_
          refine ev_iconst ci_0 d11_millOf_139 ?_
          obtain ⟨rfl, rfl⟩ := ret_some hf
          exact ev_iret rfl d11_millOf_140
      · refine ev_icmp_le_Q (tgt := 31) c12 (by decide) d11_millOf_18 ?_
        exact Ev.sub [] rfl (s11_millOf_p21 _ _ _ hf)
abbrev m11_orderOf : MD := ("MillBoats", ⟨"MillBoats", "orderOf", "(II)I"⟩, prog_1_method_34_code, 3, (some Jvm.ClassFile.FieldType.int))
theorem k11_orderOf : okY m11_orderOf.2.1 2 := ⟨by decide +kernel, by decide +kernel, by decide +kernel⟩
def f11_orderOf (σ : St) (v0 : Nat) (v1 : Int32) (v2 : Int32) : Option (Int32 × St) :=
  gd (ob σ v0 11) (
  lt (sR σ v0 3) fun b2 => (
  gd (nz b2) (
  gd (ob σ b2 3) (
  bd (f3_told σ b2 v1 v2) fun r6 t7 => (
  some (r6, t7))))))
set_option maxRecDepth 50000 in
theorem s11_orderOf : ∀ (σ : St) (v0 : Nat) (v1 : Int32) (v2 : Int32) (r : Int32) (τ : St), f11_orderOf σ v0 v1 v2 = some (r, τ) → Call 3 m11_orderOf [.ref v0, .int v1, .int v2] σ (some (.int r)) τ := by
  intro σ v0 v1 v2 r τ hf
  unfold f11_orderOf at hf
  refine Call.of (by decide +kernel) rfl (Nat.le_of_ble_eq_true rfl) ?_
  refine ev_aload_n (j := 0) (i := 0) (q := 0) rfl rfl d11_orderOf_0 ?_
  obtain ⟨h1, hf⟩ := gd_some hf
  obtain ⟨b2, e3, hf⟩ := lt_some hf
  obtain ⟨h4, hf⟩ := gd_some hf
  refine ev_getRb cls11 (j := 3) (by decide) rfl w510 h1 e3 (nz_ne h4) d11_orderOf_1 ?_
  refine ev_iload_n (j := 1) (i := 1) (q := 1) rfl rfl d11_orderOf_4 ?_
  refine ev_iload_n (j := 2) (i := 2) (q := 2) rfl rfl d11_orderOf_5 ?_
  obtain ⟨h5, hf⟩ := gd_some hf
  obtain ⟨r6, t7, k8, hf⟩ := bd_some hf
  have q9 := s3_told _ _ _ _ _ _ k8
  refine ev_callV (vs := [.int v1, .int v2]) (sk := []) cls3 h5 q9 (by decide) (Nat.le_of_ble_eq_true rfl) w1135 w1136 w1137 w16 w1138 k3_told rfl (Nat.le_of_ble_eq_true rfl) d11_orderOf_6 ?_
  obtain ⟨rfl, rfl⟩ := ret_some hf
  exact ev_iret rfl d11_orderOf_9
abbrev m11_count : MD := ("MillBoats", ⟨"MillBoats", "count", "(I)I"⟩, prog_1_method_35_code, 2, (some Jvm.ClassFile.FieldType.int))
theorem k11_count : okY m11_count.2.1 1 := ⟨by decide +kernel, by decide +kernel, by decide +kernel⟩
def f11_count (σ : St) (v0 : Nat) (v1 : Int32) : Option (Int32 × St) :=
  (if v1 = (0 : Int32) then
  gd (ob σ v0 11) (
  lt (sR σ v0 0) fun b3 => (
  gd (nz b3) (
  gd (ob σ b3 8) (
  some (sI σ b3 5, σ)))))
  else
  (if v1 = (1 : Int32) then
  gd (ob σ v0 11) (
  lt (sR σ v0 3) fun b9 => (
  gd (nz b9) (
  gd (ob σ b9 3) (
  some (sI σ b9 9, σ)))))
  else
  (if v1 = (2 : Int32) then
  gd (ob σ v0 11) (
  some (sI σ v0 8, σ))
  else
  (if v1 = (3 : Int32) then
  gd (ob σ v0 11) (
  lt (sR σ v0 2) fun b17 => (
  gd (nz b17) (
  gd (ob σ b17 2) (
  some (sI σ b17 2, σ)))))
  else
  (if v1 = (4 : Int32) then
  gd (ob σ v0 11) (
  some (sI σ v0 7, σ))
  else
  (if v1 = (5 : Int32) then
  gd (ob σ v0 11) (
  lt (sR σ v0 1) fun b25 => (
  gd (nz b25) (
  gd (ob σ b25 4) (
  bd (f4_textsOf σ b25 (0 : Int32)) fun r29 t30 => (
  some (r29, t30))))))
  else
  (if v1 = (6 : Int32) then
  gd (ob σ v0 11) (
  lt (sR σ v0 1) fun b35 => (
  gd (nz b35) (
  gd (ob σ b35 4) (
  bd (f4_textsOf σ b35 (1 : Int32)) fun r39 t40 => (
  some (r39, t40))))))
  else
  (if v1 = (7 : Int32) then
  gd (ob σ v0 11) (
  lt (sR σ v0 3) fun b45 => (
  gd (nz b45) (
  gd (ob σ b45 3) (
  bd (f3_sacksLeft σ b45) fun r49 t50 => (
  some (r49, t50))))))
  else
  (if v1 = (8 : Int32) then
  gd (ob σ v0 11) (
  lt (sR σ v0 0) fun b55 => (
  gd (nz b55) (
  gd (ob σ b55 8) (
  bd (f8_sacksGround σ b55) fun r59 t60 => (
  some (r59, t60))))))
  else
  (if v1 = (9 : Int32) then
  gd (ob σ v0 11) (
  lt (sR σ v0 0) fun b65 => (
  gd (nz b65) (
  gd (ob σ b65 8) (
  bd (f8_tollsTaken σ b65) fun r69 t70 => (
  some (r69, t70))))))
  else
  (if v1 = (10 : Int32) then
  gd (ob σ v0 11) (
  lt (sR σ v0 0) fun b75 => (
  gd (nz b75) (
  gd (ob σ b75 8) (
  bd (f8_lyingAtBerths σ b75) fun r79 t80 => (
  some (r79, t80))))))
  else
  (if v1 = (11 : Int32) then
  gd (ob σ v0 11) (
  lt (sR σ v0 0) fun b85 => (
  gd (nz b85) (
  gd (ob σ b85 8) (
  bd (f8_goneBoats σ b85) fun r89 t90 => (
  some (r89, t90))))))
  else
  some ((-1 : Int32), σ)))))))))))))
set_option maxRecDepth 50000 in
theorem s11_count : ∀ (σ : St) (v0 : Nat) (v1 : Int32) (r : Int32) (τ : St), f11_count σ v0 v1 = some (r, τ) → Call 3 m11_count [.ref v0, .int v1] σ (some (.int r)) τ := by
  intro σ v0 v1 r τ hf
  unfold f11_count at hf
  refine Call.of (by decide +kernel) rfl (Nat.le_of_ble_eq_true rfl) ?_
  refine ev_iload_n (j := 1) (i := 1) (q := 1) rfl rfl d11_count_0 ?_
  rcases ite_some hf with ⟨c1, hf⟩ | ⟨c1, hf⟩
  · refine ev_table_in (off := 63) (tgt := 64) d11_count_1 (by rw [c1]; decide) (by rw [c1]; decide) (by rw [c1]; decide) (by decide) ?_
    refine ev_aload_n (j := 0) (i := 0) (q := 0) rfl rfl d11_count_64 ?_
    obtain ⟨h2, hf⟩ := gd_some hf
    obtain ⟨b3, e4, hf⟩ := lt_some hf
    obtain ⟨h5, hf⟩ := gd_some hf
    refine ev_getRb cls11 (j := 0) (by decide) rfl w507 h2 e4 (nz_ne h5) d11_count_65 ?_
    obtain ⟨h6, hf⟩ := gd_some hf
    refine ev_getIN cls8 (j := 5) (by decide) rfl w125 h6 d11_count_68 ?_
    obtain ⟨rfl, rfl⟩ := ret_some hf
    exact ev_iret rfl d11_count_71
  rcases ite_some hf with ⟨c7, hf⟩ | ⟨c7, hf⟩
  · refine ev_table_in (off := 71) (tgt := 72) d11_count_1 (by rw [c7]; decide) (by rw [c7]; decide) (by rw [c7]; decide) (by decide) ?_
    refine ev_aload_n (j := 0) (i := 0) (q := 0) rfl rfl d11_count_72 ?_
    obtain ⟨h8, hf⟩ := gd_some hf
    obtain ⟨b9, e10, hf⟩ := lt_some hf
    obtain ⟨h11, hf⟩ := gd_some hf
    refine ev_getRb cls11 (j := 3) (by decide) rfl w510 h8 e10 (nz_ne h11) d11_count_73 ?_
    obtain ⟨h12, hf⟩ := gd_some hf
    refine ev_getIN cls3 (j := 9) (by decide) rfl w387 h12 d11_count_76 ?_
    obtain ⟨rfl, rfl⟩ := ret_some hf
    exact ev_iret rfl d11_count_79
  rcases ite_some hf with ⟨c13, hf⟩ | ⟨c13, hf⟩
  · refine ev_table_in (off := 79) (tgt := 80) d11_count_1 (by rw [c13]; decide) (by rw [c13]; decide) (by rw [c13]; decide) (by decide) ?_
    refine ev_aload_n (j := 0) (i := 0) (q := 0) rfl rfl d11_count_80 ?_
    obtain ⟨h14, hf⟩ := gd_some hf
    refine ev_getI cls11 (j := 8) (by decide) rfl w515 h14 d11_count_81 ?_
    obtain ⟨rfl, rfl⟩ := ret_some hf
    exact ev_iret rfl d11_count_84
  rcases ite_some hf with ⟨c15, hf⟩ | ⟨c15, hf⟩
  · refine ev_table_in (off := 84) (tgt := 85) d11_count_1 (by rw [c15]; decide) (by rw [c15]; decide) (by rw [c15]; decide) (by decide) ?_
    refine ev_aload_n (j := 0) (i := 0) (q := 0) rfl rfl d11_count_85 ?_
    obtain ⟨h16, hf⟩ := gd_some hf
    obtain ⟨b17, e18, hf⟩ := lt_some hf
    obtain ⟨h19, hf⟩ := gd_some hf
    refine ev_getRb cls11 (j := 2) (by decide) rfl w509 h16 e18 (nz_ne h19) d11_count_86 ?_
    obtain ⟨h20, hf⟩ := gd_some hf
    refine ev_getIN cls2 (j := 2) (by decide) rfl w353 h20 d11_count_89 ?_
    obtain ⟨rfl, rfl⟩ := ret_some hf
    exact ev_iret rfl d11_count_92
  rcases ite_some hf with ⟨c21, hf⟩ | ⟨c21, hf⟩
  · refine ev_table_in (off := 92) (tgt := 93) d11_count_1 (by rw [c21]; decide) (by rw [c21]; decide) (by rw [c21]; decide) (by decide) ?_
    refine ev_aload_n (j := 0) (i := 0) (q := 0) rfl rfl d11_count_93 ?_
    obtain ⟨h22, hf⟩ := gd_some hf
    refine ev_getI cls11 (j := 7) (by decide) rfl w514 h22 d11_count_94 ?_
    obtain ⟨rfl, rfl⟩ := ret_some hf
    exact ev_iret rfl d11_count_97
  rcases ite_some hf with ⟨c23, hf⟩ | ⟨c23, hf⟩
  · refine ev_table_in (off := 97) (tgt := 98) d11_count_1 (by rw [c23]; decide) (by rw [c23]; decide) (by rw [c23]; decide) (by decide) ?_
    refine ev_aload_n (j := 0) (i := 0) (q := 0) rfl rfl d11_count_98 ?_
    obtain ⟨h24, hf⟩ := gd_some hf
    obtain ⟨b25, e26, hf⟩ := lt_some hf
    obtain ⟨h27, hf⟩ := gd_some hf
    refine ev_getRb cls11 (j := 1) (by decide) rfl w508 h24 e26 (nz_ne h27) d11_count_99 ?_
    refine ev_iconst ci_0 d11_count_102 ?_
    obtain ⟨h28, hf⟩ := gd_some hf
    obtain ⟨r29, t30, k31, hf⟩ := bd_some hf
    have q32 := s4_textsOf _ _ _ _ _ k31
    refine ev_callV (vs := [.int (0 : Int32)]) (sk := []) cls4 h28 q32 (by decide) (Nat.le_of_ble_eq_true rfl) w1143 w1144 w1145 w6 w1146 k4_textsOf rfl (Nat.le_of_ble_eq_true rfl) d11_count_103 ?_
    obtain ⟨rfl, rfl⟩ := ret_some hf
    exact ev_iret rfl d11_count_106
  rcases ite_some hf with ⟨c33, hf⟩ | ⟨c33, hf⟩
  · refine ev_table_in (off := 106) (tgt := 107) d11_count_1 (by rw [c33]; decide) (by rw [c33]; decide) (by rw [c33]; decide) (by decide) ?_
    refine ev_aload_n (j := 0) (i := 0) (q := 0) rfl rfl d11_count_107 ?_
    obtain ⟨h34, hf⟩ := gd_some hf
    obtain ⟨b35, e36, hf⟩ := lt_some hf
    obtain ⟨h37, hf⟩ := gd_some hf
    refine ev_getRb cls11 (j := 1) (by decide) rfl w508 h34 e36 (nz_ne h37) d11_count_108 ?_
    refine ev_iconst ci_1 d11_count_111 ?_
    obtain ⟨h38, hf⟩ := gd_some hf
    obtain ⟨r39, t40, k41, hf⟩ := bd_some hf
    have q42 := s4_textsOf _ _ _ _ _ k41
    refine ev_callV (vs := [.int (1 : Int32)]) (sk := []) cls4 h38 q42 (by decide) (Nat.le_of_ble_eq_true rfl) w1143 w1144 w1145 w6 w1146 k4_textsOf rfl (Nat.le_of_ble_eq_true rfl) d11_count_112 ?_
    obtain ⟨rfl, rfl⟩ := ret_some hf
    exact ev_iret rfl d11_count_115
  rcases ite_some hf with ⟨c43, hf⟩ | ⟨c43, hf⟩
  · refine ev_table_in (off := 115) (tgt := 116) d11_count_1 (by rw [c43]; decide) (by rw [c43]; decide) (by rw [c43]; decide) (by decide) ?_
    refine ev_aload_n (j := 0) (i := 0) (q := 0) rfl rfl d11_count_116 ?_
    obtain ⟨h44, hf⟩ := gd_some hf
    obtain ⟨b45, e46, hf⟩ := lt_some hf
    obtain ⟨h47, hf⟩ := gd_some hf
    refine ev_getRb cls11 (j := 3) (by decide) rfl w510 h44 e46 (nz_ne h47) d11_count_117 ?_
    obtain ⟨h48, hf⟩ := gd_some hf
    obtain ⟨r49, t50, k51, hf⟩ := bd_some hf
    have q52 := s3_sacksLeft _ _ _ _ k51
    refine ev_callV (vs := []) (sk := []) cls3 h48 q52 (by decide) (Nat.le_of_ble_eq_true rfl) w1147 w1148 w1149 w16 w1150 k3_sacksLeft rfl (Nat.le_of_ble_eq_true rfl) d11_count_120 ?_
    obtain ⟨rfl, rfl⟩ := ret_some hf
    exact ev_iret rfl d11_count_123
  rcases ite_some hf with ⟨c53, hf⟩ | ⟨c53, hf⟩
  · refine ev_table_in (off := 123) (tgt := 124) d11_count_1 (by rw [c53]; decide) (by rw [c53]; decide) (by rw [c53]; decide) (by decide) ?_
    refine ev_aload_n (j := 0) (i := 0) (q := 0) rfl rfl d11_count_124 ?_
    obtain ⟨h54, hf⟩ := gd_some hf
    obtain ⟨b55, e56, hf⟩ := lt_some hf
    obtain ⟨h57, hf⟩ := gd_some hf
    refine ev_getRb cls11 (j := 0) (by decide) rfl w507 h54 e56 (nz_ne h57) d11_count_125 ?_
    obtain ⟨h58, hf⟩ := gd_some hf
    obtain ⟨r59, t60, k61, hf⟩ := bd_some hf
    have q62 := s8_sacksGround _ _ _ _ k61
    refine ev_callV (vs := []) (sk := []) cls8 h58 q62 (by decide) (Nat.le_of_ble_eq_true rfl) w1151 w1152 w1153 w2 w1154 k8_sacksGround rfl (Nat.le_of_ble_eq_true rfl) d11_count_128 ?_
    obtain ⟨rfl, rfl⟩ := ret_some hf
    exact ev_iret rfl d11_count_131
  rcases ite_some hf with ⟨c63, hf⟩ | ⟨c63, hf⟩
  · refine ev_table_in (off := 131) (tgt := 132) d11_count_1 (by rw [c63]; decide) (by rw [c63]; decide) (by rw [c63]; decide) (by decide) ?_
    refine ev_aload_n (j := 0) (i := 0) (q := 0) rfl rfl d11_count_132 ?_
    obtain ⟨h64, hf⟩ := gd_some hf
    obtain ⟨b65, e66, hf⟩ := lt_some hf
    obtain ⟨h67, hf⟩ := gd_some hf
    refine ev_getRb cls11 (j := 0) (by decide) rfl w507 h64 e66 (nz_ne h67) d11_count_133 ?_
    obtain ⟨h68, hf⟩ := gd_some hf
    obtain ⟨r69, t70, k71, hf⟩ := bd_some hf
    have q72 := s8_tollsTaken _ _ _ _ k71
    refine ev_callV (vs := []) (sk := []) cls8 h68 q72 (by decide) (Nat.le_of_ble_eq_true rfl) w1155 w1156 w1157 w2 w1158 k8_tollsTaken rfl (Nat.le_of_ble_eq_true rfl) d11_count_136 ?_
    obtain ⟨rfl, rfl⟩ := ret_some hf
    exact ev_iret rfl d11_count_139
  rcases ite_some hf with ⟨c73, hf⟩ | ⟨c73, hf⟩
  · refine ev_table_in (off := 139) (tgt := 140) d11_count_1 (by rw [c73]; decide) (by rw [c73]; decide) (by rw [c73]; decide) (by decide) ?_
    refine ev_aload_n (j := 0) (i := 0) (q := 0) rfl rfl d11_count_140 ?_
    obtain ⟨h74, hf⟩ := gd_some hf
    obtain ⟨b75, e76, hf⟩ := lt_some hf
    obtain ⟨h77, hf⟩ := gd_some hf
    refine ev_getRb cls11 (j := 0) (by decide) rfl w507 h74 e76 (nz_ne h77) d11_count_141 ?_
    obtain ⟨h78, hf⟩ := gd_some hf
    obtain ⟨r79, t80, k81, hf⟩ := bd_some hf
    have q82 := s8_lyingAtBerths _ _ _ _ k81
    refine ev_callV (vs := []) (sk := []) cls8 h78 q82 (by decide) (Nat.le_of_ble_eq_true rfl) w1159 w1160 w1161 w2 w1162 k8_lyingAtBerths rfl (Nat.le_of_ble_eq_true rfl) d11_count_144 ?_
    obtain ⟨rfl, rfl⟩ := ret_some hf
    exact ev_iret rfl d11_count_147
  rcases ite_some hf with ⟨c83, hf⟩ | ⟨c83, hf⟩
  · refine ev_table_in (off := 147) (tgt := 148) d11_count_1 (by rw [c83]; decide) (by rw [c83]; decide) (by rw [c83]; decide) (by decide) ?_
    refine ev_aload_n (j := 0) (i := 0) (q := 0) rfl rfl d11_count_148 ?_
    obtain ⟨h84, hf⟩ := gd_some hf
    obtain ⟨b85, e86, hf⟩ := lt_some hf
    obtain ⟨h87, hf⟩ := gd_some hf
    refine ev_getRb cls11 (j := 0) (by decide) rfl w507 h84 e86 (nz_ne h87) d11_count_149 ?_
    obtain ⟨h88, hf⟩ := gd_some hf
    obtain ⟨r89, t90, k91, hf⟩ := bd_some hf
    have q92 := s8_goneBoats _ _ _ _ k91
    refine ev_callV (vs := []) (sk := []) cls8 h88 q92 (by decide) (Nat.le_of_ble_eq_true rfl) w1163 w1164 w1165 w2 w1166 k8_goneBoats rfl (Nat.le_of_ble_eq_true rfl) d11_count_152 ?_
    obtain ⟨rfl, rfl⟩ := ret_some hf
    exact ev_iret rfl d11_count_155
  refine ev_table_out (tgt := 156) d11_count_1 (by have nc1 : v1.toInt ≠ 0 := neI c1; have nc7 : v1.toInt ≠ 1 := neI c7; have nc13 : v1.toInt ≠ 2 := neI c13; have nc15 : v1.toInt ≠ 3 := neI c15; have nc21 : v1.toInt ≠ 4 := neI c21; have nc23 : v1.toInt ≠ 5 := neI c23; have nc33 : v1.toInt ≠ 6 := neI c33; have nc43 : v1.toInt ≠ 7 := neI c43; have nc53 : v1.toInt ≠ 8 := neI c53; have nc63 : v1.toInt ≠ 9 := neI c63; have nc73 : v1.toInt ≠ 10 := neI c73; have nc83 : v1.toInt ≠ 11 := neI c83; omega) (by decide) ?_
  refine ev_iconst ci_m1 d11_count_156 ?_
  obtain ⟨rfl, rfl⟩ := ret_some hf
  exact ev_iret rfl d11_count_157
