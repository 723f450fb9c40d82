theorem d7_factor_0 : decode prog_9_method_27_code 0 = .ok (.aload_n 0, 1) := by decide +kernel
theorem d7_factor_1 : decode prog_9_method_27_code 1 = .ok (.getfield 90, 3) := by decide +kernel
theorem d7_factor_4 : decode prog_9_method_27_code 4 = .ok (.bipush 40, 2) := by decide +kernel
theorem d7_factor_6 : decode prog_9_method_27_code 6 = .ok (.if_icmp .ne 8, 3) := by decide +kernel
theorem d7_factor_9 : decode prog_9_method_27_code 9 = .ok (.aload_n 0, 1) := by decide +kernel
theorem d7_factor_10 : decode prog_9_method_27_code 10 = .ok (.invokevirtual 185, 3) := by decide +kernel
theorem d7_factor_13 : decode prog_9_method_27_code 13 = .ok (.ireturn, 1) := by decide +kernel
theorem d7_factor_14 : decode prog_9_method_27_code 14 = .ok (.aload_n 0, 1) := by decide +kernel
theorem d7_factor_15 : decode prog_9_method_27_code 15 = .ok (.getfield 90, 3) := by decide +kernel
theorem d7_factor_18 : decode prog_9_method_27_code 18 = .ok (.bipush (-3), 2) := by decide +kernel
theorem d7_factor_20 : decode prog_9_method_27_code 20 = .ok (.if_icmp .ne 21, 3) := by decide +kernel
theorem d7_factor_23 : decode prog_9_method_27_code 23 = .ok (.aload_n 0, 1) := by decide +kernel
theorem d7_factor_24 : decode prog_9_method_27_code 24 = .ok (.getfield 33, 3) := by decide +kernel
theorem d7_factor_27 : decode prog_9_method_27_code 27 = .ok (.aload_n 0, 1) := by decide +kernel
theorem d7_factor_28 : decode prog_9_method_27_code 28 = .ok (.invokevirtual 152, 3) := by decide +kernel
theorem d7_factor_31 : decode prog_9_method_27_code 31 = .ok (.l2i, 1) := by decide +kernel
theorem d7_factor_32 : decode prog_9_method_27_code 32 = .ok (.invokevirtual 166, 3) := by decide +kernel
theorem d7_factor_35 : decode prog_9_method_27_code 35 = .ok (.aload_n 0, 1) := by decide +kernel
theorem d7_factor_36 : decode prog_9_method_27_code 36 = .ok (.invokevirtual 123, 3) := by decide +kernel
theorem d7_factor_39 : decode prog_9_method_27_code 39 = .ok (.iconst 1, 1) := by decide +kernel
theorem d7_factor_40 : decode prog_9_method_27_code 40 = .ok (.ireturn, 1) := by decide +kernel
theorem d7_factor_41 : decode prog_9_method_27_code 41 = .ok (.aload_n 0, 1) := by decide +kernel
theorem d7_factor_42 : decode prog_9_method_27_code 42 = .ok (.getfield 90, 3) := by decide +kernel
theorem d7_factor_45 : decode prog_9_method_27_code 45 = .ok (.bipush (-4), 2) := by decide +kernel
theorem d7_factor_47 : decode prog_9_method_27_code 47 = .ok (.if_icmp .eq 9, 3) := by decide +kernel
theorem d7_factor_50 : decode prog_9_method_27_code 50 = .ok (.aload_n 0, 1) := by decide +kernel
theorem d7_factor_51 : decode prog_9_method_27_code 51 = .ok (.iconst 1, 1) := by decide +kernel
theorem d7_factor_52 : decode prog_9_method_27_code 52 = .ok (.invokevirtual 120, 3) := by decide +kernel
theorem d7_factor_55 : decode prog_9_method_27_code 55 = .ok (.ireturn, 1) := by decide +kernel
theorem d7_factor_56 : decode prog_9_method_27_code 56 = .ok (.aload_n 0, 1) := by decide +kernel
theorem d7_factor_57 : decode prog_9_method_27_code 57 = .ok (.aload_n 0, 1) := by decide +kernel
theorem d7_factor_58 : decode prog_9_method_27_code 58 = .ok (.invokevirtual 152, 3) := by decide +kernel
theorem d7_factor_61 : decode prog_9_method_27_code 61 = .ok (.invokevirtual 156, 3) := by decide +kernel
theorem d7_factor_64 : decode prog_9_method_27_code 64 = .ok (.istore_n 1, 1) := by decide +kernel
theorem d7_factor_65 : decode prog_9_method_27_code 65 = .ok (.iload_n 1, 1) := by decide +kernel
theorem d7_factor_66 : decode prog_9_method_27_code 66 = .ok (.iconst (-1), 1) := by decide +kernel
theorem d7_factor_67 : decode prog_9_method_27_code 67 = .ok (.if_icmp .ne 9, 3) := by decide +kernel
theorem d7_factor_70 : decode prog_9_method_27_code 70 = .ok (.aload_n 0, 1) := by decide +kernel
theorem d7_factor_71 : decode prog_9_method_27_code 71 = .ok (.iconst 3, 1) := by decide +kernel
theorem d7_factor_72 : decode prog_9_method_27_code 72 = .ok (.invokevirtual 120, 3) := by decide +kernel
theorem d7_factor_75 : decode prog_9_method_27_code 75 = .ok (.ireturn, 1) := by decide +kernel
theorem d7_factor_76 : decode prog_9_method_27_code 76 = .ok (.aload_n 0, 1) := by decide +kernel
theorem d7_factor_77 : decode prog_9_method_27_code 77 = .ok (.getfield 33, 3) := by decide +kernel
theorem d7_factor_80 : decode prog_9_method_27_code 80 = .ok (.sipush 10000, 3) := by decide +kernel
theorem d7_factor_83 : decode prog_9_method_27_code 83 = .ok (.iload_n 1, 1) := by decide +kernel
theorem d7_factor_84 : decode prog_9_method_27_code 84 = .ok (.iadd, 1) := by decide +kernel
theorem d7_factor_85 : decode prog_9_method_27_code 85 = .ok (.invokevirtual 166, 3) := by decide +kernel
theorem d7_factor_88 : decode prog_9_method_27_code 88 = .ok (.aload_n 0, 1) := by decide +kernel
theorem d7_factor_89 : decode prog_9_method_27_code 89 = .ok (.invokevirtual 123, 3) := by decide +kernel
theorem d7_factor_92 : decode prog_9_method_27_code 92 = .ok (.iconst 1, 1) := by decide +kernel
theorem d7_factor_93 : decode prog_9_method_27_code 93 = .ok (.ireturn, 1) := by decide +kernel
theorem d7_product_0 : decode prog_9_method_26_code 0 = .ok (.aload_n 0, 1) := by decide +kernel
theorem d7_product_1 : decode prog_9_method_26_code 1 = .ok (.invokevirtual 182, 3) := by decide +kernel
theorem d7_product_4 : decode prog_9_method_26_code 4 = .ok (.ifCond .ne 5, 3) := by decide +kernel
theorem d7_product_7 : decode prog_9_method_26_code 7 = .ok (.iconst 0, 1) := by decide +kernel
theorem d7_product_8 : decode prog_9_method_26_code 8 = .ok (.ireturn, 1) := by decide +kernel
theorem d7_product_9 : decode prog_9_method_26_code 9 = .ok (.iconst 0, 1) := by decide +kernel
theorem d7_product_10 : decode prog_9_method_26_code 10 = .ok (.istore_n 1, 1) := by decide +kernel
theorem d7_product_11 : decode prog_9_method_26_code 11 = .ok (.iload_n 1, 1) := by decide +kernel
theorem d7_product_12 : decode prog_9_method_26_code 12 = .ok (.sipush 400, 3) := by decide +kernel
theorem d7_product_15 : decode prog_9_method_26_code 15 = .ok (.if_icmp .ge 40, 3) := by decide +kernel
theorem d7_product_18 : decode prog_9_method_26_code 18 = .ok (.aload_n 0, 1) := by decide +kernel
theorem d7_product_19 : decode prog_9_method_26_code 19 = .ok (.getfield 90, 3) := by decide +kernel
theorem d7_product_22 : decode prog_9_method_26_code 22 = .ok (.bipush 42, 2) := by decide +kernel
theorem d7_product_24 : decode prog_9_method_26_code 24 = .ok (.if_icmp .ne 31, 3) := by decide +kernel
theorem d7_product_27 : decode prog_9_method_26_code 27 = .ok (.aload_n 0, 1) := by decide +kernel
theorem d7_product_28 : decode prog_9_method_26_code 28 = .ok (.invokevirtual 123, 3) := by decide +kernel
theorem d7_product_31 : decode prog_9_method_26_code 31 = .ok (.aload_n 0, 1) := by decide +kernel
theorem d7_product_32 : decode prog_9_method_26_code 32 = .ok (.invokevirtual 182, 3) := by decide +kernel
theorem d7_product_35 : decode prog_9_method_26_code 35 = .ok (.ifCond .ne 5, 3) := by decide +kernel
theorem d7_product_38 : decode prog_9_method_26_code 38 = .ok (.iconst 0, 1) := by decide +kernel
theorem d7_product_39 : decode prog_9_method_26_code 39 = .ok (.ireturn, 1) := by decide +kernel
theorem d7_product_40 : decode prog_9_method_26_code 40 = .ok (.aload_n 0, 1) := by decide +kernel
theorem d7_product_41 : decode prog_9_method_26_code 41 = .ok (.getfield 33, 3) := by decide +kernel
theorem d7_product_44 : decode prog_9_method_26_code 44 = .ok (.bipush (-3), 2) := by decide +kernel
theorem d7_product_46 : decode prog_9_method_26_code 46 = .ok (.invokevirtual 166, 3) := by decide +kernel
theorem d7_product_49 : decode prog_9_method_26_code 49 = .ok (.iinc 1 1, 3) := by decide +kernel
theorem d7_product_52 : decode prog_9_method_26_code 52 = .ok (.goto (-41), 3) := by decide +kernel
theorem d7_product_55 : decode prog_9_method_26_code 55 = .ok (.iconst 1, 1) := by decide +kernel
theorem d7_product_56 : decode prog_9_method_26_code 56 = .ok (.ireturn, 1) := by decide +kernel
theorem d7_sum_0 : decode prog_9_method_25_code 0 = .ok (.aload_n 0, 1) := by decide +kernel
theorem d7_sum_1 : decode prog_9_method_25_code 1 = .ok (.invokevirtual 179, 3) := by decide +kernel
theorem d7_sum_4 : decode prog_9_method_25_code 4 = .ok (.ifCond .ne 5, 3) := by decide +kernel
theorem d7_sum_7 : decode prog_9_method_25_code 7 = .ok (.iconst 0, 1) := by decide +kernel
theorem d7_sum_8 : decode prog_9_method_25_code 8 = .ok (.ireturn, 1) := by decide +kernel
theorem d7_sum_9 : decode prog_9_method_25_code 9 = .ok (.iconst 0, 1) := by decide +kernel
theorem d7_sum_10 : decode prog_9_method_25_code 10 = .ok (.istore_n 1, 1) := by decide +kernel
theorem d7_sum_11 : decode prog_9_method_25_code 11 = .ok (.iload_n 1, 1) := by decide +kernel
theorem d7_sum_12 : decode prog_9_method_25_code 12 = .ok (.sipush 400, 3) := by decide +kernel
theorem d7_sum_15 : decode prog_9_method_25_code 15 = .ok (.if_icmp .ge 64, 3) := by decide +kernel
theorem d7_sum_18 : decode prog_9_method_25_code 18 = .ok (.aload_n 0, 1) := by decide +kernel
theorem d7_sum_19 : decode prog_9_method_25_code 19 = .ok (.getfield 90, 3) := by decide +kernel
theorem d7_sum_22 : decode prog_9_method_25_code 22 = .ok (.bipush 43, 2) := by decide +kernel
theorem d7_sum_24 : decode prog_9_method_25_code 24 = .ok (.if_icmp .eq 12, 3) := by decide +kernel
theorem d7_sum_27 : decode prog_9_method_25_code 27 = .ok (.aload_n 0, 1) := by decide +kernel
theorem d7_sum_28 : decode prog_9_method_25_code 28 = .ok (.getfield 90, 3) := by decide +kernel
theorem d7_sum_31 : decode prog_9_method_25_code 31 = .ok (.bipush 45, 2) := by decide +kernel
theorem d7_sum_33 : decode prog_9_method_25_code 33 = .ok (.if_icmp .ne 46, 3) := by decide +kernel
theorem d7_sum_36 : decode prog_9_method_25_code 36 = .ok (.aload_n 0, 1) := by decide +kernel
theorem d7_sum_37 : decode prog_9_method_25_code 37 = .ok (.getfield 90, 3) := by decide +kernel
theorem d7_sum_40 : decode prog_9_method_25_code 40 = .ok (.bipush 43, 2) := by decide +kernel
theorem d7_sum_42 : decode prog_9_method_25_code 42 = .ok (.if_icmp .ne 7, 3) := by decide +kernel
theorem d7_sum_45 : decode prog_9_method_25_code 45 = .ok (.iconst (-1), 1) := by decide +kernel
theorem d7_sum_46 : decode prog_9_method_25_code 46 = .ok (.goto 5, 3) := by decide +kernel
theorem d7_sum_49 : decode prog_9_method_25_code 49 = .ok (.bipush (-2), 2) := by decide +kernel
theorem d7_sum_51 : decode prog_9_method_25_code 51 = .ok (.istore_n 2, 1) := by decide +kernel
theorem d7_sum_52 : decode prog_9_method_25_code 52 = .ok (.aload_n 0, 1) := by decide +kernel
theorem d7_sum_53 : decode prog_9_method_25_code 53 = .ok (.invokevirtual 123, 3) := by decide +kernel
theorem d7_sum_56 : decode prog_9_method_25_code 56 = .ok (.aload_n 0, 1) := by decide +kernel
theorem d7_sum_57 : decode prog_9_method_25_code 57 = .ok (.invokevirtual 179, 3) := by decide +kernel
theorem d7_sum_60 : decode prog_9_method_25_code 60 = .ok (.ifCond .ne 5, 3) := by decide +kernel
theorem d7_sum_63 : decode prog_9_method_25_code 63 = .ok (.iconst 0, 1) := by decide +kernel
theorem d7_sum_64 : decode prog_9_method_25_code 64 = .ok (.ireturn, 1) := by decide +kernel
theorem d7_sum_65 : decode prog_9_method_25_code 65 = .ok (.aload_n 0, 1) := by decide +kernel
theorem d7_sum_66 : decode prog_9_method_25_code 66 = .ok (.getfield 33, 3) := by decide +kernel
theorem d7_sum_69 : decode prog_9_method_25_code 69 = .ok (.iload_n 2, 1) := by decide +kernel
theorem d7_sum_70 : decode prog_9_method_25_code 70 = .ok (.invokevirtual 166, 3) := by decide +kernel
theorem d7_sum_73 : decode prog_9_method_25_code 73 = .ok (.iinc 1 1, 3) := by decide +kernel
theorem d7_sum_76 : decode prog_9_method_25_code 76 = .ok (.goto (-65), 3) := by decide +kernel
theorem d7_sum_79 : decode prog_9_method_25_code 79 = .ok (.iconst 1, 1) := by decide +kernel
theorem d7_sum_80 : decode prog_9_method_25_code 80 = .ok (.ireturn, 1) := by decide +kernel
theorem d7_comparison_0 : decode prog_9_method_24_code 0 = .ok (.aload_n 0, 1) := by decide +kernel
theorem d7_comparison_1 : decode prog_9_method_24_code 1 = .ok (.invokevirtual 160, 3) := by decide +kernel
theorem d7_comparison_4 : decode prog_9_method_24_code 4 = .ok (.ifCond .ne 5, 3) := by decide +kernel
theorem d7_comparison_7 : decode prog_9_method_24_code 7 = .ok (.iconst 0, 1) := by decide +kernel
theorem d7_comparison_8 : decode prog_9_method_24_code 8 = .ok (.ireturn, 1) := by decide +kernel
theorem d7_comparison_9 : decode prog_9_method_24_code 9 = .ok (.aload_n 0, 1) := by decide +kernel
theorem d7_comparison_10 : decode prog_9_method_24_code 10 = .ok (.getfield 90, 3) := by decide +kernel
theorem d7_comparison_13 : decode prog_9_method_24_code 13 = .ok (.istore_n 1, 1) := by decide +kernel
theorem d7_comparison_14 : decode prog_9_method_24_code 14 = .ok (.iload_n 1, 1) := by decide +kernel
theorem d7_comparison_15 : decode prog_9_method_24_code 15 = .ok (.bipush 60, 2) := by decide +kernel
theorem d7_comparison_17 : decode prog_9_method_24_code 17 = .ok (.if_icmp .eq 21, 3) := by decide +kernel
theorem d7_comparison_20 : decode prog_9_method_24_code 20 = .ok (.iload_n 1, 1) := by decide +kernel
theorem d7_comparison_21 : decode prog_9_method_24_code 21 = .ok (.bipush 62, 2) := by decide +kernel
theorem d7_comparison_23 : decode prog_9_method_24_code 23 = .ok (.if_icmp .eq 15, 3) := by decide +kernel
theorem d7_comparison_26 : decode prog_9_method_24_code 26 = .ok (.iload_n 1, 1) := by decide +kernel
theorem d7_comparison_27 : decode prog_9_method_24_code 27 = .ok (.bipush 61, 2) := by decide +kernel
theorem d7_comparison_29 : decode prog_9_method_24_code 29 = .ok (.if_icmp .eq 9, 3) := by decide +kernel
theorem d7_comparison_32 : decode prog_9_method_24_code 32 = .ok (.aload_n 0, 1) := by decide +kernel
theorem d7_comparison_33 : decode prog_9_method_24_code 33 = .ok (.iconst 1, 1) := by decide +kernel
theorem d7_comparison_34 : decode prog_9_method_24_code 34 = .ok (.invokevirtual 120, 3) := by decide +kernel
theorem d7_comparison_37 : decode prog_9_method_24_code 37 = .ok (.ireturn, 1) := by decide +kernel
theorem d7_comparison_38 : decode prog_9_method_24_code 38 = .ok (.aload_n 0, 1) := by decide +kernel
theorem d7_comparison_39 : decode prog_9_method_24_code 39 = .ok (.invokevirtual 123, 3) := by decide +kernel
theorem d7_comparison_42 : decode prog_9_method_24_code 42 = .ok (.aload_n 0, 1) := by decide +kernel
theorem d7_comparison_43 : decode prog_9_method_24_code 43 = .ok (.invokevirtual 160, 3) := by decide +kernel
theorem d7_comparison_46 : decode prog_9_method_24_code 46 = .ok (.ifCond .ne 5, 3) := by decide +kernel
theorem d7_comparison_49 : decode prog_9_method_24_code 49 = .ok (.iconst 0, 1) := by decide +kernel
theorem d7_comparison_50 : decode prog_9_method_24_code 50 = .ok (.ireturn, 1) := by decide +kernel
theorem d7_comparison_51 : decode prog_9_method_24_code 51 = .ok (.aload_n 0, 1) := by decide +kernel
theorem d7_comparison_52 : decode prog_9_method_24_code 52 = .ok (.getfield 33, 3) := by decide +kernel
theorem d7_comparison_55 : decode prog_9_method_24_code 55 = .ok (.iload_n 1, 1) := by decide +kernel
theorem d7_comparison_56 : decode prog_9_method_24_code 56 = .ok (.bipush 60, 2) := by decide +kernel
theorem d7_comparison_58 : decode prog_9_method_24_code 58 = .ok (.if_icmp .ne 8, 3) := by decide +kernel
theorem d7_comparison_61 : decode prog_9_method_24_code 61 = .ok (.bipush (-4), 2) := by decide +kernel
theorem d7_comparison_63 : decode prog_9_method_24_code 63 = .ok (.goto 16, 3) := by decide +kernel
theorem d7_comparison_66 : decode prog_9_method_24_code 66 = .ok (.iload_n 1, 1) := by decide +kernel
theorem d7_comparison_67 : decode prog_9_method_24_code 67 = .ok (.bipush 62, 2) := by decide +kernel
theorem d7_comparison_69 : decode prog_9_method_24_code 69 = .ok (.if_icmp .ne 8, 3) := by decide +kernel
theorem d7_comparison_72 : decode prog_9_method_24_code 72 = .ok (.bipush (-5), 2) := by decide +kernel
theorem d7_comparison_74 : decode prog_9_method_24_code 74 = .ok (.goto 5, 3) := by decide +kernel
theorem d7_comparison_77 : decode prog_9_method_24_code 77 = .ok (.bipush (-6), 2) := by decide +kernel
theorem d7_comparison_79 : decode prog_9_method_24_code 79 = .ok (.invokevirtual 166, 3) := by decide +kernel
theorem d7_comparison_82 : decode prog_9_method_24_code 82 = .ok (.iconst 1, 1) := by decide +kernel
theorem d7_comparison_83 : decode prog_9_method_24_code 83 = .ok (.ireturn, 1) := by decide +kernel
theorem d7_bracketedCond_0 : decode prog_9_method_23_code 0 = .ok (.aload_n 0, 1) := by decide +kernel
theorem d7_bracketedCond_1 : decode prog_9_method_23_code 1 = .ok (.getfield 81, 3) := by decide +kernel
theorem d7_bracketedCond_4 : decode prog_9_method_23_code 4 = .ok (.iconst 4, 1) := by decide +kernel
theorem d7_bracketedCond_5 : decode prog_9_method_23_code 5 = .ok (.if_icmp .lt 9, 3) := by decide +kernel
theorem d7_bracketedCond_8 : decode prog_9_method_23_code 8 = .ok (.aload_n 0, 1) := by decide +kernel
theorem d7_bracketedCond_9 : decode prog_9_method_23_code 9 = .ok (.iconst 4, 1) := by decide +kernel
theorem d7_bracketedCond_10 : decode prog_9_method_23_code 10 = .ok (.invokevirtual 120, 3) := by decide +kernel
theorem d7_bracketedCond_13 : decode prog_9_method_23_code 13 = .ok (.ireturn, 1) := by decide +kernel
theorem d7_bracketedCond_14 : decode prog_9_method_23_code 14 = .ok (.aload_n 0, 1) := by decide +kernel
theorem d7_bracketedCond_15 : decode prog_9_method_23_code 15 = .ok (.dup, 1) := by decide +kernel
theorem d7_bracketedCond_16 : decode prog_9_method_23_code 16 = .ok (.getfield 81, 3) := by decide +kernel
theorem d7_bracketedCond_19 : decode prog_9_method_23_code 19 = .ok (.iconst 1, 1) := by decide +kernel
theorem d7_bracketedCond_20 : decode prog_9_method_23_code 20 = .ok (.iadd, 1) := by decide +kernel
theorem d7_bracketedCond_21 : decode prog_9_method_23_code 21 = .ok (.putfield 81, 3) := by decide +kernel
theorem d7_bracketedCond_24 : decode prog_9_method_23_code 24 = .ok (.aload_n 0, 1) := by decide +kernel
theorem d7_bracketedCond_25 : decode prog_9_method_23_code 25 = .ok (.invokevirtual 123, 3) := by decide +kernel
theorem d7_bracketedCond_28 : decode prog_9_method_23_code 28 = .ok (.aload_n 0, 1) := by decide +kernel
theorem d7_bracketedCond_29 : decode prog_9_method_23_code 29 = .ok (.invokevirtual 141, 3) := by decide +kernel
theorem d7_bracketedCond_32 : decode prog_9_method_23_code 32 = .ok (.ifCond .ne 5, 3) := by decide +kernel
theorem d7_bracketedCond_35 : decode prog_9_method_23_code 35 = .ok (.iconst 0, 1) := by decide +kernel
theorem d7_bracketedCond_36 : decode prog_9_method_23_code 36 = .ok (.ireturn, 1) := by decide +kernel
theorem d7_bracketedCond_37 : decode prog_9_method_23_code 37 = .ok (.aload_n 0, 1) := by decide +kernel
theorem d7_bracketedCond_38 : decode prog_9_method_23_code 38 = .ok (.getfield 90, 3) := by decide +kernel
theorem d7_bracketedCond_41 : decode prog_9_method_23_code 41 = .ok (.bipush 93, 2) := by decide +kernel
theorem d7_bracketedCond_43 : decode prog_9_method_23_code 43 = .ok (.if_icmp .eq 9, 3) := by decide +kernel
theorem d7_bracketedCond_46 : decode prog_9_method_23_code 46 = .ok (.aload_n 0, 1) := by decide +kernel
theorem d7_bracketedCond_47 : decode prog_9_method_23_code 47 = .ok (.iconst 1, 1) := by decide +kernel
theorem d7_bracketedCond_48 : decode prog_9_method_23_code 48 = .ok (.invokevirtual 120, 3) := by decide +kernel
theorem d7_bracketedCond_51 : decode prog_9_method_23_code 51 = .ok (.ireturn, 1) := by decide +kernel
theorem d7_bracketedCond_52 : decode prog_9_method_23_code 52 = .ok (.aload_n 0, 1) := by decide +kernel
theorem d7_bracketedCond_53 : decode prog_9_method_23_code 53 = .ok (.dup, 1) := by decide +kernel
theorem d7_bracketedCond_54 : decode prog_9_method_23_code 54 = .ok (.getfield 81, 3) := by decide +kernel
theorem d7_bracketedCond_57 : decode prog_9_method_23_code 57 = .ok (.iconst 1, 1) := by decide +kernel
theorem d7_bracketedCond_58 : decode prog_9_method_23_code 58 = .ok (.isub, 1) := by decide +kernel
theorem d7_bracketedCond_59 : decode prog_9_method_23_code 59 = .ok (.putfield 81, 3) := by decide +kernel
theorem d7_bracketedCond_62 : decode prog_9_method_23_code 62 = .ok (.aload_n 0, 1) := by decide +kernel
theorem d7_bracketedCond_63 : decode prog_9_method_23_code 63 = .ok (.invokevirtual 123, 3) := by decide +kernel
theorem d7_bracketedCond_66 : decode prog_9_method_23_code 66 = .ok (.iconst 1, 1) := by decide +kernel
theorem d7_bracketedCond_67 : decode prog_9_method_23_code 67 = .ok (.ireturn, 1) := by decide +kernel
theorem d7_part_0 : decode prog_9_method_22_code 0 = .ok (.iconst 0, 1) := by decide +kernel
theorem d7_part_1 : decode prog_9_method_22_code 1 = .ok (.istore_n 1, 1) := by decide +kernel
theorem d7_part_2 : decode prog_9_method_22_code 2 = .ok (.iconst 0, 1) := by decide +kernel
theorem d7_part_3 : decode prog_9_method_22_code 3 = .ok (.istore_n 2, 1) := by decide +kernel
theorem d7_part_4 : decode prog_9_method_22_code 4 = .ok (.iload_n 2, 1) := by decide +kernel
theorem d7_part_5 : decode prog_9_method_22_code 5 = .ok (.sipush 400, 3) := by decide +kernel
theorem d7_part_8 : decode prog_9_method_22_code 8 = .ok (.if_icmp .ge 33, 3) := by decide +kernel
theorem d7_part_11 : decode prog_9_method_22_code 11 = .ok (.aload_n 0, 1) := by decide +kernel
theorem d7_part_12 : decode prog_9_method_22_code 12 = .ok (.getfield 90, 3) := by decide +kernel
theorem d7_part_15 : decode prog_9_method_22_code 15 = .ok (.sipush 265, 3) := by decide +kernel
theorem d7_part_18 : decode prog_9_method_22_code 18 = .ok (.if_icmp .ne 23, 3) := by decide +kernel
theorem d7_part_21 : decode prog_9_method_22_code 21 = .ok (.iload_n 1, 1) := by decide +kernel
theorem d7_part_22 : decode prog_9_method_22_code 22 = .ok (.ifCond .ne 7, 3) := by decide +kernel
theorem d7_part_25 : decode prog_9_method_22_code 25 = .ok (.iconst 1, 1) := by decide +kernel
theorem d7_part_26 : decode prog_9_method_22_code 26 = .ok (.goto 4, 3) := by decide +kernel
theorem d7_part_29 : decode prog_9_method_22_code 29 = .ok (.iconst 0, 1) := by decide +kernel
theorem d7_part_30 : decode prog_9_method_22_code 30 = .ok (.istore_n 1, 1) := by decide +kernel
theorem d7_part_31 : decode prog_9_method_22_code 31 = .ok (.aload_n 0, 1) := by decide +kernel
theorem d7_part_32 : decode prog_9_method_22_code 32 = .ok (.invokevirtual 123, 3) := by decide +kernel
theorem d7_part_35 : decode prog_9_method_22_code 35 = .ok (.iinc 2 1, 3) := by decide +kernel
theorem d7_part_38 : decode prog_9_method_22_code 38 = .ok (.goto (-34), 3) := by decide +kernel
theorem d7_part_41 : decode prog_9_method_22_code 41 = .ok (.aload_n 0, 1) := by decide +kernel
theorem d7_part_42 : decode prog_9_method_22_code 42 = .ok (.getfield 90, 3) := by decide +kernel
theorem d7_part_45 : decode prog_9_method_22_code 45 = .ok (.bipush 91, 2) := by decide +kernel
theorem d7_part_47 : decode prog_9_method_22_code 47 = .ok (.if_icmp .ne 13, 3) := by decide +kernel
theorem d7_part_50 : decode prog_9_method_22_code 50 = .ok (.aload_n 0, 1) := by decide +kernel
theorem d7_part_51 : decode prog_9_method_22_code 51 = .ok (.invokevirtual 173, 3) := by decide +kernel
theorem d7_part_54 : decode prog_9_method_22_code 54 = .ok (.ifCond .eq 13, 3) := by decide +kernel
theorem d7_part_57 : decode prog_9_method_22_code 57 = .ok (.goto 12, 3) := by decide +kernel
theorem d7_part_60 : decode prog_9_method_22_code 60 = .ok (.aload_n 0, 1) := by decide +kernel
theorem d7_part_61 : decode prog_9_method_22_code 61 = .ok (.invokevirtual 176, 3) := by decide +kernel
theorem d7_part_64 : decode prog_9_method_22_code 64 = .ok (.ifCond .ne 5, 3) := by decide +kernel
theorem d7_part_67 : decode prog_9_method_22_code 67 = .ok (.iconst 0, 1) := by decide +kernel
theorem d7_part_68 : decode prog_9_method_22_code 68 = .ok (.ireturn, 1) := by decide +kernel
theorem d7_part_69 : decode prog_9_method_22_code 69 = .ok (.iload_n 1, 1) := by decide +kernel
theorem d7_part_70 : decode prog_9_method_22_code 70 = .ok (.ifCond .eq 12, 3) := by decide +kernel
theorem d7_part_73 : decode prog_9_method_22_code 73 = .ok (.aload_n 0, 1) := by decide +kernel
theorem d7_part_74 : decode prog_9_method_22_code 74 = .ok (.getfield 33, 3) := by decide +kernel
theorem d7_part_77 : decode prog_9_method_22_code 77 = .ok (.bipush (-7), 2) := by decide +kernel
theorem d7_part_79 : decode prog_9_method_22_code 79 = .ok (.invokevirtual 166, 3) := by decide +kernel
theorem d7_part_82 : decode prog_9_method_22_code 82 = .ok (.iconst 1, 1) := by decide +kernel
theorem d7_part_83 : decode prog_9_method_22_code 83 = .ok (.ireturn, 1) := by decide +kernel
theorem d7_both_0 : decode prog_9_method_21_code 0 = .ok (.aload_n 0, 1) := by decide +kernel
theorem d7_both_1 : decode prog_9_method_21_code 1 = .ok (.invokevirtual 170, 3) := by decide +kernel
theorem d7_both_4 : decode prog_9_method_21_code 4 = .ok (.ifCond .ne 5, 3) := by decide +kernel
theorem d7_both_7 : decode prog_9_method_21_code 7 = .ok (.iconst 0, 1) := by decide +kernel
theorem d7_both_8 : decode prog_9_method_21_code 8 = .ok (.ireturn, 1) := by decide +kernel
theorem d7_both_9 : decode prog_9_method_21_code 9 = .ok (.iconst 0, 1) := by decide +kernel
theorem d7_both_10 : decode prog_9_method_21_code 10 = .ok (.istore_n 1, 1) := by decide +kernel
theorem d7_both_11 : decode prog_9_method_21_code 11 = .ok (.iload_n 1, 1) := by decide +kernel
theorem d7_both_12 : decode prog_9_method_21_code 12 = .ok (.sipush 400, 3) := by decide +kernel
theorem d7_both_15 : decode prog_9_method_21_code 15 = .ok (.if_icmp .ge 41, 3) := by decide +kernel
theorem d7_both_18 : decode prog_9_method_21_code 18 = .ok (.aload_n 0, 1) := by decide +kernel
theorem d7_both_19 : decode prog_9_method_21_code 19 = .ok (.getfield 90, 3) := by decide +kernel
theorem d7_both_22 : decode prog_9_method_21_code 22 = .ok (.sipush 264, 3) := by decide +kernel
theorem d7_both_25 : decode prog_9_method_21_code 25 = .ok (.if_icmp .ne 31, 3) := by decide +kernel
theorem d7_both_28 : decode prog_9_method_21_code 28 = .ok (.aload_n 0, 1) := by decide +kernel
theorem d7_both_29 : decode prog_9_method_21_code 29 = .ok (.invokevirtual 123, 3) := by decide +kernel
theorem d7_both_32 : decode prog_9_method_21_code 32 = .ok (.aload_n 0, 1) := by decide +kernel
theorem d7_both_33 : decode prog_9_method_21_code 33 = .ok (.invokevirtual 170, 3) := by decide +kernel
theorem d7_both_36 : decode prog_9_method_21_code 36 = .ok (.ifCond .ne 5, 3) := by decide +kernel
theorem d7_both_39 : decode prog_9_method_21_code 39 = .ok (.iconst 0, 1) := by decide +kernel
theorem d7_both_40 : decode prog_9_method_21_code 40 = .ok (.ireturn, 1) := by decide +kernel
theorem d7_both_41 : decode prog_9_method_21_code 41 = .ok (.aload_n 0, 1) := by decide +kernel
theorem d7_both_42 : decode prog_9_method_21_code 42 = .ok (.getfield 33, 3) := by decide +kernel
theorem d7_both_45 : decode prog_9_method_21_code 45 = .ok (.bipush (-8), 2) := by decide +kernel
theorem d7_both_47 : decode prog_9_method_21_code 47 = .ok (.invokevirtual 166, 3) := by decide +kernel
theorem d7_both_50 : decode prog_9_method_21_code 50 = .ok (.iinc 1 1, 3) := by decide +kernel
theorem d7_both_53 : decode prog_9_method_21_code 53 = .ok (.goto (-42), 3) := by decide +kernel
theorem d7_both_56 : decode prog_9_method_21_code 56 = .ok (.iconst 1, 1) := by decide +kernel
theorem d7_both_57 : decode prog_9_method_21_code 57 = .ok (.ireturn, 1) := by decide +kernel
theorem d7_cond_0 : decode prog_9_method_20_code 0 = .ok (.aload_n 0, 1) := by decide +kernel
theorem d7_cond_1 : decode prog_9_method_20_code 1 = .ok (.invokevirtual 163, 3) := by decide +kernel
theorem d7_cond_4 : decode prog_9_method_20_code 4 = .ok (.ifCond .ne 5, 3) := by decide +kernel
theorem d7_cond_7 : decode prog_9_method_20_code 7 = .ok (.iconst 0, 1) := by decide +kernel
theorem d7_cond_8 : decode prog_9_method_20_code 8 = .ok (.ireturn, 1) := by decide +kernel
theorem d7_cond_9 : decode prog_9_method_20_code 9 = .ok (.iconst 0, 1) := by decide +kernel
theorem d7_cond_10 : decode prog_9_method_20_code 10 = .ok (.istore_n 1, 1) := by decide +kernel
theorem d7_cond_11 : decode prog_9_method_20_code 11 = .ok (.iload_n 1, 1) := by decide +kernel
theorem d7_cond_12 : decode prog_9_method_20_code 12 = .ok (.sipush 400, 3) := by decide +kernel
theorem d7_cond_15 : decode prog_9_method_20_code 15 = .ok (.if_icmp .ge 41, 3) := by decide +kernel
theorem d7_cond_18 : decode prog_9_method_20_code 18 = .ok (.aload_n 0, 1) := by decide +kernel
theorem d7_cond_19 : decode prog_9_method_20_code 19 = .ok (.getfield 90, 3) := by decide +kernel
theorem d7_cond_22 : decode prog_9_method_20_code 22 = .ok (.sipush 263, 3) := by decide +kernel
theorem d7_cond_25 : decode prog_9_method_20_code 25 = .ok (.if_icmp .ne 31, 3) := by decide +kernel
theorem d7_cond_28 : decode prog_9_method_20_code 28 = .ok (.aload_n 0, 1) := by decide +kernel
theorem d7_cond_29 : decode prog_9_method_20_code 29 = .ok (.invokevirtual 123, 3) := by decide +kernel
theorem d7_cond_32 : decode prog_9_method_20_code 32 = .ok (.aload_n 0, 1) := by decide +kernel
theorem d7_cond_33 : decode prog_9_method_20_code 33 = .ok (.invokevirtual 163, 3) := by decide +kernel
theorem d7_cond_36 : decode prog_9_method_20_code 36 = .ok (.ifCond .ne 5, 3) := by decide +kernel
theorem d7_cond_39 : decode prog_9_method_20_code 39 = .ok (.iconst 0, 1) := by decide +kernel
theorem d7_cond_40 : decode prog_9_method_20_code 40 = .ok (.ireturn, 1) := by decide +kernel
theorem d7_cond_41 : decode prog_9_method_20_code 41 = .ok (.aload_n 0, 1) := by decide +kernel
theorem d7_cond_42 : decode prog_9_method_20_code 42 = .ok (.getfield 33, 3) := by decide +kernel
theorem d7_cond_45 : decode prog_9_method_20_code 45 = .ok (.bipush (-9), 2) := by decide +kernel
theorem d7_cond_47 : decode prog_9_method_20_code 47 = .ok (.invokevirtual 166, 3) := by decide +kernel
theorem d7_cond_50 : decode prog_9_method_20_code 50 = .ok (.iinc 1 1, 3) := by decide +kernel
theorem d7_cond_53 : decode prog_9_method_20_code 53 = .ok (.goto (-42), 3) := by decide +kernel
theorem d7_cond_56 : decode prog_9_method_20_code 56 = .ok (.iconst 1, 1) := by decide +kernel
theorem d7_cond_57 : decode prog_9_method_20_code 57 = .ok (.ireturn, 1) := by decide +kernel
theorem d7_letRule_0 : decode prog_9_method_17_code 0 = .ok (.aload_n 0, 1) := by decide +kernel
theorem d7_letRule_1 : decode prog_9_method_17_code 1 = .ok (.getfield 90, 3) := by decide +kernel
theorem d7_letRule_4 : decode prog_9_method_17_code 4 = .ok (.bipush (-4), 2) := by decide +kernel
theorem d7_letRule_6 : decode prog_9_method_17_code 6 = .ok (.if_icmp .eq 9, 3) := by decide +kernel
theorem d7_letRule_9 : decode prog_9_method_17_code 9 = .ok (.aload_n 0, 1) := by decide +kernel
theorem d7_letRule_10 : decode prog_9_method_17_code 10 = .ok (.iconst 1, 1) := by decide +kernel
theorem d7_letRule_11 : decode prog_9_method_17_code 11 = .ok (.invokevirtual 120, 3) := by decide +kernel
theorem d7_letRule_14 : decode prog_9_method_17_code 14 = .ok (.ireturn, 1) := by decide +kernel
theorem d7_letRule_15 : decode prog_9_method_17_code 15 = .ok (.aload_n 0, 1) := by decide +kernel
theorem d7_letRule_16 : decode prog_9_method_17_code 16 = .ok (.invokevirtual 152, 3) := by decide +kernel
theorem d7_letRule_19 : decode prog_9_method_17_code 19 = .ok (.lstore_n 1, 1) := by decide +kernel
theorem d7_letRule_20 : decode prog_9_method_17_code 20 = .ok (.aload_n 0, 1) := by decide +kernel
theorem d7_letRule_21 : decode prog_9_method_17_code 21 = .ok (.lload_n 1, 1) := by decide +kernel
theorem d7_letRule_22 : decode prog_9_method_17_code 22 = .ok (.invokevirtual 156, 3) := by decide +kernel
theorem d7_letRule_25 : decode prog_9_method_17_code 25 = .ok (.iconst (-1), 1) := by decide +kernel
theorem d7_letRule_26 : decode prog_9_method_17_code 26 = .ok (.if_icmp .eq 9, 3) := by decide +kernel
theorem d7_letRule_29 : decode prog_9_method_17_code 29 = .ok (.aload_n 0, 1) := by decide +kernel
theorem d7_letRule_30 : decode prog_9_method_17_code 30 = .ok (.iconst 3, 1) := by decide +kernel
theorem d7_letRule_31 : decode prog_9_method_17_code 31 = .ok (.invokevirtual 120, 3) := by decide +kernel
theorem d7_letRule_34 : decode prog_9_method_17_code 34 = .ok (.ireturn, 1) := by decide +kernel
theorem d7_letRule_35 : decode prog_9_method_17_code 35 = .ok (.aload_n 0, 1) := by decide +kernel
theorem d7_letRule_36 : decode prog_9_method_17_code 36 = .ok (.getfield 78, 3) := by decide +kernel
theorem d7_letRule_39 : decode prog_9_method_17_code 39 = .ok (.bipush 6, 2) := by decide +kernel
theorem d7_letRule_41 : decode prog_9_method_17_code 41 = .ok (.if_icmp .lt 9, 3) := by decide +kernel
theorem d7_letRule_44 : decode prog_9_method_17_code 44 = .ok (.aload_n 0, 1) := by decide +kernel
theorem d7_letRule_45 : decode prog_9_method_17_code 45 = .ok (.iconst 4, 1) := by decide +kernel
theorem d7_letRule_46 : decode prog_9_method_17_code 46 = .ok (.invokevirtual 120, 3) := by decide +kernel
theorem d7_letRule_49 : decode prog_9_method_17_code 49 = .ok (.ireturn, 1) := by decide +kernel
theorem d7_letRule_50 : decode prog_9_method_17_code 50 = .ok (.aload_n 0, 1) := by decide +kernel
theorem d7_letRule_51 : decode prog_9_method_17_code 51 = .ok (.invokevirtual 123, 3) := by decide +kernel
theorem d7_letRule_54 : decode prog_9_method_17_code 54 = .ok (.aload_n 0, 1) := by decide +kernel
theorem d7_letRule_55 : decode prog_9_method_17_code 55 = .ok (.bipush 61, 2) := by decide +kernel
theorem d7_letRule_57 : decode prog_9_method_17_code 57 = .ok (.invokevirtual 138, 3) := by decide +kernel
theorem d7_letRule_60 : decode prog_9_method_17_code 60 = .ok (.ifCond .eq 10, 3) := by decide +kernel
theorem d7_letRule_63 : decode prog_9_method_17_code 63 = .ok (.aload_n 0, 1) := by decide +kernel
theorem d7_letRule_64 : decode prog_9_method_17_code 64 = .ok (.invokevirtual 160, 3) := by decide +kernel
theorem d7_letRule_67 : decode prog_9_method_17_code 67 = .ok (.ifCond .ne 5, 3) := by decide +kernel
theorem d7_letRule_70 : decode prog_9_method_17_code 70 = .ok (.iconst 0, 1) := by decide +kernel
theorem d7_letRule_71 : decode prog_9_method_17_code 71 = .ok (.ireturn, 1) := by decide +kernel
theorem d7_letRule_72 : decode prog_9_method_17_code 72 = .ok (.bipush 9, 2) := by decide +kernel
theorem d7_letRule_74 : decode prog_9_method_17_code 74 = .ok (.aload_n 0, 1) := by decide +kernel
theorem d7_letRule_75 : decode prog_9_method_17_code 75 = .ok (.getfield 78, 3) := by decide +kernel
theorem d7_letRule_78 : decode prog_9_method_17_code 78 = .ok (.iadd, 1) := by decide +kernel
theorem d7_letRule_79 : decode prog_9_method_17_code 79 = .ok (.istore_n 3, 1) := by decide +kernel
theorem d7_letRule_80 : decode prog_9_method_17_code 80 = .ok (.aload_n 0, 1) := by decide +kernel
theorem d7_letRule_81 : decode prog_9_method_17_code 81 = .ok (.getfield 25, 3) := by decide +kernel
theorem d7_letRule_84 : decode prog_9_method_17_code 84 = .ok (.iload_n 3, 1) := by decide +kernel
theorem d7_letRule_85 : decode prog_9_method_17_code 85 = .ok (.lload_n 1, 1) := by decide +kernel
theorem d7_letRule_86 : decode prog_9_method_17_code 86 = .ok (.lastore, 1) := by decide +kernel
theorem d7_letRule_87 : decode prog_9_method_17_code 87 = .ok (.aload_n 0, 1) := by decide +kernel
theorem d7_letRule_88 : decode prog_9_method_17_code 88 = .ok (.dup, 1) := by decide +kernel
theorem d7_letRule_89 : decode prog_9_method_17_code 89 = .ok (.getfield 78, 3) := by decide +kernel
theorem d7_letRule_92 : decode prog_9_method_17_code 92 = .ok (.iconst 1, 1) := by decide +kernel
theorem d7_letRule_93 : decode prog_9_method_17_code 93 = .ok (.iadd, 1) := by decide +kernel
theorem d7_letRule_94 : decode prog_9_method_17_code 94 = .ok (.putfield 78, 3) := by decide +kernel
theorem d7_letRule_97 : decode prog_9_method_17_code 97 = .ok (.aload_n 0, 1) := by decide +kernel
theorem d7_letRule_98 : decode prog_9_method_17_code 98 = .ok (.sipush 256, 3) := by decide +kernel
theorem d7_letRule_101 : decode prog_9_method_17_code 101 = .ok (.iload_n 3, 1) := by decide +kernel
theorem d7_letRule_102 : decode prog_9_method_17_code 102 = .ok (.iconst 0, 1) := by decide +kernel
theorem d7_letRule_103 : decode prog_9_method_17_code 103 = .ok (.invokevirtual 144, 3) := by decide +kernel
theorem d7_letRule_106 : decode prog_9_method_17_code 106 = .ok (.ireturn, 1) := by decide +kernel
theorem d7_tollRule_0 : decode prog_9_method_18_code 0 = .ok (.aload_n 0, 1) := by decide +kernel
theorem d7_tollRule_1 : decode prog_9_method_18_code 1 = .ok (.invokevirtual 152, 3) := by decide +kernel
theorem d7_tollRule_4 : decode prog_9_method_18_code 4 = .ok (.l2i, 1) := by decide +kernel
theorem d7_tollRule_5 : decode prog_9_method_18_code 5 = .ok (.istore_n 1, 1) := by decide +kernel
theorem d7_tollRule_6 : decode prog_9_method_18_code 6 = .ok (.aload_n 0, 1) := by decide +kernel
theorem d7_tollRule_7 : decode prog_9_method_18_code 7 = .ok (.bipush (-3), 2) := by decide +kernel
theorem d7_tollRule_9 : decode prog_9_method_18_code 9 = .ok (.invokevirtual 138, 3) := by decide +kernel
theorem d7_tollRule_12 : decode prog_9_method_18_code 12 = .ok (.ifCond .eq 13, 3) := by decide +kernel
theorem d7_tollRule_15 : decode prog_9_method_18_code 15 = .ok (.aload_n 0, 1) := by decide +kernel
theorem d7_tollRule_16 : decode prog_9_method_18_code 16 = .ok (.sipush 260, 3) := by decide +kernel
theorem d7_tollRule_19 : decode prog_9_method_18_code 19 = .ok (.invokevirtual 138, 3) := by decide +kernel
theorem d7_tollRule_22 : decode prog_9_method_18_code 22 = .ok (.ifCond .ne 5, 3) := by decide +kernel
theorem d7_tollRule_25 : decode prog_9_method_18_code 25 = .ok (.iconst 0, 1) := by decide +kernel
theorem d7_tollRule_26 : decode prog_9_method_18_code 26 = .ok (.ireturn, 1) := by decide +kernel
theorem d7_tollRule_27 : decode prog_9_method_18_code 27 = .ok (.aload_n 0, 1) := by decide +kernel
theorem d7_tollRule_28 : decode prog_9_method_18_code 28 = .ok (.invokevirtual 152, 3) := by decide +kernel
theorem d7_tollRule_31 : decode prog_9_method_18_code 31 = .ok (.l2i, 1) := by decide +kernel
theorem d7_tollRule_32 : decode prog_9_method_18_code 32 = .ok (.istore_n 2, 1) := by decide +kernel
theorem d7_tollRule_33 : decode prog_9_method_18_code 33 = .ok (.aload_n 0, 1) := by decide +kernel
theorem d7_tollRule_34 : decode prog_9_method_18_code 34 = .ok (.getfield 90, 3) := by decide +kernel
theorem d7_tollRule_37 : decode prog_9_method_18_code 37 = .ok (.bipush (-3), 2) := by decide +kernel
theorem d7_tollRule_39 : decode prog_9_method_18_code 39 = .ok (.if_icmp .ne 18, 3) := by decide +kernel
theorem d7_tollRule_42 : decode prog_9_method_18_code 42 = .ok (.iload_n 2, 1) := by decide +kernel
theorem d7_tollRule_43 : decode prog_9_method_18_code 43 = .ok (.ifCond .eq 8, 3) := by decide +kernel
theorem d7_tollRule_46 : decode prog_9_method_18_code 46 = .ok (.iload_n 2, 1) := by decide +kernel
theorem d7_tollRule_47 : decode prog_9_method_18_code 47 = .ok (.iload_n 1, 1) := by decide +kernel
theorem d7_tollRule_48 : decode prog_9_method_18_code 48 = .ok (.if_icmp .ge 9, 3) := by decide +kernel
theorem d7_tollRule_51 : decode prog_9_method_18_code 51 = .ok (.aload_n 0, 1) := by decide +kernel
theorem d7_tollRule_52 : decode prog_9_method_18_code 52 = .ok (.iconst 2, 1) := by decide +kernel
theorem d7_tollRule_53 : decode prog_9_method_18_code 53 = .ok (.invokevirtual 120, 3) := by decide +kernel
theorem d7_tollRule_56 : decode prog_9_method_18_code 56 = .ok (.ireturn, 1) := by decide +kernel
theorem d7_tollRule_57 : decode prog_9_method_18_code 57 = .ok (.aload_n 0, 1) := by decide +kernel
theorem d7_tollRule_58 : decode prog_9_method_18_code 58 = .ok (.bipush (-3), 2) := by decide +kernel
theorem d7_tollRule_60 : decode prog_9_method_18_code 60 = .ok (.invokevirtual 138, 3) := by decide +kernel
theorem d7_tollRule_63 : decode prog_9_method_18_code 63 = .ok (.ifCond .eq 36, 3) := by decide +kernel
theorem d7_tollRule_66 : decode prog_9_method_18_code 66 = .ok (.aload_n 0, 1) := by decide +kernel
theorem d7_tollRule_67 : decode prog_9_method_18_code 67 = .ok (.sipush 262, 3) := by decide +kernel
theorem d7_tollRule_70 : decode prog_9_method_18_code 70 = .ok (.invokevirtual 138, 3) := by decide +kernel
theorem d7_tollRule_73 : decode prog_9_method_18_code 73 = .ok (.ifCond .eq 26, 3) := by decide +kernel
theorem d7_tollRule_76 : decode prog_9_method_18_code 76 = .ok (.aload_n 0, 1) := by decide +kernel
theorem d7_tollRule_77 : decode prog_9_method_18_code 77 = .ok (.invokevirtual 141, 3) := by decide +kernel
theorem d7_tollRule_80 : decode prog_9_method_18_code 80 = .ok (.ifCond .eq 19, 3) := by decide +kernel
theorem d7_tollRule_83 : decode prog_9_method_18_code 83 = .ok (.aload_n 0, 1) := by decide +kernel
theorem d7_tollRule_84 : decode prog_9_method_18_code 84 = .ok (.sipush 259, 3) := by decide +kernel
theorem d7_tollRule_87 : decode prog_9_method_18_code 87 = .ok (.iload_n 1, 1) := by decide +kernel
theorem d7_tollRule_88 : decode prog_9_method_18_code 88 = .ok (.iload_n 2, 1) := by decide +kernel
theorem d7_tollRule_89 : decode prog_9_method_18_code 89 = .ok (.invokevirtual 144, 3) := by decide +kernel
theorem d7_tollRule_92 : decode prog_9_method_18_code 92 = .ok (.ifCond .eq 7, 3) := by decide +kernel
theorem d7_tollRule_95 : decode prog_9_method_18_code 95 = .ok (.iconst 1, 1) := by decide +kernel
theorem d7_tollRule_96 : decode prog_9_method_18_code 96 = .ok (.goto 4, 3) := by decide +kernel
theorem d7_tollRule_99 : decode prog_9_method_18_code 99 = .ok (.iconst 0, 1) := by decide +kernel
theorem d7_tollRule_100 : decode prog_9_method_18_code 100 = .ok (.ireturn, 1) := by decide +kernel
theorem d7_wayRule_0 : decode prog_9_method_19_code 0 = .ok (.aload_n 0, 1) := by decide +kernel
theorem d7_wayRule_1 : decode prog_9_method_19_code 1 = .ok (.invokevirtual 152, 3) := by decide +kernel
theorem d7_wayRule_4 : decode prog_9_method_19_code 4 = .ok (.l2i, 1) := by decide +kernel
theorem d7_wayRule_5 : decode prog_9_method_19_code 5 = .ok (.istore_n 1, 1) := by decide +kernel
theorem d7_wayRule_6 : decode prog_9_method_19_code 6 = .ok (.aload_n 0, 1) := by decide +kernel
theorem d7_wayRule_7 : decode prog_9_method_19_code 7 = .ok (.getfield 90, 3) := by decide +kernel
theorem d7_wayRule_10 : decode prog_9_method_19_code 10 = .ok (.bipush (-3), 2) := by decide +kernel
theorem d7_wayRule_12 : decode prog_9_method_19_code 12 = .ok (.if_icmp .ne 15, 3) := by decide +kernel
theorem d7_wayRule_15 : decode prog_9_method_19_code 15 = .ok (.iload_n 1, 1) := by decide +kernel
theorem d7_wayRule_16 : decode prog_9_method_19_code 16 = .ok (.bipush 6, 2) := by decide +kernel
theorem d7_wayRule_18 : decode prog_9_method_19_code 18 = .ok (.if_icmp .le 9, 3) := by decide +kernel
theorem d7_wayRule_21 : decode prog_9_method_19_code 21 = .ok (.aload_n 0, 1) := by decide +kernel
theorem d7_wayRule_22 : decode prog_9_method_19_code 22 = .ok (.iconst 2, 1) := by decide +kernel
theorem d7_wayRule_23 : decode prog_9_method_19_code 23 = .ok (.invokevirtual 120, 3) := by decide +kernel
theorem d7_wayRule_26 : decode prog_9_method_19_code 26 = .ok (.ireturn, 1) := by decide +kernel
theorem d7_wayRule_27 : decode prog_9_method_19_code 27 = .ok (.aload_n 0, 1) := by decide +kernel
theorem d7_wayRule_28 : decode prog_9_method_19_code 28 = .ok (.bipush (-3), 2) := by decide +kernel
theorem d7_wayRule_30 : decode prog_9_method_19_code 30 = .ok (.invokevirtual 138, 3) := by decide +kernel
theorem d7_wayRule_33 : decode prog_9_method_19_code 33 = .ok (.ifCond .eq 36, 3) := by decide +kernel
theorem d7_wayRule_36 : decode prog_9_method_19_code 36 = .ok (.aload_n 0, 1) := by decide +kernel
theorem d7_wayRule_37 : decode prog_9_method_19_code 37 = .ok (.sipush 262, 3) := by decide +kernel
theorem d7_wayRule_40 : decode prog_9_method_19_code 40 = .ok (.invokevirtual 138, 3) := by decide +kernel
theorem d7_wayRule_43 : decode prog_9_method_19_code 43 = .ok (.ifCond .eq 26, 3) := by decide +kernel
theorem d7_wayRule_46 : decode prog_9_method_19_code 46 = .ok (.aload_n 0, 1) := by decide +kernel
theorem d7_wayRule_47 : decode prog_9_method_19_code 47 = .ok (.invokevirtual 141, 3) := by decide +kernel
theorem d7_wayRule_50 : decode prog_9_method_19_code 50 = .ok (.ifCond .eq 19, 3) := by decide +kernel
theorem d7_wayRule_53 : decode prog_9_method_19_code 53 = .ok (.aload_n 0, 1) := by decide +kernel
theorem d7_wayRule_54 : decode prog_9_method_19_code 54 = .ok (.sipush 261, 3) := by decide +kernel
theorem d7_wayRule_57 : decode prog_9_method_19_code 57 = .ok (.iload_n 1, 1) := by decide +kernel
theorem d7_wayRule_58 : decode prog_9_method_19_code 58 = .ok (.iconst 0, 1) := by decide +kernel
theorem d7_wayRule_59 : decode prog_9_method_19_code 59 = .ok (.invokevirtual 144, 3) := by decide +kernel
theorem d7_wayRule_62 : decode prog_9_method_19_code 62 = .ok (.ifCond .eq 7, 3) := by decide +kernel
theorem d7_wayRule_65 : decode prog_9_method_19_code 65 = .ok (.iconst 1, 1) := by decide +kernel
theorem d7_wayRule_66 : decode prog_9_method_19_code 66 = .ok (.goto 4, 3) := by decide +kernel
theorem d7_wayRule_69 : decode prog_9_method_19_code 69 = .ok (.iconst 0, 1) := by decide +kernel
theorem d7_wayRule_70 : decode prog_9_method_19_code 70 = .ok (.ireturn, 1) := by decide +kernel
theorem d7_rule_0 : decode prog_9_method_15_code 0 = .ok (.aload_n 0, 1) := by decide +kernel
theorem d7_rule_1 : decode prog_9_method_15_code 1 = .ok (.getfield 90, 3) := by decide +kernel
theorem d7_rule_4 : decode prog_9_method_15_code 4 = .ok (.istore_n 1, 1) := by decide +kernel
theorem d7_rule_5 : decode prog_9_method_15_code 5 = .ok (.iload_n 1, 1) := by decide +kernel
theorem d7_rule_6 : decode prog_9_method_15_code 6 = .ok (.sipush 256, 3) := by decide +kernel
theorem d7_rule_9 : decode prog_9_method_15_code 9 = .ok (.if_icmp .eq 37, 3) := by decide +kernel
theorem d7_rule_12 : decode prog_9_method_15_code 12 = .ok (.iload_n 1, 1) := by decide +kernel
theorem d7_rule_13 : decode prog_9_method_15_code 13 = .ok (.sipush 257, 3) := by decide +kernel
theorem d7_rule_16 : decode prog_9_method_15_code 16 = .ok (.if_icmp .eq 30, 3) := by decide +kernel
theorem d7_rule_19 : decode prog_9_method_15_code 19 = .ok (.iload_n 1, 1) := by decide +kernel
theorem d7_rule_20 : decode prog_9_method_15_code 20 = .ok (.sipush 258, 3) := by decide +kernel
theorem d7_rule_23 : decode prog_9_method_15_code 23 = .ok (.if_icmp .eq 23, 3) := by decide +kernel
theorem d7_rule_26 : decode prog_9_method_15_code 26 = .ok (.iload_n 1, 1) := by decide +kernel
theorem d7_rule_27 : decode prog_9_method_15_code 27 = .ok (.sipush 259, 3) := by decide +kernel
theorem d7_rule_30 : decode prog_9_method_15_code 30 = .ok (.if_icmp .eq 16, 3) := by decide +kernel
theorem d7_rule_33 : decode prog_9_method_15_code 33 = .ok (.iload_n 1, 1) := by decide +kernel
theorem d7_rule_34 : decode prog_9_method_15_code 34 = .ok (.sipush 261, 3) := by decide +kernel
theorem d7_rule_37 : decode prog_9_method_15_code 37 = .ok (.if_icmp .eq 9, 3) := by decide +kernel
theorem d7_rule_40 : decode prog_9_method_15_code 40 = .ok (.aload_n 0, 1) := by decide +kernel
theorem d7_rule_41 : decode prog_9_method_15_code 41 = .ok (.iconst 1, 1) := by decide +kernel
theorem d7_rule_42 : decode prog_9_method_15_code 42 = .ok (.invokevirtual 120, 3) := by decide +kernel
theorem d7_rule_45 : decode prog_9_method_15_code 45 = .ok (.ireturn, 1) := by decide +kernel
theorem d7_rule_46 : decode prog_9_method_15_code 46 = .ok (.aload_n 0, 1) := by decide +kernel
theorem d7_rule_47 : decode prog_9_method_15_code 47 = .ok (.getfield 33, 3) := by decide +kernel
theorem d7_rule_50 : decode prog_9_method_15_code 50 = .ok (.getfield 126, 3) := by decide +kernel
theorem d7_rule_53 : decode prog_9_method_15_code 53 = .ok (.bipush 20, 2) := by decide +kernel
theorem d7_rule_55 : decode prog_9_method_15_code 55 = .ok (.if_icmp .lt 9, 3) := by decide +kernel
theorem d7_rule_58 : decode prog_9_method_15_code 58 = .ok (.aload_n 0, 1) := by decide +kernel
theorem d7_rule_59 : decode prog_9_method_15_code 59 = .ok (.iconst 4, 1) := by decide +kernel
theorem d7_rule_60 : decode prog_9_method_15_code 60 = .ok (.invokevirtual 120, 3) := by decide +kernel
theorem d7_rule_63 : decode prog_9_method_15_code 63 = .ok (.ireturn, 1) := by decide +kernel
theorem d7_rule_64 : decode prog_9_method_15_code 64 = .ok (.aload_n 0, 1) := by decide +kernel
theorem d7_rule_65 : decode prog_9_method_15_code 65 = .ok (.invokevirtual 123, 3) := by decide +kernel
theorem d7_rule_68 : decode prog_9_method_15_code 68 = .ok (.iload_n 1, 1) := by decide +kernel
theorem d7_rule_69 : decode prog_9_method_15_code 69 = .ok (.lookupswitch 50 #[(256, 35), (259, 40), (261, 45)], 35) := by decide +kernel
theorem d7_rule_104 : decode prog_9_method_15_code 104 = .ok (.aload_n 0, 1) := by decide +kernel
theorem d7_rule_105 : decode prog_9_method_15_code 105 = .ok (.invokevirtual 129, 3) := by decide +kernel
theorem d7_rule_108 : decode prog_9_method_15_code 108 = .ok (.ireturn, 1) := by decide +kernel
theorem d7_rule_109 : decode prog_9_method_15_code 109 = .ok (.aload_n 0, 1) := by decide +kernel
theorem d7_rule_110 : decode prog_9_method_15_code 110 = .ok (.invokevirtual 132, 3) := by decide +kernel
theorem d7_rule_113 : decode prog_9_method_15_code 113 = .ok (.ireturn, 1) := by decide +kernel
theorem d7_rule_114 : decode prog_9_method_15_code 114 = .ok (.aload_n 0, 1) := by decide +kernel
theorem d7_rule_115 : decode prog_9_method_15_code 115 = .ok (.invokevirtual 135, 3) := by decide +kernel
theorem d7_rule_118 : decode prog_9_method_15_code 118 = .ok (.ireturn, 1) := by decide +kernel
theorem d7_rule_119 : decode prog_9_method_15_code 119 = .ok (.aload_n 0, 1) := by decide +kernel
theorem d7_rule_120 : decode prog_9_method_15_code 120 = .ok (.sipush 262, 3) := by decide +kernel
theorem d7_rule_123 : decode prog_9_method_15_code 123 = .ok (.invokevirtual 138, 3) := by decide +kernel
theorem d7_rule_126 : decode prog_9_method_15_code 126 = .ok (.ifCond .eq 24, 3) := by decide +kernel
theorem d7_rule_129 : decode prog_9_method_15_code 129 = .ok (.aload_n 0, 1) := by decide +kernel
theorem d7_rule_130 : decode prog_9_method_15_code 130 = .ok (.invokevirtual 141, 3) := by decide +kernel
theorem d7_rule_133 : decode prog_9_method_15_code 133 = .ok (.ifCond .eq 17, 3) := by decide +kernel
theorem d7_rule_136 : decode prog_9_method_15_code 136 = .ok (.aload_n 0, 1) := by decide +kernel
theorem d7_rule_137 : decode prog_9_method_15_code 137 = .ok (.iload_n 1, 1) := by decide +kernel
theorem d7_rule_138 : decode prog_9_method_15_code 138 = .ok (.iconst 0, 1) := by decide +kernel
theorem d7_rule_139 : decode prog_9_method_15_code 139 = .ok (.iconst 0, 1) := by decide +kernel
theorem d7_rule_140 : decode prog_9_method_15_code 140 = .ok (.invokevirtual 144, 3) := by decide +kernel
theorem d7_rule_143 : decode prog_9_method_15_code 143 = .ok (.ifCond .eq 7, 3) := by decide +kernel
theorem d7_rule_146 : decode prog_9_method_15_code 146 = .ok (.iconst 1, 1) := by decide +kernel
theorem d7_rule_147 : decode prog_9_method_15_code 147 = .ok (.goto 4, 3) := by decide +kernel
theorem d7_rule_150 : decode prog_9_method_15_code 150 = .ok (.iconst 0, 1) := by decide +kernel
theorem d7_rule_151 : decode prog_9_method_15_code 151 = .ok (.ireturn, 1) := by decide +kernel
theorem d7_addToken_0 : decode prog_9_method_10_code 0 = .ok (.aload_n 0, 1) := by decide +kernel
theorem d7_addToken_1 : decode prog_9_method_10_code 1 = .ok (.getfield 97, 3) := by decide +kernel
theorem d7_addToken_4 : decode prog_9_method_10_code 4 = .ok (.aload_n 0, 1) := by decide +kernel
theorem d7_addToken_5 : decode prog_9_method_10_code 5 = .ok (.getfield 9, 3) := by decide +kernel
theorem d7_addToken_8 : decode prog_9_method_10_code 8 = .ok (.arraylength, 1) := by decide +kernel
theorem d7_addToken_9 : decode prog_9_method_10_code 9 = .ok (.if_icmp .ge 43, 3) := by decide +kernel
theorem d7_addToken_12 : decode prog_9_method_10_code 12 = .ok (.aload_n 0, 1) := by decide +kernel
theorem d7_addToken_13 : decode prog_9_method_10_code 13 = .ok (.getfield 9, 3) := by decide +kernel
theorem d7_addToken_16 : decode prog_9_method_10_code 16 = .ok (.aload_n 0, 1) := by decide +kernel
theorem d7_addToken_17 : decode prog_9_method_10_code 17 = .ok (.getfield 97, 3) := by decide +kernel
theorem d7_addToken_20 : decode prog_9_method_10_code 20 = .ok (.iload_n 1, 1) := by decide +kernel
theorem d7_addToken_21 : decode prog_9_method_10_code 21 = .ok (.iastore, 1) := by decide +kernel
theorem d7_addToken_22 : decode prog_9_method_10_code 22 = .ok (.aload_n 0, 1) := by decide +kernel
theorem d7_addToken_23 : decode prog_9_method_10_code 23 = .ok (.getfield 15, 3) := by decide +kernel
theorem d7_addToken_26 : decode prog_9_method_10_code 26 = .ok (.aload_n 0, 1) := by decide +kernel
theorem d7_addToken_27 : decode prog_9_method_10_code 27 = .ok (.getfield 97, 3) := by decide +kernel
theorem d7_addToken_30 : decode prog_9_method_10_code 30 = .ok (.iload_n 2, 1) := by decide +kernel
theorem d7_addToken_31 : decode prog_9_method_10_code 31 = .ok (.iastore, 1) := by decide +kernel
theorem d7_addToken_32 : decode prog_9_method_10_code 32 = .ok (.aload_n 0, 1) := by decide +kernel
theorem d7_addToken_33 : decode prog_9_method_10_code 33 = .ok (.getfield 18, 3) := by decide +kernel
theorem d7_addToken_36 : decode prog_9_method_10_code 36 = .ok (.aload_n 0, 1) := by decide +kernel
theorem d7_addToken_37 : decode prog_9_method_10_code 37 = .ok (.getfield 97, 3) := by decide +kernel
theorem d7_addToken_40 : decode prog_9_method_10_code 40 = .ok (.lload_n 3, 1) := by decide +kernel
theorem d7_addToken_41 : decode prog_9_method_10_code 41 = .ok (.lastore, 1) := by decide +kernel
theorem d7_addToken_42 : decode prog_9_method_10_code 42 = .ok (.aload_n 0, 1) := by decide +kernel
theorem d7_addToken_43 : decode prog_9_method_10_code 43 = .ok (.dup, 1) := by decide +kernel
theorem d7_addToken_44 : decode prog_9_method_10_code 44 = .ok (.getfield 97, 3) := by decide +kernel
theorem d7_addToken_47 : decode prog_9_method_10_code 47 = .ok (.iconst 1, 1) := by decide +kernel
theorem d7_addToken_48 : decode prog_9_method_10_code 48 = .ok (.iadd, 1) := by decide +kernel
theorem d7_addToken_49 : decode prog_9_method_10_code 49 = .ok (.putfield 97, 3) := by decide +kernel
theorem d7_addToken_52 : decode prog_9_method_10_code 52 = .ok (.return_, 1) := by decide +kernel
theorem d7_isFigure_0 : decode prog_9_method_9_code 0 = .ok (.iload_n 0, 1) := by decide +kernel
theorem d7_isFigure_1 : decode prog_9_method_9_code 1 = .ok (.bipush 48, 2) := by decide +kernel
theorem d7_isFigure_3 : decode prog_9_method_9_code 3 = .ok (.if_icmp .lt 13, 3) := by decide +kernel
theorem d7_isFigure_6 : decode prog_9_method_9_code 6 = .ok (.iload_n 0, 1) := by decide +kernel
theorem d7_isFigure_7 : decode prog_9_method_9_code 7 = .ok (.bipush 57, 2) := by decide +kernel
theorem d7_isFigure_9 : decode prog_9_method_9_code 9 = .ok (.if_icmp .gt 7, 3) := by decide +kernel
theorem d7_isFigure_12 : decode prog_9_method_9_code 12 = .ok (.iconst 1, 1) := by decide +kernel
theorem d7_isFigure_13 : decode prog_9_method_9_code 13 = .ok (.goto 4, 3) := by decide +kernel
theorem d7_isFigure_16 : decode prog_9_method_9_code 16 = .ok (.iconst 0, 1) := by decide +kernel
theorem d7_isFigure_17 : decode prog_9_method_9_code 17 = .ok (.ireturn, 1) := by decide +kernel
theorem d7_isLetter_0 : decode prog_9_method_8_code 0 = .ok (.iload_n 0, 1) := by decide +kernel
theorem d7_isLetter_1 : decode prog_9_method_8_code 1 = .ok (.bipush 97, 2) := by decide +kernel
theorem d7_isLetter_3 : decode prog_9_method_8_code 3 = .ok (.if_icmp .lt 13, 3) := by decide +kernel
theorem d7_isLetter_6 : decode prog_9_method_8_code 6 = .ok (.iload_n 0, 1) := by decide +kernel
theorem d7_isLetter_7 : decode prog_9_method_8_code 7 = .ok (.bipush 122, 2) := by decide +kernel
theorem d7_isLetter_9 : decode prog_9_method_8_code 9 = .ok (.if_icmp .gt 7, 3) := by decide +kernel
theorem d7_isLetter_12 : decode prog_9_method_8_code 12 = .ok (.iconst 1, 1) := by decide +kernel
theorem d7_isLetter_13 : decode prog_9_method_8_code 13 = .ok (.goto 4, 3) := by decide +kernel
theorem d7_isLetter_16 : decode prog_9_method_8_code 16 = .ok (.iconst 0, 1) := by decide +kernel
theorem d7_isLetter_17 : decode prog_9_method_8_code 17 = .ok (.ireturn, 1) := by decide +kernel
def f7_factor (F : St → Nat → Option (Int32 × St)) (σ : St) (v0 : Nat) : Option (Int32 × St) :=
  gd (ob σ v0 7) (
  (if (sI σ v0 8) = (40 : Int32) then
  bd (f7_bracketedSum F σ v0) fun r3 t4 => (
  gd (isB r3) (
  some (r3, t4)))
  else
  (if (sI σ v0 8) = (-3 : Int32) then
  lt (sR σ v0 5) fun b9 => (
  gd (nz b9) (
  bd (f7_valueHere σ v0) fun r12 t13 => (
  gd (ob t13 b9 10) (
  bd (f10_emit t13 b9 (r12.toInt32)) fun r17 t18 => (
  bd (f7_step t18 v0) fun r21 t22 => (
  some ((1 : Int32), t22)))))))
  else
  (if (sI σ v0 8) = (-4 : Int32) then
  bd (f7_valueHere σ v0) fun r26 t27 => (
  bd (f7_known t27 v0 r26) fun r30 t31 => (
  (if r30 = (-1 : Int32) then
  bd (f7_refuse t31 v0 (3 : Int32)) fun r35 t36 => (
  gd (isB r35) (
  some (r35, t36)))
  else
  lt (sR t31 v0 5) fun b40 => (
  gd (nz b40) (
  gd (ob t31 b40 10) (
  bd (f10_emit t31 b40 ((10000 : Int32) + r30)) fun r44 t45 => (
  bd (f7_step t45 v0) fun r48 t49 => (
  some ((1 : Int32), t49)))))))))
  else
  bd (f7_refuse σ v0 (1 : Int32)) fun r52 t53 => (
  gd (isB r52) (
  some (r52, t53)))))))
set_option maxRecDepth 50000 in
theorem s7_factor {F : St → Nat → Option (Int32 × St)} {dF : Nat} (hB : 3 ≤ dF) (hF : ∀ (σ : St) (a0 : Nat) (r : Int32) (τ : St), F σ a0 = some (r, τ) → Call dF m7_sum [.ref a0] σ (some (.int r)) τ) : ∀ (σ : St) (v0 : Nat) (r : Int32) (τ : St), f7_factor F σ v0 = some (r, τ) → Call (dF + 2) m7_factor [.ref v0] σ (some (.int r)) τ := by
  intro σ v0 r τ hf
  unfold f7_factor at hf
  refine Call.of (by decide +kernel) rfl (Nat.le_of_ble_eq_true rfl) ?_
  refine ev_aload_n (j := 0) (i := 0) (q := 0) rfl rfl d7_factor_0 ?_
  obtain ⟨h1, hf⟩ := gd_some hf
  refine ev_getI cls7 (j := 8) (by decide) rfl w280 h1 d7_factor_1 ?_
  refine ev_bipush cb_40 d7_factor_4 ?_
  rcases ite_some hf with ⟨c2, hf⟩ | ⟨c2, hf⟩
  · refine ev_icmp_ne_P (tgt := 14) c2 (by decide) d7_factor_6 ?_
    refine ev_aload_n (j := 0) (i := 0) (q := 0) rfl rfl d7_factor_9 ?_
    obtain ⟨r3, t4, k5, hf⟩ := bd_some hf
    have q6 := s7_bracketedSum hB hF _ _ _ _ k5
    refine ev_callV (vs := []) (sk := []) cls7 h1 q6 (by omega) (Nat.le_of_ble_eq_true rfl) w792 w794 ws16 w9 w795 k7_bracketedSum rfl (Nat.le_of_ble_eq_true rfl) d7_factor_10 ?_
    obtain ⟨h7, hf⟩ := gd_some hf
    obtain ⟨rfl, rfl⟩ := ret_some hf
    exact ev_zret rfl (narB h7) d7_factor_13
  · refine ev_icmp_ne_Q (tgt := 14) c2 (by decide) d7_factor_6 ?_
    refine ev_aload_n (j := 0) (i := 0) (q := 0) rfl rfl d7_factor_14 ?_
    refine ev_getI cls7 (j := 8) (by decide) rfl w280 h1 d7_factor_15 ?_
    refine ev_bipush cb_m3 d7_factor_18 ?_
    rcases ite_some hf with ⟨c8, hf⟩ | ⟨c8, hf⟩
    · refine ev_icmp_ne_P (tgt := 41) c8 (by decide) d7_factor_20 ?_
      refine ev_aload_n (j := 0) (i := 0) (q := 0) rfl rfl d7_factor_23 ?_
      obtain ⟨b9, e10, hf⟩ := lt_some hf
      obtain ⟨h11, hf⟩ := gd_some hf
      refine ev_getRb cls7 (j := 5) (by decide) rfl w276 h1 e10 (nz_ne h11) d7_factor_24 ?_
      refine ev_aload_n (j := 0) (i := 0) (q := 0) rfl rfl d7_factor_27 ?_
      obtain ⟨r12, t13, k14, hf⟩ := bd_some hf
      have q15 := s7_valueHere _ _ _ _ k14
      refine ev_callV (vs := []) (sk := [.ref b9]) cls7 h1 q15 (by omega) (Nat.le_of_ble_eq_true rfl) w768 w770 ws10 w9 w771 k7_valueHere rfl (Nat.le_of_ble_eq_true rfl) d7_factor_28 ?_
      refine ev_l2i d7_factor_31 ?_
      obtain ⟨h16, hf⟩ := gd_some hf
      obtain ⟨r17, t18, k19, hf⟩ := bd_some hf
      have q20 := s10_emit _ _ _ _ _ k19
      refine ev_callV (vs := [.int (r12.toInt32)]) (sk := []) cls10 h16 q20 (by omega) (Nat.le_of_ble_eq_true rfl) w796 w797 w798 w10 w799 k10_emit rfl (Nat.le_of_ble_eq_true rfl) d7_factor_32 ?_
      refine ev_aload_n (j := 0) (i := 0) (q := 0) rfl rfl d7_factor_35 ?_
      obtain ⟨r21, t22, k23, hf⟩ := bd_some hf
      have q24 := s7_step _ _ _ _ k23
      refine ev_callV (vs := []) (sk := []) cls7 (mono_ob q20.1 (mono_ob q15.1 h1)) q24 (by omega) (Nat.le_of_ble_eq_true rfl) w760 w762 ws8 w9 w763 k7_step rfl (Nat.le_of_ble_eq_true rfl) d7_factor_36 ?_
      refine ev_iconst ci_1 d7_factor_39 ?_
      obtain ⟨rfl, rfl⟩ := ret_some hf
      exact ev_zret rfl (by decide) d7_factor_40
    · refine ev_icmp_ne_Q (tgt := 41) c8 (by decide) d7_factor_20 ?_
      refine ev_aload_n (j := 0) (i := 0) (q := 0) rfl rfl d7_factor_41 ?_
      refine ev_getI cls7 (j := 8) (by decide) rfl w280 h1 d7_factor_42 ?_
      refine ev_bipush cb_m4 d7_factor_45 ?_
      rcases ite_some hf with ⟨c25, hf⟩ | ⟨c25, hf⟩
      · refine ev_icmp_eq_P (tgt := 56) c25 (by decide) d7_factor_47 ?_
        refine ev_aload_n (j := 0) (i := 0) (q := 0) rfl rfl d7_factor_56 ?_
        refine ev_aload_n (j := 0) (i := 0) (q := 0) rfl rfl d7_factor_57 ?_
        obtain ⟨r26, t27, k28, hf⟩ := bd_some hf
        have q29 := s7_valueHere _ _ _ _ k28
        refine ev_callV (vs := []) (sk := [.ref v0]) cls7 h1 q29 (by omega) (Nat.le_of_ble_eq_true rfl) w768 w770 ws10 w9 w771 k7_valueHere rfl (Nat.le_of_ble_eq_true rfl) d7_factor_58 ?_
        obtain ⟨r30, t31, k32, hf⟩ := bd_some hf
        have q33 := s7_known _ _ _ _ _ k32
        refine ev_callV (vs := [.long r26]) (sk := []) cls7 (mono_ob q29.1 h1) q33 (by omega) (Nat.le_of_ble_eq_true rfl) w772 w774 ws11 w9 w775 k7_known rfl (Nat.le_of_ble_eq_true rfl) d7_factor_61 ?_
        refine ev_istore_n (lv2 := [(1, .int r30), (0, .ref v0)]) (j := 1) (i := 1) rfl (by decide) rfl d7_factor_64 ?_
        refine ev_iload_n (j := 1) (i := 1) (q := 0) rfl rfl d7_factor_65 ?_
        refine ev_iconst ci_m1 d7_factor_66 ?_
        rcases ite_some hf with ⟨c34, hf⟩ | ⟨c34, hf⟩
        · refine ev_icmp_ne_P (tgt := 76) c34 (by decide) d7_factor_67 ?_
          refine ev_aload_n (j := 0) (i := 0) (q := 1) rfl rfl d7_factor_70 ?_
          refine ev_iconst ci_3 d7_factor_71 ?_
          obtain ⟨r35, t36, k37, hf⟩ := bd_some hf
          have q38 := s7_refuse _ _ _ _ _ k37
          refine ev_callV (vs := [.int (3 : Int32)]) (sk := []) cls7 (mono_ob q33.1 (mono_ob q29.1 h1)) q38 (by omega) (Nat.le_of_ble_eq_true rfl) w756 w758 ws7 w9 w759 k7_refuse rfl (Nat.le_of_ble_eq_true rfl) d7_factor_72 ?_
          obtain ⟨h39, hf⟩ := gd_some hf
          obtain ⟨rfl, rfl⟩ := ret_some hf
          exact ev_zret rfl (narB h39) d7_factor_75
        · refine ev_icmp_ne_Q (tgt := 76) c34 (by decide) d7_factor_67 ?_
          refine ev_aload_n (j := 0) (i := 0) (q := 1) rfl rfl d7_factor_76 ?_
          obtain ⟨b40, e41, hf⟩ := lt_some hf
          obtain ⟨h42, hf⟩ := gd_some hf
          refine ev_getRb cls7 (j := 5) (by decide) rfl w276 (mono_ob q33.1 (mono_ob q29.1 h1)) e41 (nz_ne h42) d7_factor_77 ?_
          refine ev_sipush cs_10000 d7_factor_80 ?_
          refine ev_iload_n (j := 1) (i := 1) (q := 0) rfl rfl d7_factor_83 ?_
          refine ev_iadd d7_factor_84 ?_
          obtain ⟨h43, hf⟩ := gd_some hf
          obtain ⟨r44, t45, k46, hf⟩ := bd_some hf
          have q47 := s10_emit _ _ _ _ _ k46
          refine ev_callV (vs := [.int ((10000 : Int32) + r30)]) (sk := []) cls10 h43 q47 (by omega) (Nat.le_of_ble_eq_true rfl) w796 w797 w798 w10 w799 k10_emit rfl (Nat.le_of_ble_eq_true rfl) d7_factor_85 ?_
          refine ev_aload_n (j := 0) (i := 0) (q := 1) rfl rfl d7_factor_88 ?_
          obtain ⟨r48, t49, k50, hf⟩ := bd_some hf
          have q51 := s7_step _ _ _ _ k50
          refine ev_callV (vs := []) (sk := []) cls7 (mono_ob q47.1 (mono_ob q33.1 (mono_ob q29.1 h1))) q51 (by omega) (Nat.le_of_ble_eq_true rfl) w760 w762 ws8 w9 w763 k7_step rfl (Nat.le_of_ble_eq_true rfl) d7_factor_89 ?_
          refine ev_iconst ci_1 d7_factor_92 ?_
          obtain ⟨rfl, rfl⟩ := ret_some hf
          exact ev_zret rfl (by decide) d7_factor_93
      · refine ev_icmp_eq_Q (tgt := 56) c25 (by decide) d7_factor_47 ?_
        refine ev_aload_n (j := 0) (i := 0) (q := 0) rfl rfl d7_factor_50 ?_
        refine ev_iconst ci_1 d7_factor_51 ?_
        obtain ⟨r52, t53, k54, hf⟩ := bd_some hf
        have q55 := s7_refuse _ _ _ _ _ k54
        refine ev_callV (vs := [.int (1 : Int32)]) (sk := []) cls7 h1 q55 (by omega) (Nat.le_of_ble_eq_true rfl) w756 w758 ws7 w9 w759 k7_refuse rfl (Nat.le_of_ble_eq_true rfl) d7_factor_52 ?_
        obtain ⟨h56, hf⟩ := gd_some hf
        obtain ⟨rfl, rfl⟩ := ret_some hf
        exact ev_zret rfl (narB h56) d7_factor_55
def f7_product_p11 (F : St → Nat → Option (Int32 × St)) : Nat → St → Nat → Int32 → Option (Int32 × St)
  | 0, _, _, _ => none
  | n + 1, σ, v0, v1 =>
  (if v1 < (400 : Int32) then
  gd (ob σ v0 7) (
  (if (sI σ v0 8) = (42 : Int32) then
  bd (f7_step σ v0) fun r10 t11 => (
  bd (f7_factor F t11 v0) fun r14 t15 => (
  (if r14 = (0 : Int32) then
  some ((0 : Int32), t15)
  else
  lt (sR t15 v0 5) fun b19 => (
  gd (nz b19) (
  gd (ob t15 b19 10) (
  bd (f10_emit t15 b19 (-3 : Int32)) fun r23 t24 => (
  lt (v1 + (1 : Int32)) fun y27 => (
  (f7_product_p11 F n) t24 v0 y27))))))))
  else
  some ((1 : Int32), σ)))
  else
  some ((1 : Int32), σ))
set_option maxRecDepth 20000 in
theorem s7_product_p11 {F : St → Nat → Option (Int32 × St)} {dF : Nat} (hB : 3 ≤ dF) (hF : ∀ (σ : St) (a0 : Nat) (r : Int32) (τ : St), F σ a0 = some (r, τ) → Call dF m7_sum [.ref a0] σ (some (.int r)) τ) : ∀ (n : Nat) (σ : St) (v0 : Nat) (v1 : Int32) (r : Int32) (τ : St), f7_product_p11 F n σ v0 v1 = some (r, τ) → Ev (dF + 3) m7_product 11 [(0, .ref v0), (1, .int v1)] [] σ (some (.int r)) τ := by
  intro n
  induction n with
  | zero =>
    intro σ v0 v1 r τ hf
    cases hf
  | succ n ih =>
    intro σ v0 v1 r τ hf
    rw [f7_product_p11] at hf
    refine ev_iload_n (j := 1) (i := 1) (q := 1) rfl rfl d7_product_11 ?_
    refine ev_sipush cs_400 d7_product_12 ?_
    rcases ite_some hf with ⟨c7, hf⟩ | ⟨c7, hf⟩
    · refine ev_icmp_ge_P (tgt := 55) c7 (by decide) d7_product_15 ?_
      refine ev_aload_n (j := 0) (i := 0) (q := 0) rfl rfl d7_product_18 ?_
      obtain ⟨h8, hf⟩ := gd_some hf
      refine ev_getI cls7 (j := 8) (by decide) rfl w280 h8 d7_product_19 ?_
      refine ev_bipush cb_42 d7_product_22 ?_
      rcases ite_some hf with ⟨c9, hf⟩ | ⟨c9, hf⟩
      · refine ev_icmp_ne_P (tgt := 55) c9 (by decide) d7_product_24 ?_
        refine ev_aload_n (j := 0) (i := 0) (q := 0) rfl rfl d7_product_27 ?_
        obtain ⟨r10, t11, k12, hf⟩ := bd_some hf
        have q13 := s7_step _ _ _ _ k12
        refine ev_callV (vs := []) (sk := []) cls7 h8 q13 (by omega) (Nat.le_of_ble_eq_true rfl) w760 w762 ws8 w9 w763 k7_step rfl (Nat.le_of_ble_eq_true rfl) d7_product_28 ?_
        refine ev_aload_n (j := 0) (i := 0) (q := 0) rfl rfl d7_product_31 ?_
        obtain ⟨r14, t15, k16, hf⟩ := bd_some hf
        have q17 := s7_factor hB hF _ _ _ _ k16
        refine ev_callV (vs := []) (sk := []) cls7 (mono_ob q13.1 h8) q17 (by omega) (Nat.le_of_ble_eq_true rfl) w788 w790 ws15 w9 w791 k7_factor rfl (Nat.le_of_ble_eq_true rfl) d7_product_32 ?_
        rcases ite_some hf with ⟨c18, hf⟩ | ⟨c18, hf⟩
        · refine ev_if_ne_P (tgt := 40) c18 (by decide) d7_product_35 ?_
          refine ev_iconst ci_0 d7_product_38 ?_
          obtain ⟨rfl, rfl⟩ := ret_some hf
          exact ev_zret rfl (by decide) d7_product_39
        · refine ev_if_ne_Q (tgt := 40) c18 (by decide) d7_product_35 ?_
          refine ev_aload_n (j := 0) (i := 0) (q := 0) rfl rfl d7_product_40 ?_
          obtain ⟨b19, e20, hf⟩ := lt_some hf
          obtain ⟨h21, hf⟩ := gd_some hf
          refine ev_getRb cls7 (j := 5) (by decide) rfl w276 (mono_ob q17.1 (mono_ob q13.1 h8)) e20 (nz_ne h21) d7_product_41 ?_
          refine ev_bipush cb_m3 d7_product_44 ?_
          obtain ⟨h22, hf⟩ := gd_some hf
          obtain ⟨r23, t24, k25, hf⟩ := bd_some hf
          have q26 := s10_emit _ _ _ _ _ k25
          refine ev_callV (vs := [.int (-3 : Int32)]) (sk := []) cls10 h22 q26 (by omega) (Nat.le_of_ble_eq_true rfl) w796 w797 w798 w10 w799 k10_emit rfl (Nat.le_of_ble_eq_true rfl) d7_product_46 ?_
          obtain ⟨y27, e28, hf⟩ := lt_some hf
          refine ev_iinc (lv2 := [(1, .int y27), (0, .ref v0)]) (i := 1) (q := 1) (v := y27) (n := 1) rfl (by rw [ci_1]; exact e28.symm) (by decide) rfl d7_product_49 ?_
          refine ev_goto (tgt := 11) (by decide) d7_product_52 ?_
          exact Ev.sub [1, 0] rfl (ih _ _ _ _ _ hf)
      · refine ev_icmp_ne_Q (tgt := 55) c9 (by decide) d7_product_24 ?_
        refine ev_iconst ci_1 d7_product_55 ?_
        obtain ⟨rfl, rfl⟩ := ret_some hf
        exact ev_zret rfl (by decide) d7_product_56
    · refine ev_icmp_ge_Q (tgt := 55) c7 (by decide) d7_product_15 ?_
      refine ev_iconst ci_1 d7_product_55 ?_
      obtain ⟨rfl, rfl⟩ := ret_some hf
      exact ev_zret rfl (by decide) d7_product_56
def f7_product (F : St → Nat → Option (Int32 × St)) (σ : St) (v0 : Nat) : Option (Int32 × St) :=
  gd (ob σ v0 7) (
  bd (f7_factor F σ v0) fun r2 t3 => (
  (if r2 = (0 : Int32) then
  some ((0 : Int32), t3)
  else
  f7_product_p11 F FU t3 v0 (0 : Int32))))
set_option maxRecDepth 50000 in
theorem s7_product {F : St → Nat → Option (Int32 × St)} {dF : Nat} (hB : 3 ≤ dF) (hF : ∀ (σ : St) (a0 : Nat) (r : Int32) (τ : St), F σ a0 = some (r, τ) → Call dF m7_sum [.ref a0] σ (some (.int r)) τ) : ∀ (σ : St) (v0 : Nat) (r : Int32) (τ : St), f7_product F σ v0 = some (r, τ) → Call (dF + 3) m7_product [.ref v0] σ (some (.int r)) τ := by
  intro σ v0 r τ hf
  unfold f7_product at hf
  refine Call.of (by decide +kernel) rfl (Nat.le_of_ble_eq_true rfl) ?_
  refine ev_aload_n (j := 0) (i := 0) (q := 0) rfl rfl d7_product_0 ?_
  obtain ⟨h1, hf⟩ := gd_some hf
  obtain ⟨r2, t3, k4, hf⟩ := bd_some hf
  have q5 := s7_factor hB hF _ _ _ _ k4
  refine ev_callV (vs := []) (sk := []) cls7 h1 q5 (by omega) (Nat.le_of_ble_eq_true rfl) w788 w790 ws15 w9 w791 k7_factor rfl (Nat.le_of_ble_eq_true rfl) d7_product_1 ?_
  rcases ite_some hf with ⟨c6, hf⟩ | ⟨c6, hf⟩
  · refine ev_if_ne_P (tgt := 9) c6 (by decide) d7_product_4 ?_
    refine ev_iconst ci_0 d7_product_7 ?_
    obtain ⟨rfl, rfl⟩ := ret_some hf
    exact ev_zret rfl (by decide) d7_product_8
  · refine ev_if_ne_Q (tgt := 9) c6 (by decide) d7_product_4 ?_
    refine ev_iconst ci_0 d7_product_9 ?_
    refine ev_istore_n (lv2 := [(1, .int (0 : Int32)), (0, .ref v0)]) (j := 1) (i := 1) rfl (by decide) rfl d7_product_10 ?_
    exact Ev.sub [1, 0] rfl (s7_product_p11 hB hF FU _ _ _ _ _ hf)
def f7_sum_p51 (F : St → Nat → Option (Int32 × St)) (K11 : St → Nat → Int32 → Option (Int32 × St)) (σ : St) (v0 : Nat) (v1 : Int32) (x0 : Int32) : Option (Int32 × St) :=
  gd (ob σ v0 7) (
  bd (f7_step σ v0) fun r14 t15 => (
  bd (f7_product F t15 v0) fun r18 t19 => (
  (if r18 = (0 : Int32) then
  some ((0 : Int32), t19)
  else
  lt (sR t19 v0 5) fun b23 => (
  gd (nz b23) (
  gd (ob t19 b23 10) (
  bd (f10_emit t19 b23 x0) fun r27 t28 => (
  lt (v1 + (1 : Int32)) fun y31 => (
  K11 t28 v0 y31)))))))))
set_option maxRecDepth 20000 in
theorem s7_sum_p51 {F : St → Nat → Option (Int32 × St)} {dF : Nat} (hB : 3 ≤ dF) (hF : ∀ (σ : St) (a0 : Nat) (r : Int32) (τ : St), F σ a0 = some (r, τ) → Call dF m7_sum [.ref a0] σ (some (.int r)) τ) {K11 : St → Nat → Int32 → Option (Int32 × St)} (hK11 : ∀ (σ : St) (v0 : Nat) (v1 : Int32) (r : Int32) (τ : St), K11 σ v0 v1 = some (r, τ) → Ev (dF + 4) m7_sum 11 [(0, .ref v0), (1, .int v1)] [] σ (some (.int r)) τ) : ∀ (σ : St) (v0 : Nat) (v1 : Int32) (x0 : Int32) (r : Int32) (τ : St), f7_sum_p51 F K11 σ v0 v1 x0 = some (r, τ) → Ev (dF + 4) m7_sum 51 [(0, .ref v0), (1, .int v1)] [.int x0] σ (some (.int r)) τ := by
  intro σ v0 v1 x0 r τ hf
  unfold f7_sum_p51 at hf
  refine ev_istore_n (lv2 := [(2, .int x0), (0, .ref v0), (1, .int v1)]) (j := 2) (i := 2) rfl (by decide) rfl d7_sum_51 ?_
  refine ev_aload_n (j := 0) (i := 0) (q := 1) rfl rfl d7_sum_52 ?_
  obtain ⟨h13, hf⟩ := gd_some hf
  obtain ⟨r14, t15, k16, hf⟩ := bd_some hf
  have q17 := s7_step _ _ _ _ k16
  refine ev_callV (vs := []) (sk := []) cls7 h13 q17 (by omega) (Nat.le_of_ble_eq_true rfl) w760 w762 ws8 w9 w763 k7_step rfl (Nat.le_of_ble_eq_true rfl) d7_sum_53 ?_
  refine ev_aload_n (j := 0) (i := 0) (q := 1) rfl rfl d7_sum_56 ?_
  obtain ⟨r18, t19, k20, hf⟩ := bd_some hf
  have q21 := s7_product hB hF _ _ _ _ k20
  refine ev_callV (vs := []) (sk := []) cls7 (mono_ob q17.1 h13) q21 (by omega) (Nat.le_of_ble_eq_true rfl) w784 w786 ws14 w9 w787 k7_product rfl (Nat.le_of_ble_eq_true rfl) d7_sum_57 ?_
  rcases ite_some hf with ⟨c22, hf⟩ | ⟨c22, hf⟩
  · refine ev_if_ne_P (tgt := 65) c22 (by decide) d7_sum_60 ?_
    refine ev_iconst ci_0 d7_sum_63 ?_
    obtain ⟨rfl, rfl⟩ := ret_some hf
    exact ev_zret rfl (by decide) d7_sum_64
  · refine ev_if_ne_Q (tgt := 65) c22 (by decide) d7_sum_60 ?_
    refine ev_aload_n (j := 0) (i := 0) (q := 1) rfl rfl d7_sum_65 ?_
    obtain ⟨b23, e24, hf⟩ := lt_some hf
    obtain ⟨h25, hf⟩ := gd_some hf
    refine ev_getRb cls7 (j := 5) (by decide) rfl w276 (mono_ob q21.1 (mono_ob q17.1 h13)) e24 (nz_ne h25) d7_sum_66 ?_
    refine ev_iload_n (j := 2) (i := 2) (q := 0) rfl rfl d7_sum_69 ?_
    obtain ⟨h26, hf⟩ := gd_some hf
    obtain ⟨r27, t28, k29, hf⟩ := bd_some hf
    have q30 := s10_emit _ _ _ _ _ k29
    refine ev_callV (vs := [.int x0]) (sk := []) cls10 h26 q30 (by omega) (Nat.le_of_ble_eq_true rfl) w796 w797 w798 w10 w799 k10_emit rfl (Nat.le_of_ble_eq_true rfl) d7_sum_70 ?_
    obtain ⟨y31, e32, hf⟩ := lt_some hf
    refine ev_iinc (lv2 := [(1, .int y31), (2, .int x0), (0, .ref v0)]) (i := 1) (q := 2) (v := y31) (n := 1) rfl (by rw [ci_1]; exact e32.symm) (by decide) rfl d7_sum_73 ?_
    refine ev_goto (tgt := 11) (by decide) d7_sum_76 ?_
    exact Ev.sub [2, 0] rfl (hK11 _ _ _ _ _ hf)
def f7_sum_p36 (F : St → Nat → Option (Int32 × St)) (K11 : St → Nat → Int32 → Option (Int32 × St)) (σ : St) (v0 : Nat) (v1 : Int32) : Option (Int32 × St) :=
  gd (ob σ v0 7) (
  (if (sI σ v0 8) = (43 : Int32) then
  f7_sum_p51 F K11 σ v0 v1 (-1 : Int32)
  else
  f7_sum_p51 F K11 σ v0 v1 (-2 : Int32)))
set_option maxRecDepth 20000 in
theorem s7_sum_p36 {F : St → Nat → Option (Int32 × St)} {dF : Nat} (hB : 3 ≤ dF) (hF : ∀ (σ : St) (a0 : Nat) (r : Int32) (τ : St), F σ a0 = some (r, τ) → Call dF m7_sum [.ref a0] σ (some (.int r)) τ) {K11 : St → Nat → Int32 → Option (Int32 × St)} (hK11 : ∀ (σ : St) (v0 : Nat) (v1 : Int32) (r : Int32) (τ : St), K11 σ v0 v1 = some (r, τ) → Ev (dF + 4) m7_sum 11 [(0, .ref v0), (1, .int v1)] [] σ (some (.int r)) τ) : ∀ (σ : St) (v0 : Nat) (v1 : Int32) (r : Int32) (τ : St), f7_sum_p36 F K11 σ v0 v1 = some (r, τ) → Ev (dF + 4) m7_sum 36 [(0, .ref v0), (1, .int v1)] [] σ (some (.int r)) τ := by
  intro σ v0 v1 r τ hf
  unfold f7_sum_p36 at hf
  refine ev_aload_n (j := 0) (i := 0) (q := 0) rfl rfl d7_sum_36 ?_
  obtain ⟨h11, hf⟩ := gd_some hf
  refine ev_getI cls7 (j := 8) (by decide) rfl w280 h11 d7_sum_37 ?_
  refine ev_bipush cb_43 d7_sum_40 ?_
  rcases ite_some hf with ⟨c12, hf⟩ | ⟨c12, hf⟩
  · refine ev_icmp_ne_P (tgt := 49) c12 (by decide) d7_sum_42 ?_
    refine ev_iconst ci_m1 d7_sum_45 ?_
    refine ev_goto (tgt := 51) (by decide) d7_sum_46 ?_
    exact Ev.sub [0, 1] rfl (s7_sum_p51 hB hF hK11 _ _ _ _ _ _ hf)
  · refine ev_icmp_ne_Q (tgt := 49) c12 (by decide) d7_sum_42 ?_
    refine ev_bipush cb_m2 d7_sum_49 ?_
    exact Ev.sub [0, 1] rfl (s7_sum_p51 hB hF hK11 _ _ _ _ _ _ hf)
def f7_sum_p11 (F : St → Nat → Option (Int32 × St)) : Nat → St → Nat → Int32 → Option (Int32 × St)
  | 0, _, _, _ => none
  | n + 1, σ, v0, v1 =>
  (if v1 < (400 : Int32) then
  gd (ob σ v0 7) (
  (if (sI σ v0 8) = (43 : Int32) then
  f7_sum_p36 F (f7_sum_p11 F n) σ v0 v1
  else
  (if (sI σ v0 8) = (45 : Int32) then
  f7_sum_p36 F (f7_sum_p11 F n) σ v0 v1
  else
  some ((1 : Int32), σ))))
  else
  some ((1 : Int32), σ))
set_option maxRecDepth 20000 in
theorem s7_sum_p11 {F : St → Nat → Option (Int32 × St)} {dF : Nat} (hB : 3 ≤ dF) (hF : ∀ (σ : St) (a0 : Nat) (r : Int32) (τ : St), F σ a0 = some (r, τ) → Call dF m7_sum [.ref a0] σ (some (.int r)) τ) : ∀ (n : Nat) (σ : St) (v0 : Nat) (v1 : Int32) (r : Int32) (τ : St), f7_sum_p11 F n σ v0 v1 = some (r, τ) → Ev (dF + 4) m7_sum 11 [(0, .ref v0), (1, .int v1)] [] σ (some (.int r)) τ := by
  intro n
  induction n with
  | zero =>
    intro σ v0 v1 r τ hf
    cases hf
  | succ n ih =>
    intro σ v0 v1 r τ hf
    rw [f7_sum_p11] at hf
    refine ev_iload_n (j := 1) (i := 1) (q := 1) rfl rfl d7_sum_11 ?_
    refine ev_sipush cs_400 d7_sum_12 ?_
    rcases ite_some hf with ⟨c7, hf⟩ | ⟨c7, hf⟩
    · refine ev_icmp_ge_P (tgt := 79) c7 (by decide) d7_sum_15 ?_
      refine ev_aload_n (j := 0) (i := 0) (q := 0) rfl rfl d7_sum_18 ?_
      obtain ⟨h8, hf⟩ := gd_some hf
      refine ev_getI cls7 (j := 8) (by decide) rfl w280 h8 d7_sum_19 ?_
      refine ev_bipush cb_43 d7_sum_22 ?_
      rcases ite_some hf with ⟨c9, hf⟩ | ⟨c9, hf⟩
      · refine ev_icmp_eq_P (tgt := 36) c9 (by decide) d7_sum_24 ?_
        exact Ev.sub [0, 1] rfl (s7_sum_p36 hB hF ih _ _ _ _ _ hf)
      · refine ev_icmp_eq_Q (tgt := 36) c9 (by decide) d7_sum_24 ?_
        refine ev_aload_n (j := 0) (i := 0) (q := 0) rfl rfl d7_sum_27 ?_
        refine ev_getI cls7 (j := 8) (by decide) rfl w280 h8 d7_sum_28 ?_
        refine ev_bipush cb_45 d7_sum_31 ?_
        rcases ite_some hf with ⟨c10, hf⟩ | ⟨c10, hf⟩
        · refine ev_icmp_ne_P (tgt := 79) c10 (by decide) d7_sum_33 ?_
          exact Ev.sub [0, 1] rfl (s7_sum_p36 hB hF ih _ _ _ _ _ hf)
        · refine ev_icmp_ne_Q (tgt := 79) c10 (by decide) d7_sum_33 ?_
          refine ev_iconst ci_1 d7_sum_79 ?_
          obtain ⟨rfl, rfl⟩ := ret_some hf
          exact ev_zret rfl (by decide) d7_sum_80
    · refine ev_icmp_ge_Q (tgt := 79) c7 (by decide) d7_sum_15 ?_
      refine ev_iconst ci_1 d7_sum_79 ?_
      obtain ⟨rfl, rfl⟩ := ret_some hf
      exact ev_zret rfl (by decide) d7_sum_80
def f7_sum_b (F : St → Nat → Option (Int32 × St)) (σ : St) (v0 : Nat) : Option (Int32 × St) :=
  gd (ob σ v0 7) (
  bd (f7_product F σ v0) fun r2 t3 => (
  (if r2 = (0 : Int32) then
  some ((0 : Int32), t3)
  else
  f7_sum_p11 F FU t3 v0 (0 : Int32))))
set_option maxRecDepth 50000 in
theorem s7_sum_b {F : St → Nat → Option (Int32 × St)} {dF : Nat} (hB : 3 ≤ dF) (hF : ∀ (σ : St) (a0 : Nat) (r : Int32) (τ : St), F σ a0 = some (r, τ) → Call dF m7_sum [.ref a0] σ (some (.int r)) τ) : ∀ (σ : St) (v0 : Nat) (r : Int32) (τ : St), f7_sum_b F σ v0 = some (r, τ) → Call (dF + 4) m7_sum [.ref v0] σ (some (.int r)) τ := by
  intro σ v0 r τ hf
  unfold f7_sum_b at hf
  refine Call.of (by decide +kernel) rfl (Nat.le_of_ble_eq_true rfl) ?_
  refine ev_aload_n (j := 0) (i := 0) (q := 0) rfl rfl d7_sum_0 ?_
  obtain ⟨h1, hf⟩ := gd_some hf
  obtain ⟨r2, t3, k4, hf⟩ := bd_some hf
  have q5 := s7_product hB hF _ _ _ _ k4
  refine ev_callV (vs := []) (sk := []) cls7 h1 q5 (by omega) (Nat.le_of_ble_eq_true rfl) w784 w786 ws14 w9 w787 k7_product rfl (Nat.le_of_ble_eq_true rfl) d7_sum_1 ?_
  rcases ite_some hf with ⟨c6, hf⟩ | ⟨c6, hf⟩
  · refine ev_if_ne_P (tgt := 9) c6 (by decide) d7_sum_4 ?_
    refine ev_iconst ci_0 d7_sum_7 ?_
    obtain ⟨rfl, rfl⟩ := ret_some hf
    exact ev_zret rfl (by decide) d7_sum_8
  · refine ev_if_ne_Q (tgt := 9) c6 (by decide) d7_sum_4 ?_
    refine ev_iconst ci_0 d7_sum_9 ?_
    refine ev_istore_n (lv2 := [(1, .int (0 : Int32)), (0, .ref v0)]) (j := 1) (i := 1) rfl (by decide) rfl d7_sum_10 ?_
    exact Ev.sub [1, 0] rfl (s7_sum_p11 hB hF FU _ _ _ _ _ hf)
def f7_sum : Nat → St → Nat → Option (Int32 × St)
  | 0, _, _ => none
  | n + 1, σ, a0 => f7_sum_b (f7_sum n) σ a0
theorem s7_sum : ∀ (n : Nat) (σ : St) (a0 : Nat) (r : Int32) (τ : St), f7_sum n σ a0 = some (r, τ) → Call (3 + 4 * n) m7_sum [.ref a0] σ (some (.int r)) τ := by
  intro n
  induction n with
  | zero =>
    intro σ a0 r τ hf
    cases hf
  | succ n ih =>
    intro σ a0 r τ hf
    rw [f7_sum] at hf
    have := s7_sum_b (F := f7_sum n) (dF := 3 + 4 * n) (by omega) ih σ a0 r τ hf
    rw [show 3 + 4 * (n + 1) = 3 + 4 * n + 4 by omega]
    exact this
abbrev m7_comparison : MD := ("MillBoats$Reader", ⟨"MillBoats$Reader", "comparison", "()Z"⟩, prog_9_method_24_code, 2, (some Jvm.ClassFile.FieldType.boolean))
theorem k7_comparison : okY m7_comparison.2.1 0 := ⟨by decide +kernel, by decide +kernel, by decide +kernel⟩
def f7_comparison_p79 (σ : St) (x0 : Int32) (x1 : Nat) : Option (Int32 × St) :=
  gd (ob σ x1 10) (
  bd (f10_emit σ x1 x0) fun r33 t34 => (
  some ((1 : Int32), t34)))
set_option maxRecDepth 20000 in
theorem s7_comparison_p79 : ∀ (σ : St) (x0 : Int32) (x1 : Nat) (r : Int32) (τ : St), f7_comparison_p79 σ x0 x1 = some (r, τ) → Ev 36 m7_comparison 79 [] [.int x0, .ref x1] σ (some (.int r)) τ := by
  intro σ x0 x1 r τ hf
  unfold f7_comparison_p79 at hf
  obtain ⟨h32, hf⟩ := gd_some hf
  obtain ⟨r33, t34, k35, hf⟩ := bd_some hf
  have q36 := s10_emit _ _ _ _ _ k35
  refine ev_callV (vs := [.int x0]) (sk := []) cls10 h32 q36 (by decide) (Nat.le_of_ble_eq_true rfl) w796 w797 w798 w10 w799 k10_emit rfl (Nat.le_of_ble_eq_true rfl) d7_comparison_79 ?_
  refine ev_iconst ci_1 d7_comparison_82 ?_
  obtain ⟨rfl, rfl⟩ := ret_some hf
  exact ev_zret rfl (by decide) d7_comparison_83
def f7_comparison_p38 (σ : St) (v0 : Nat) (v1 : Int32) : Option (Int32 × St) :=
  gd (ob σ v0 7) (
  bd (f7_step σ v0) fun r18 t19 => (
  bd (f7_sum 8 t19 v0) fun r22 t23 => (
  (if r22 = (0 : Int32) then
  some ((0 : Int32), t23)
  else
  lt (sR t23 v0 5) fun b27 => (
  gd (nz b27) (
  (if v1 = (60 : Int32) then
  f7_comparison_p79 t23 (-4 : Int32) b27
  else
  (if v1 = (62 : Int32) then
  f7_comparison_p79 t23 (-5 : Int32) b27
  else
  f7_comparison_p79 t23 (-6 : Int32) b27))))))))
set_option maxRecDepth 20000 in
theorem s7_comparison_p38 : ∀ (σ : St) (v0 : Nat) (v1 : Int32) (r : Int32) (τ : St), f7_comparison_p38 σ v0 v1 = some (r, τ) → Ev 36 m7_comparison 38 [(0, .ref v0), (1, .int v1)] [] σ (some (.int r)) τ := by
  intro σ v0 v1 r τ hf
  unfold f7_comparison_p38 at hf
  refine ev_aload_n (j := 0) (i := 0) (q := 0) rfl rfl d7_comparison_38 ?_
  obtain ⟨h17, hf⟩ := gd_some hf
  obtain ⟨r18, t19, k20, hf⟩ := bd_some hf
  have q21 := s7_step _ _ _ _ k20
  refine ev_callV (vs := []) (sk := []) cls7 h17 q21 (by decide) (Nat.le_of_ble_eq_true rfl) w760 w762 ws8 w9 w763 k7_step rfl (Nat.le_of_ble_eq_true rfl) d7_comparison_39 ?_
  refine ev_aload_n (j := 0) (i := 0) (q := 0) rfl rfl d7_comparison_42 ?_
  obtain ⟨r22, t23, k24, hf⟩ := bd_some hf
  have q25 := s7_sum 8 _ _ _ _ k24
  refine ev_callV (vs := []) (sk := []) cls7 (mono_ob q21.1 h17) q25 (by omega) (Nat.le_of_ble_eq_true rfl) w780 w782 ws13 w9 w783 k7_sum rfl (Nat.le_of_ble_eq_true rfl) d7_comparison_43 ?_
  rcases ite_some hf with ⟨c26, hf⟩ | ⟨c26, hf⟩
  · refine ev_if_ne_P (tgt := 51) c26 (by decide) d7_comparison_46 ?_
    refine ev_iconst ci_0 d7_comparison_49 ?_
    obtain ⟨rfl, rfl⟩ := ret_some hf
    exact ev_zret rfl (by decide) d7_comparison_50
  · refine ev_if_ne_Q (tgt := 51) c26 (by decide) d7_comparison_46 ?_
    refine ev_aload_n (j := 0) (i := 0) (q := 0) rfl rfl d7_comparison_51 ?_
    obtain ⟨b27, e28, hf⟩ := lt_some hf
    obtain ⟨h29, hf⟩ := gd_some hf
    refine ev_getRb cls7 (j := 5) (by decide) rfl w276 (mono_ob q25.1 (mono_ob q21.1 h17)) e28 (nz_ne h29) d7_comparison_52 ?_
    refine ev_iload_n (j := 1) (i := 1) (q := 1) rfl rfl d7_comparison_55 ?_
    refine ev_bipush cb_60 d7_comparison_56 ?_
    rcases ite_some hf with ⟨c30, hf⟩ | ⟨c30, hf⟩
    · refine ev_icmp_ne_P (tgt := 66) c30 (by decide) d7_comparison_58 ?_
      refine ev_bipush cb_m4 d7_comparison_61 ?_
      refine ev_goto (tgt := 79) (by decide) d7_comparison_63 ?_
      exact Ev.sub [] rfl (s7_comparison_p79 _ _ _ _ _ hf)
    · refine ev_icmp_ne_Q (tgt := 66) c30 (by decide) d7_comparison_58 ?_
      refine ev_iload_n (j := 1) (i := 1) (q := 1) rfl rfl d7_comparison_66 ?_
      refine ev_bipush cb_62 d7_comparison_67 ?_
      rcases ite_some hf with ⟨c31, hf⟩ | ⟨c31, hf⟩
      · refine ev_icmp_ne_P (tgt := 77) c31 (by decide) d7_comparison_69 ?_
        refine ev_bipush cb_m5 d7_comparison_72 ?_
        refine ev_goto (tgt := 79) (by decide) d7_comparison_74 ?_
        exact Ev.sub [] rfl (s7_comparison_p79 _ _ _ _ _ hf)
      · refine ev_icmp_ne_Q (tgt := 77) c31 (by decide) d7_comparison_69 ?_
        refine ev_bipush cb_m6 d7_comparison_77 ?_
        exact Ev.sub [] rfl (s7_comparison_p79 _ _ _ _ _ hf)
def f7_comparison (σ : St) (v0 : Nat) : Option (Int32 × St) :=
  gd (ob σ v0 7) (
  bd (f7_sum 8 σ v0) fun r2 t3 => (
  (if r2 = (0 : Int32) then
  some ((0 : Int32), t3)
  else
  lt (sI t3 v0 8) fun y7 => (
  (if y7 = (60 : Int32) then
  f7_comparison_p38 t3 v0 y7
  else
  (if y7 = (62 : Int32) then
  f7_comparison_p38 t3 v0 y7
  else
  (if y7 = (61 : Int32) then
  f7_comparison_p38 t3 v0 y7
  else
  bd (f7_refuse t3 v0 (1 : Int32)) fun r12 t13 => (
  gd (isB r12) (
  some (r12, t13))))))))))
set_option maxRecDepth 50000 in
theorem s7_comparison : ∀ (σ : St) (v0 : Nat) (r : Int32) (τ : St), f7_comparison σ v0 = some (r, τ) → Call 36 m7_comparison [.ref v0] σ (some (.int r)) τ := by
  intro σ v0 r τ hf
  unfold f7_comparison at hf
  refine Call.of (by decide +kernel) rfl (Nat.le_of_ble_eq_true rfl) ?_
  refine ev_aload_n (j := 0) (i := 0) (q := 0) rfl rfl d7_comparison_0 ?_
  obtain ⟨h1, hf⟩ := gd_some hf
  obtain ⟨r2, t3, k4, hf⟩ := bd_some hf
  have q5 := s7_sum 8 _ _ _ _ k4
  refine ev_callV (vs := []) (sk := []) cls7 h1 q5 (by omega) (Nat.le_of_ble_eq_true rfl) w780 w782 ws13 w9 w783 k7_sum rfl (Nat.le_of_ble_eq_true rfl) d7_comparison_1 ?_
  rcases ite_some hf with ⟨c6, hf⟩ | ⟨c6, hf⟩
  · refine ev_if_ne_P (tgt := 9) c6 (by decide) d7_comparison_4 ?_
    refine ev_iconst ci_0 d7_comparison_7 ?_
    obtain ⟨rfl, rfl⟩ := ret_some hf
    exact ev_zret rfl (by decide) d7_comparison_8
  · refine ev_if_ne_Q (tgt := 9) c6 (by decide) d7_comparison_4 ?_
    refine ev_aload_n (j := 0) (i := 0) (q := 0) rfl rfl d7_comparison_9 ?_
    refine ev_getI cls7 (j := 8) (by decide) rfl w280 (mono_ob q5.1 h1) d7_comparison_10 ?_
    obtain ⟨y7, e8, hf⟩ := lt_some hf
    refine ev_nmI e8 ?_
    refine ev_istore_n (lv2 := [(1, .int y7), (0, .ref v0)]) (j := 1) (i := 1) rfl (by decide) rfl d7_comparison_13 ?_
    refine ev_iload_n (j := 1) (i := 1) (q := 0) rfl rfl d7_comparison_14 ?_
    refine ev_bipush cb_60 d7_comparison_15 ?_
    rcases ite_some hf with ⟨c9, hf⟩ | ⟨c9, hf⟩
    · refine ev_icmp_eq_P (tgt := 38) c9 (by decide) d7_comparison_17 ?_
      exact Ev.sub [1, 0] rfl (s7_comparison_p38 _ _ _ _ _ hf)
    · refine ev_icmp_eq_Q (tgt := 38) c9 (by decide) d7_comparison_17 ?_
      refine ev_iload_n (j := 1) (i := 1) (q := 0) rfl rfl d7_comparison_20 ?_
      refine ev_bipush cb_62 d7_comparison_21 ?_
      rcases ite_some hf with ⟨c10, hf⟩ | ⟨c10, hf⟩
      · refine ev_icmp_eq_P (tgt := 38) c10 (by decide) d7_comparison_23 ?_
        exact Ev.sub [1, 0] rfl (s7_comparison_p38 _ _ _ _ _ hf)
      · refine ev_icmp_eq_Q (tgt := 38) c10 (by decide) d7_comparison_23 ?_
        refine ev_iload_n (j := 1) (i := 1) (q := 0) rfl rfl d7_comparison_26 ?_
        refine ev_bipush cb_61 d7_comparison_27 ?_
        rcases ite_some hf with ⟨c11, hf⟩ | ⟨c11, hf⟩
        · refine ev_icmp_eq_P (tgt := 38) c11 (by decide) d7_comparison_29 ?_
          exact Ev.sub [1, 0] rfl (s7_comparison_p38 _ _ _ _ _ hf)
        · refine ev_icmp_eq_Q (tgt := 38) c11 (by decide) d7_comparison_29 ?_
          refine ev_aload_n (j := 0) (i := 0) (q := 1) rfl rfl d7_comparison_32 ?_
          refine ev_iconst ci_1 d7_comparison_33 ?_
          obtain ⟨r12, t13, k14, hf⟩ := bd_some hf
          have q15 := s7_refuse _ _ _ _ _ k14
          refine ev_callV (vs := [.int (1 : Int32)]) (sk := []) cls7 (mono_ob q5.1 h1) q15 (by decide) (Nat.le_of_ble_eq_true rfl) w756 w758 ws7 w9 w759 k7_refuse rfl (Nat.le_of_ble_eq_true rfl) d7_comparison_34 ?_
          obtain ⟨h16, hf⟩ := gd_some hf
          obtain ⟨rfl, rfl⟩ := ret_some hf
          exact ev_zret rfl (narB h16) d7_comparison_37
abbrev m7_bracketedCond : MD := ("MillBoats$Reader", ⟨"MillBoats$Reader", "bracketedCond", "()Z"⟩, prog_9_method_23_code, 1, (some Jvm.ClassFile.FieldType.boolean))
theorem k7_bracketedCond : okY m7_bracketedCond.2.1 0 := ⟨by decide +kernel, by decide +kernel, by decide +kernel⟩
abbrev m7_part : MD := ("MillBoats$Reader", ⟨"MillBoats$Reader", "part", "()Z"⟩, prog_9_method_22_code, 3, (some Jvm.ClassFile.FieldType.boolean))
theorem k7_part : okY m7_part.2.1 0 := ⟨by decide +kernel, by decide +kernel, by decide +kernel⟩
abbrev m7_both : MD := ("MillBoats$Reader", ⟨"MillBoats$Reader", "both", "()Z"⟩, prog_9_method_21_code, 2, (some Jvm.ClassFile.FieldType.boolean))
theorem k7_both : okY m7_both.2.1 0 := ⟨by decide +kernel, by decide +kernel, by decide +kernel⟩
abbrev m7_cond : MD := ("MillBoats$Reader", ⟨"MillBoats$Reader", "cond", "()Z"⟩, prog_9_method_20_code, 2, (some Jvm.ClassFile.FieldType.boolean))
theorem k7_cond : okY m7_cond.2.1 0 := ⟨by decide +kernel, by decide +kernel, by decide +kernel⟩
def f7_bracketedCond (F : St → Nat → Option (Int32 × St)) (σ : St) (v0 : Nat) : Option (Int32 × St) :=
  gd (ob σ v0 7) (
  (if (sI σ v0 10) < (4 : Int32) then
  lt (wI σ v0 10 ((sI σ v0 10) + (1 : Int32))) fun t3 => (
  bd (f7_step t3 v0) fun r5 t6 => (
  bd (F t6 v0) fun r9 t10 => (
  (if r9 = (0 : Int32) then
  some ((0 : Int32), t10)
  else
  (if (sI t10 v0 8) = (93 : Int32) then
  lt (wI t10 v0 10 ((sI t10 v0 10) - (1 : Int32))) fun t15 => (
  bd (f7_step t15 v0) fun r17 t18 => (
  some ((1 : Int32), t18)))
  else
  bd (f7_refuse t10 v0 (1 : Int32)) fun r21 t22 => (
  gd (isB r21) (
  some (r21, t22))))))))
  else
  bd (f7_refuse σ v0 (4 : Int32)) fun r26 t27 => (
  gd (isB r26) (
  some (r26, t27)))))
set_option maxRecDepth 50000 in
theorem s7_bracketedCond {F : St → Nat → Option (Int32 × St)} {dF : Nat} (hB : 37 ≤ dF) (hF : ∀ (σ : St) (a0 : Nat) (r : Int32) (τ : St), F σ a0 = some (r, τ) → Call dF m7_cond [.ref a0] σ (some (.int r)) τ) : ∀ (σ : St) (v0 : Nat) (r : Int32) (τ : St), f7_bracketedCond F σ v0 = some (r, τ) → Call (dF + 1) m7_bracketedCond [.ref v0] σ (some (.int r)) τ := by
  intro σ v0 r τ hf
  unfold f7_bracketedCond at hf
  refine Call.of (by decide +kernel) rfl (Nat.le_of_ble_eq_true rfl) ?_
  refine ev_aload_n (j := 0) (i := 0) (q := 0) rfl rfl d7_bracketedCond_0 ?_
  obtain ⟨h1, hf⟩ := gd_some hf
  refine ev_getI cls7 (j := 10) (by decide) rfl w282 h1 d7_bracketedCond_1 ?_
  refine ev_iconst ci_4 d7_bracketedCond_4 ?_
  rcases ite_some hf with ⟨c2, hf⟩ | ⟨c2, hf⟩
  · refine ev_icmp_lt_P (tgt := 14) c2 (by decide) d7_bracketedCond_5 ?_
    refine ev_aload_n (j := 0) (i := 0) (q := 0) rfl rfl d7_bracketedCond_14 ?_
    refine ev_dup rfl d7_bracketedCond_15 ?_
    refine ev_getI cls7 (j := 10) (by decide) rfl w282 h1 d7_bracketedCond_16 ?_
    refine ev_iconst ci_1 d7_bracketedCond_19 ?_
    refine ev_iadd d7_bracketedCond_20 ?_
    obtain ⟨t3, e4, hf⟩ := lt_some hf
    refine ev_putI cls7 (j := 10) (by decide) rfl rfl w282 h1 (fun _ => ⟨rfl, rfl⟩) d7_bracketedCond_21 (ev_nmS e4 ?_)
    refine ev_aload_n (j := 0) (i := 0) (q := 0) rfl rfl d7_bracketedCond_24 ?_
    obtain ⟨r5, t6, k7, hf⟩ := bd_some hf
    have q8 := s7_step _ _ _ _ k7
    refine ev_callV (vs := []) (sk := []) cls7 (mono_ob (mono_eI e4) h1) q8 (by omega) (Nat.le_of_ble_eq_true rfl) w760 w762 ws8 w9 w763 k7_step rfl (Nat.le_of_ble_eq_true rfl) d7_bracketedCond_25 ?_
    refine ev_aload_n (j := 0) (i := 0) (q := 0) rfl rfl d7_bracketedCond_28 ?_
    obtain ⟨r9, t10, k11, hf⟩ := bd_some hf
    have q12 := hF _ _ _ _ k11
    refine ev_callV (vs := []) (sk := []) cls7 (mono_ob q8.1 (mono_ob (mono_eI e4) h1)) q12 (by omega) (Nat.le_of_ble_eq_true rfl) w812 w814 ws19 w9 w815 k7_cond rfl (Nat.le_of_ble_eq_true rfl) d7_bracketedCond_29 ?_
    rcases ite_some hf with ⟨c13, hf⟩ | ⟨c13, hf⟩
    · refine ev_if_ne_P (tgt := 37) c13 (by decide) d7_bracketedCond_32 ?_
      refine ev_iconst ci_0 d7_bracketedCond_35 ?_
      obtain ⟨rfl, rfl⟩ := ret_some hf
      exact ev_zret rfl (by decide) d7_bracketedCond_36
    · refine ev_if_ne_Q (tgt := 37) c13 (by decide) d7_bracketedCond_32 ?_
      refine ev_aload_n (j := 0) (i := 0) (q := 0) rfl rfl d7_bracketedCond_37 ?_
      refine ev_getI cls7 (j := 8) (by decide) rfl w280 (mono_ob q12.1 (mono_ob q8.1 (mono_ob (mono_eI e4) h1))) d7_bracketedCond_38 ?_
      refine ev_bipush cb_93 d7_bracketedCond_41 ?_
      rcases ite_some hf with ⟨c14, hf⟩ | ⟨c14, hf⟩
      · refine ev_icmp_eq_P (tgt := 52) c14 (by decide) d7_bracketedCond_43 ?_
        refine ev_aload_n (j := 0) (i := 0) (q := 0) rfl rfl d7_bracketedCond_52 ?_
        refine ev_dup rfl d7_bracketedCond_53 ?_
        refine ev_getI cls7 (j := 10) (by decide) rfl w282 (mono_ob q12.1 (mono_ob q8.1 (mono_ob (mono_eI e4) h1))) d7_bracketedCond_54 ?_
        refine ev_iconst ci_1 d7_bracketedCond_57 ?_
        refine ev_isub d7_bracketedCond_58 ?_
        obtain ⟨t15, e16, hf⟩ := lt_some hf
        refine ev_putI cls7 (j := 10) (by decide) rfl rfl w282 (mono_ob q12.1 (mono_ob q8.1 (mono_ob (mono_eI e4) h1))) (fun _ => ⟨rfl, rfl⟩) d7_bracketedCond_59 (ev_nmS e16 ?_)
        refine ev_aload_n (j := 0) (i := 0) (q := 0) rfl rfl d7_bracketedCond_62 ?_
        obtain ⟨r17, t18, k19, hf⟩ := bd_some hf
        have q20 := s7_step _ _ _ _ k19
        refine ev_callV (vs := []) (sk := []) cls7 (mono_ob (mono_eI e16) (mono_ob q12.1 (mono_ob q8.1 (mono_ob (mono_eI e4) h1)))) q20 (by omega) (Nat.le_of_ble_eq_true rfl) w760 w762 ws8 w9 w763 k7_step rfl (Nat.le_of_ble_eq_true rfl) d7_bracketedCond_63 ?_
        refine ev_iconst ci_1 d7_bracketedCond_66 ?_
        obtain ⟨rfl, rfl⟩ := ret_some hf
        exact ev_zret rfl (by decide) d7_bracketedCond_67
      · refine ev_icmp_eq_Q (tgt := 52) c14 (by decide) d7_bracketedCond_43 ?_
        refine ev_aload_n (j := 0) (i := 0) (q := 0) rfl rfl d7_bracketedCond_46 ?_
        refine ev_iconst ci_1 d7_bracketedCond_47 ?_
        obtain ⟨r21, t22, k23, hf⟩ := bd_some hf
        have q24 := s7_refuse _ _ _ _ _ k23
        refine ev_callV (vs := [.int (1 : Int32)]) (sk := []) cls7 (mono_ob q12.1 (mono_ob q8.1 (mono_ob (mono_eI e4) h1))) q24 (by omega) (Nat.le_of_ble_eq_true rfl) w756 w758 ws7 w9 w759 k7_refuse rfl (Nat.le_of_ble_eq_true rfl) d7_bracketedCond_48 ?_
        obtain ⟨h25, hf⟩ := gd_some hf
        obtain ⟨rfl, rfl⟩ := ret_some hf
        exact ev_zret rfl (narB h25) d7_bracketedCond_51
  · refine ev_icmp_lt_Q (tgt := 14) c2 (by decide) d7_bracketedCond_5 ?_
    refine ev_aload_n (j := 0) (i := 0) (q := 0) rfl rfl d7_bracketedCond_8 ?_
    refine ev_iconst ci_4 d7_bracketedCond_9 ?_
    obtain ⟨r26, t27, k28, hf⟩ := bd_some hf
    have q29 := s7_refuse _ _ _ _ _ k28
    refine ev_callV (vs := [.int (4 : Int32)]) (sk := []) cls7 h1 q29 (by omega) (Nat.le_of_ble_eq_true rfl) w756 w758 ws7 w9 w759 k7_refuse rfl (Nat.le_of_ble_eq_true rfl) d7_bracketedCond_10 ?_
    obtain ⟨h30, hf⟩ := gd_some hf
    obtain ⟨rfl, rfl⟩ := ret_some hf
    exact ev_zret rfl (narB h30) d7_bracketedCond_13
def f7_part_p30 (F : St → Nat → Option (Int32 × St)) (K4 : St → Nat → Int32 → Int32 → Option (Int32 × St)) (σ : St) (v0 : Nat) (v2 : Int32) (x0 : Int32) : Option (Int32 × St) :=
  gd (ob σ v0 7) (
  bd (f7_step σ v0) fun r6 t7 => (
  lt (v2 + (1 : Int32)) fun y10 => (
  K4 t7 v0 x0 y10)))
set_option maxRecDepth 20000 in
theorem s7_part_p30 {F : St → Nat → Option (Int32 × St)} {dF : Nat} (hB : 37 ≤ dF) (hF : ∀ (σ : St) (a0 : Nat) (r : Int32) (τ : St), F σ a0 = some (r, τ) → Call dF m7_cond [.ref a0] σ (some (.int r)) τ) {K4 : St → Nat → Int32 → Int32 → Option (Int32 × St)} (hK4 : ∀ (σ : St) (v0 : Nat) (v1 : Int32) (v2 : Int32) (r : Int32) (τ : St), K4 σ v0 v1 v2 = some (r, τ) → Ev (dF + 2) m7_part 4 [(0, .ref v0), (1, .int v1), (2, .int v2)] [] σ (some (.int r)) τ) : ∀ (σ : St) (v0 : Nat) (v2 : Int32) (x0 : Int32) (r : Int32) (τ : St), f7_part_p30 F K4 σ v0 v2 x0 = some (r, τ) → Ev (dF + 2) m7_part 30 [(0, .ref v0), (2, .int v2)] [.int x0] σ (some (.int r)) τ := by
  intro σ v0 v2 x0 r τ hf
  unfold f7_part_p30 at hf
  refine ev_istore_n (lv2 := [(1, .int x0), (0, .ref v0), (2, .int v2)]) (j := 1) (i := 1) rfl (by decide) rfl d7_part_30 ?_
  refine ev_aload_n (j := 0) (i := 0) (q := 1) rfl rfl d7_part_31 ?_
  obtain ⟨h5, hf⟩ := gd_some hf
  obtain ⟨r6, t7, k8, hf⟩ := bd_some hf
  have q9 := s7_step _ _ _ _ k8
  refine ev_callV (vs := []) (sk := []) cls7 h5 q9 (by omega) (Nat.le_of_ble_eq_true rfl) w760 w762 ws8 w9 w763 k7_step rfl (Nat.le_of_ble_eq_true rfl) d7_part_32 ?_
  obtain ⟨y10, e11, hf⟩ := lt_some hf
  refine ev_iinc (lv2 := [(2, .int y10), (1, .int x0), (0, .ref v0)]) (i := 2) (q := 2) (v := y10) (n := 1) rfl (by rw [ci_1]; exact e11.symm) (by decide) rfl d7_part_35 ?_
  refine ev_goto (tgt := 4) (by decide) d7_part_38 ?_
  exact Ev.sub [2, 1, 0] rfl (hK4 _ _ _ _ _ _ hf)
def f7_part_p69 (F : St → Nat → Option (Int32 × St)) (σ : St) (v0 : Nat) (v1 : Int32) : Option (Int32 × St) :=
  (if v1 = (0 : Int32) then
  some ((1 : Int32), σ)
  else
  gd (ob σ v0 7) (
  lt (sR σ v0 5) fun b26 => (
  gd (nz b26) (
  gd (ob σ b26 10) (
  bd (f10_emit σ b26 (-7 : Int32)) fun r30 t31 => (
  some ((1 : Int32), t31)))))))
set_option maxRecDepth 20000 in
theorem s7_part_p69 {F : St → Nat → Option (Int32 × St)} {dF : Nat} (hB : 37 ≤ dF) (hF : ∀ (σ : St) (a0 : Nat) (r : Int32) (τ : St), F σ a0 = some (r, τ) → Call dF m7_cond [.ref a0] σ (some (.int r)) τ) : ∀ (σ : St) (v0 : Nat) (v1 : Int32) (r : Int32) (τ : St), f7_part_p69 F σ v0 v1 = some (r, τ) → Ev (dF + 2) m7_part 69 [(0, .ref v0), (1, .int v1)] [] σ (some (.int r)) τ := by
  intro σ v0 v1 r τ hf
  unfold f7_part_p69 at hf
  refine ev_iload_n (j := 1) (i := 1) (q := 1) rfl rfl d7_part_69 ?_
  rcases ite_some hf with ⟨c24, hf⟩ | ⟨c24, hf⟩
  · refine ev_if_eq_P (tgt := 82) c24 (by decide) d7_part_70 ?_
    refine ev_iconst ci_1 d7_part_82 ?_
    obtain ⟨rfl, rfl⟩ := ret_some hf
    exact ev_zret rfl (by decide) d7_part_83
  · refine ev_if_eq_Q (tgt := 82) c24 (by decide) d7_part_70 ?_
    refine ev_aload_n (j := 0) (i := 0) (q := 0) rfl rfl d7_part_73 ?_
    obtain ⟨h25, hf⟩ := gd_some hf
    obtain ⟨b26, e27, hf⟩ := lt_some hf
    obtain ⟨h28, hf⟩ := gd_some hf
    refine ev_getRb cls7 (j := 5) (by decide) rfl w276 h25 e27 (nz_ne h28) d7_part_74 ?_
    refine ev_bipush cb_m7 d7_part_77 ?_
    obtain ⟨h29, hf⟩ := gd_some hf
    obtain ⟨r30, t31, k32, hf⟩ := bd_some hf
    have q33 := s10_emit _ _ _ _ _ k32
    refine ev_callV (vs := [.int (-7 : Int32)]) (sk := []) cls10 h29 q33 (by omega) (Nat.le_of_ble_eq_true rfl) w796 w797 w798 w10 w799 k10_emit rfl (Nat.le_of_ble_eq_true rfl) d7_part_79 ?_
    refine ev_iconst ci_1 d7_part_82 ?_
    obtain ⟨rfl, rfl⟩ := ret_some hf
    exact ev_zret rfl (by decide) d7_part_83
def f7_part_p41 (F : St → Nat → Option (Int32 × St)) (σ : St) (v0 : Nat) (v1 : Int32) : Option (Int32 × St) :=
  gd (ob σ v0 7) (
  (if (sI σ v0 8) = (91 : Int32) then
  bd (f7_bracketedCond F σ v0) fun r14 t15 => (
  (if r14 = (0 : Int32) then
  some ((0 : Int32), t15)
  else
  f7_part_p69 F t15 v0 v1))
  else
  bd (f7_comparison σ v0) fun r19 t20 => (
  (if r19 = (0 : Int32) then
  some ((0 : Int32), t20)
  else
  f7_part_p69 F t20 v0 v1))))
set_option maxRecDepth 20000 in
theorem s7_part_p41 {F : St → Nat → Option (Int32 × St)} {dF : Nat} (hB : 37 ≤ dF) (hF : ∀ (σ : St) (a0 : Nat) (r : Int32) (τ : St), F σ a0 = some (r, τ) → Call dF m7_cond [.ref a0] σ (some (.int r)) τ) : ∀ (σ : St) (v0 : Nat) (v1 : Int32) (r : Int32) (τ : St), f7_part_p41 F σ v0 v1 = some (r, τ) → Ev (dF + 2) m7_part 41 [(0, .ref v0), (1, .int v1)] [] σ (some (.int r)) τ := by
  intro σ v0 v1 r τ hf
  unfold f7_part_p41 at hf
  refine ev_aload_n (j := 0) (i := 0) (q := 0) rfl rfl d7_part_41 ?_
  obtain ⟨h12, hf⟩ := gd_some hf
  refine ev_getI cls7 (j := 8) (by decide) rfl w280 h12 d7_part_42 ?_
  refine ev_bipush cb_91 d7_part_45 ?_
  rcases ite_some hf with ⟨c13, hf⟩ | ⟨c13, hf⟩
  · refine ev_icmp_ne_P (tgt := 60) c13 (by decide) d7_part_47 ?_
    refine ev_aload_n (j := 0) (i := 0) (q := 0) rfl rfl d7_part_50 ?_
    obtain ⟨r14, t15, k16, hf⟩ := bd_some hf
    have q17 := s7_bracketedCond hB hF _ _ _ _ k16
    refine ev_callV (vs := []) (sk := []) cls7 h12 q17 (by omega) (Nat.le_of_ble_eq_true rfl) w824 w826 ws22 w9 w827 k7_bracketedCond rfl (Nat.le_of_ble_eq_true rfl) d7_part_51 ?_
    rcases ite_some hf with ⟨c18, hf⟩ | ⟨c18, hf⟩
    · refine ev_if_eq_P (tgt := 67) c18 (by decide) d7_part_54 ?_
      refine ev_iconst ci_0 d7_part_67 ?_
      obtain ⟨rfl, rfl⟩ := ret_some hf
      exact ev_zret rfl (by decide) d7_part_68
    · refine ev_if_eq_Q (tgt := 67) c18 (by decide) d7_part_54 ?_
      refine ev_goto (tgt := 69) (by decide) d7_part_57 ?_
      exact Ev.sub [0, 1] rfl (s7_part_p69 hB hF _ _ _ _ _ hf)
  · refine ev_icmp_ne_Q (tgt := 60) c13 (by decide) d7_part_47 ?_
    refine ev_aload_n (j := 0) (i := 0) (q := 0) rfl rfl d7_part_60 ?_
    obtain ⟨r19, t20, k21, hf⟩ := bd_some hf
    have q22 := s7_comparison _ _ _ _ k21
    refine ev_callV (vs := []) (sk := []) cls7 h12 q22 (by omega) (Nat.le_of_ble_eq_true rfl) w828 w830 ws23 w9 w831 k7_comparison rfl (Nat.le_of_ble_eq_true rfl) d7_part_61 ?_
    rcases ite_some hf with ⟨c23, hf⟩ | ⟨c23, hf⟩
    · refine ev_if_ne_P (tgt := 69) c23 (by decide) d7_part_64 ?_
      refine ev_iconst ci_0 d7_part_67 ?_
      obtain ⟨rfl, rfl⟩ := ret_some hf
      exact ev_zret rfl (by decide) d7_part_68
    · refine ev_if_ne_Q (tgt := 69) c23 (by decide) d7_part_64 ?_
      exact Ev.sub [0, 1] rfl (s7_part_p69 hB hF _ _ _ _ _ hf)
def f7_part_p4 (F : St → Nat → Option (Int32 × St)) : Nat → St → Nat → Int32 → Int32 → Option (Int32 × St)
  | 0, _, _, _, _ => none
  | n + 1, σ, v0, v1, v2 =>
  (if v2 < (400 : Int32) then
  gd (ob σ v0 7) (
  (if (sI σ v0 8) = (265 : Int32) then
  (if v1 = (0 : Int32) then
  f7_part_p30 F (f7_part_p4 F n) σ v0 v2 (1 : Int32)
  else
  f7_part_p30 F (f7_part_p4 F n) σ v0 v2 (0 : Int32))
  else
  f7_part_p41 F σ v0 v1))
  else
  f7_part_p41 F σ v0 v1)
set_option maxRecDepth 20000 in
theorem s7_part_p4 {F : St → Nat → Option (Int32 × St)} {dF : Nat} (hB : 37 ≤ dF) (hF : ∀ (σ : St) (a0 : Nat) (r : Int32) (τ : St), F σ a0 = some (r, τ) → Call dF m7_cond [.ref a0] σ (some (.int r)) τ) : ∀ (n : Nat) (σ : St) (v0 : Nat) (v1 : Int32) (v2 : Int32) (r : Int32) (τ : St), f7_part_p4 F n σ v0 v1 v2 = some (r, τ) → Ev (dF + 2) m7_part 4 [(0, .ref v0), (1, .int v1), (2, .int v2)] [] σ (some (.int r)) τ := by
  intro n
  induction n with
  | zero =>
    intro σ v0 v1 v2 r τ hf
    cases hf
  | succ n ih =>
    intro σ v0 v1 v2 r τ hf
    rw [f7_part_p4] at hf
    refine ev_iload_n (j := 2) (i := 2) (q := 2) rfl rfl d7_part_4 ?_
    refine ev_sipush cs_400 d7_part_5 ?_
    rcases ite_some hf with ⟨c1, hf⟩ | ⟨c1, hf⟩
    · refine ev_icmp_ge_P (tgt := 41) c1 (by decide) d7_part_8 ?_
      refine ev_aload_n (j := 0) (i := 0) (q := 0) rfl rfl d7_part_11 ?_
      obtain ⟨h2, hf⟩ := gd_some hf
      refine ev_getI cls7 (j := 8) (by decide) rfl w280 h2 d7_part_12 ?_
      refine ev_sipush cs_265 d7_part_15 ?_
      rcases ite_some hf with ⟨c3, hf⟩ | ⟨c3, hf⟩
      · refine ev_icmp_ne_P (tgt := 41) c3 (by decide) d7_part_18 ?_
        refine ev_iload_n (j := 1) (i := 1) (q := 1) rfl rfl d7_part_21 ?_
        rcases ite_some hf with ⟨c4, hf⟩ | ⟨c4, hf⟩
        · refine ev_if_ne_P (tgt := 29) c4 (by decide) d7_part_22 ?_
          refine ev_iconst ci_1 d7_part_25 ?_
          refine ev_goto (tgt := 30) (by decide) d7_part_26 ?_
          exact Ev.sub [0, 2] rfl (s7_part_p30 hB hF ih _ _ _ _ _ _ hf)
        · refine ev_if_ne_Q (tgt := 29) c4 (by decide) d7_part_22 ?_
          refine ev_iconst ci_0 d7_part_29 ?_
          exact Ev.sub [0, 2] rfl (s7_part_p30 hB hF ih _ _ _ _ _ _ hf)
      · refine ev_icmp_ne_Q (tgt := 41) c3 (by decide) d7_part_18 ?_
        exact Ev.sub [0, 1] rfl (s7_part_p41 hB hF _ _ _ _ _ hf)
    · refine ev_icmp_ge_Q (tgt := 41) c1 (by decide) d7_part_8 ?_
      exact Ev.sub [0, 1] rfl (s7_part_p41 hB hF _ _ _ _ _ hf)
def f7_part (F : St → Nat → Option (Int32 × St)) (σ : St) (v0 : Nat) : Option (Int32 × St) :=
  f7_part_p4 F FU σ v0 (0 : Int32) (0 : Int32)
set_option maxRecDepth 50000 in
theorem s7_part {F : St → Nat → Option (Int32 × St)} {dF : Nat} (hB : 37 ≤ dF) (hF : ∀ (σ : St) (a0 : Nat) (r : Int32) (τ : St), F σ a0 = some (r, τ) → Call dF m7_cond [.ref a0] σ (some (.int r)) τ) : ∀ (σ : St) (v0 : Nat) (r : Int32) (τ : St), f7_part F σ v0 = some (r, τ) → Call (dF + 2) m7_part [.ref v0] σ (some (.int r)) τ := by
  intro σ v0 r τ hf
  unfold f7_part at hf
  refine Call.of (by decide +kernel) rfl (Nat.le_of_ble_eq_true rfl) ?_
  refine ev_iconst ci_0 d7_part_0 ?_
  refine ev_istore_n (lv2 := [(1, .int (0 : Int32)), (0, .ref v0)]) (j := 1) (i := 1) rfl (by decide) rfl d7_part_1 ?_
  refine ev_iconst ci_0 d7_part_2 ?_
  refine ev_istore_n (lv2 := [(2, .int (0 : Int32)), (1, .int (0 : Int32)), (0, .ref v0)]) (j := 2) (i := 2) rfl (by decide) rfl d7_part_3 ?_
  exact Ev.sub [2, 1, 0] rfl (s7_part_p4 hB hF FU _ _ _ _ _ _ hf)
def f7_both_p11 (F : St → Nat → Option (Int32 × St)) : Nat → St → Nat → Int32 → Option (Int32 × St)
  | 0, _, _, _ => none
  | n + 1, σ, v0, v1 =>
  (if v1 < (400 : Int32) then
  gd (ob σ v0 7) (
  (if (sI σ v0 8) = (264 : Int32) then
  bd (f7_step σ v0) fun r10 t11 => (
  bd (f7_part F t11 v0) fun r14 t15 => (
  (if r14 = (0 : Int32) then
  some ((0 : Int32), t15)
  else
  lt (sR t15 v0 5) fun b19 => (
  gd (nz b19) (
  gd (ob t15 b19 10) (
  bd (f10_emit t15 b19 (-8 : Int32)) fun r23 t24 => (
  lt (v1 + (1 : Int32)) fun y27 => (
  (f7_both_p11 F n) t24 v0 y27))))))))
  else
  some ((1 : Int32), σ)))
  else
  some ((1 : Int32), σ))
set_option maxRecDepth 20000 in
theorem s7_both_p11 {F : St → Nat → Option (Int32 × St)} {dF : Nat} (hB : 37 ≤ dF) (hF : ∀ (σ : St) (a0 : Nat) (r : Int32) (τ : St), F σ a0 = some (r, τ) → Call dF m7_cond [.ref a0] σ (some (.int r)) τ) : ∀ (n : Nat) (σ : St) (v0 : Nat) (v1 : Int32) (r : Int32) (τ : St), f7_both_p11 F n σ v0 v1 = some (r, τ) → Ev (dF + 3) m7_both 11 [(0, .ref v0), (1, .int v1)] [] σ (some (.int r)) τ := by
  intro n
  induction n with
  | zero =>
    intro σ v0 v1 r τ hf
    cases hf
  | succ n ih =>
    intro σ v0 v1 r τ hf
    rw [f7_both_p11] at hf
    refine ev_iload_n (j := 1) (i := 1) (q := 1) rfl rfl d7_both_11 ?_
    refine ev_sipush cs_400 d7_both_12 ?_
    rcases ite_some hf with ⟨c7, hf⟩ | ⟨c7, hf⟩
    · refine ev_icmp_ge_P (tgt := 56) c7 (by decide) d7_both_15 ?_
      refine ev_aload_n (j := 0) (i := 0) (q := 0) rfl rfl d7_both_18 ?_
      obtain ⟨h8, hf⟩ := gd_some hf
      refine ev_getI cls7 (j := 8) (by decide) rfl w280 h8 d7_both_19 ?_
      refine ev_sipush cs_264 d7_both_22 ?_
      rcases ite_some hf with ⟨c9, hf⟩ | ⟨c9, hf⟩
      · refine ev_icmp_ne_P (tgt := 56) c9 (by decide) d7_both_25 ?_
        refine ev_aload_n (j := 0) (i := 0) (q := 0) rfl rfl d7_both_28 ?_
        obtain ⟨r10, t11, k12, hf⟩ := bd_some hf
        have q13 := s7_step _ _ _ _ k12
        refine ev_callV (vs := []) (sk := []) cls7 h8 q13 (by omega) (Nat.le_of_ble_eq_true rfl) w760 w762 ws8 w9 w763 k7_step rfl (Nat.le_of_ble_eq_true rfl) d7_both_29 ?_
        refine ev_aload_n (j := 0) (i := 0) (q := 0) rfl rfl d7_both_32 ?_
        obtain ⟨r14, t15, k16, hf⟩ := bd_some hf
        have q17 := s7_part hB hF _ _ _ _ k16
        refine ev_callV (vs := []) (sk := []) cls7 (mono_ob q13.1 h8) q17 (by omega) (Nat.le_of_ble_eq_true rfl) w820 w822 ws21 w9 w823 k7_part rfl (Nat.le_of_ble_eq_true rfl) d7_both_33 ?_
        rcases ite_some hf with ⟨c18, hf⟩ | ⟨c18, hf⟩
        · refine ev_if_ne_P (tgt := 41) c18 (by decide) d7_both_36 ?_
          refine ev_iconst ci_0 d7_both_39 ?_
          obtain ⟨rfl, rfl⟩ := ret_some hf
          exact ev_zret rfl (by decide) d7_both_40
        · refine ev_if_ne_Q (tgt := 41) c18 (by decide) d7_both_36 ?_
          refine ev_aload_n (j := 0) (i := 0) (q := 0) rfl rfl d7_both_41 ?_
          obtain ⟨b19, e20, hf⟩ := lt_some hf
          obtain ⟨h21, hf⟩ := gd_some hf
          refine ev_getRb cls7 (j := 5) (by decide) rfl w276 (mono_ob q17.1 (mono_ob q13.1 h8)) e20 (nz_ne h21) d7_both_42 ?_
          refine ev_bipush cb_m8 d7_both_45 ?_
          obtain ⟨h22, hf⟩ := gd_some hf
          obtain ⟨r23, t24, k25, hf⟩ := bd_some hf
          have q26 := s10_emit _ _ _ _ _ k25
          refine ev_callV (vs := [.int (-8 : Int32)]) (sk := []) cls10 h22 q26 (by omega) (Nat.le_of_ble_eq_true rfl) w796 w797 w798 w10 w799 k10_emit rfl (Nat.le_of_ble_eq_true rfl) d7_both_47 ?_
          obtain ⟨y27, e28, hf⟩ := lt_some hf
          refine ev_iinc (lv2 := [(1, .int y27), (0, .ref v0)]) (i := 1) (q := 1) (v := y27) (n := 1) rfl (by rw [ci_1]; exact e28.symm) (by decide) rfl d7_both_50 ?_
          refine ev_goto (tgt := 11) (by decide) d7_both_53 ?_
          exact Ev.sub [1, 0] rfl (ih _ _ _ _ _ hf)
      · refine ev_icmp_ne_Q (tgt := 56) c9 (by decide) d7_both_25 ?_
        refine ev_iconst ci_1 d7_both_56 ?_
        obtain ⟨rfl, rfl⟩ := ret_some hf
        exact ev_zret rfl (by decide) d7_both_57
    · refine ev_icmp_ge_Q (tgt := 56) c7 (by decide) d7_both_15 ?_
      refine ev_iconst ci_1 d7_both_56 ?_
      obtain ⟨rfl, rfl⟩ := ret_some hf
      exact ev_zret rfl (by decide) d7_both_57
def f7_both (F : St → Nat → Option (Int32 × St)) (σ : St) (v0 : Nat) : Option (Int32 × St) :=
  gd (ob σ v0 7) (
  bd (f7_part F σ v0) fun r2 t3 => (
  (if r2 = (0 : Int32) then
  some ((0 : Int32), t3)
  else
  f7_both_p11 F FU t3 v0 (0 : Int32))))
set_option maxRecDepth 50000 in
theorem s7_both {F : St → Nat → Option (Int32 × St)} {dF : Nat} (hB : 37 ≤ dF) (hF : ∀ (σ : St) (a0 : Nat) (r : Int32) (τ : St), F σ a0 = some (r, τ) → Call dF m7_cond [.ref a0] σ (some (.int r)) τ) : ∀ (σ : St) (v0 : Nat) (r : Int32) (τ : St), f7_both F σ v0 = some (r, τ) → Call (dF + 3) m7_both [.ref v0] σ (some (.int r)) τ := by
  intro σ v0 r τ hf
  unfold f7_both at hf
  refine Call.of (by decide +kernel) rfl (Nat.le_of_ble_eq_true rfl) ?_
  refine ev_aload_n (j := 0) (i := 0) (q := 0) rfl rfl d7_both_0 ?_
  obtain ⟨h1, hf⟩ := gd_some hf
  obtain ⟨r2, t3, k4, hf⟩ := bd_some hf
  have q5 := s7_part hB hF _ _ _ _ k4
  refine ev_callV (vs := []) (sk := []) cls7 h1 q5 (by omega) (Nat.le_of_ble_eq_true rfl) w820 w822 ws21 w9 w823 k7_part rfl (Nat.le_of_ble_eq_true rfl) d7_both_1 ?_
  rcases ite_some hf with ⟨c6, hf⟩ | ⟨c6, hf⟩
  · refine ev_if_ne_P (tgt := 9) c6 (by decide) d7_both_4 ?_
    refine ev_iconst ci_0 d7_both_7 ?_
    obtain ⟨rfl, rfl⟩ := ret_some hf
    exact ev_zret rfl (by decide) d7_both_8
  · refine ev_if_ne_Q (tgt := 9) c6 (by decide) d7_both_4 ?_
    refine ev_iconst ci_0 d7_both_9 ?_
    refine ev_istore_n (lv2 := [(1, .int (0 : Int32)), (0, .ref v0)]) (j := 1) (i := 1) rfl (by decide) rfl d7_both_10 ?_
    exact Ev.sub [1, 0] rfl (s7_both_p11 hB hF FU _ _ _ _ _ hf)
def f7_cond_p11 (F : St → Nat → Option (Int32 × St)) : Nat → St → Nat → Int32 → Option (Int32 × St)
  | 0, _, _, _ => none
  | n + 1, σ, v0, v1 =>
  (if v1 < (400 : Int32) then
  gd (ob σ v0 7) (
  (if (sI σ v0 8) = (263 : Int32) then
  bd (f7_step σ v0) fun r10 t11 => (
  bd (f7_both F t11 v0) fun r14 t15 => (
  (if r14 = (0 : Int32) then
  some ((0 : Int32), t15)
  else
  lt (sR t15 v0 5) fun b19 => (
  gd (nz b19) (
  gd (ob t15 b19 10) (
  bd (f10_emit t15 b19 (-9 : Int32)) fun r23 t24 => (
  lt (v1 + (1 : Int32)) fun y27 => (
  (f7_cond_p11 F n) t24 v0 y27))))))))
  else
  some ((1 : Int32), σ)))
  else
  some ((1 : Int32), σ))
set_option maxRecDepth 20000 in
theorem s7_cond_p11 {F : St → Nat → Option (Int32 × St)} {dF : Nat} (hB : 37 ≤ dF) (hF : ∀ (σ : St) (a0 : Nat) (r : Int32) (τ : St), F σ a0 = some (r, τ) → Call dF m7_cond [.ref a0] σ (some (.int r)) τ) : ∀ (n : Nat) (σ : St) (v0 : Nat) (v1 : Int32) (r : Int32) (τ : St), f7_cond_p11 F n σ v0 v1 = some (r, τ) → Ev (dF + 4) m7_cond 11 [(0, .ref v0), (1, .int v1)] [] σ (some (.int r)) τ := by
  intro n
  induction n with
  | zero =>
    intro σ v0 v1 r τ hf
    cases hf
  | succ n ih =>
    intro σ v0 v1 r τ hf
    rw [f7_cond_p11] at hf
    refine ev_iload_n (j := 1) (i := 1) (q := 1) rfl rfl d7_cond_11 ?_
    refine ev_sipush cs_400 d7_cond_12 ?_
    rcases ite_some hf with ⟨c7, hf⟩ | ⟨c7, hf⟩
    · refine ev_icmp_ge_P (tgt := 56) c7 (by decide) d7_cond_15 ?_
      refine ev_aload_n (j := 0) (i := 0) (q := 0) rfl rfl d7_cond_18 ?_
      obtain ⟨h8, hf⟩ := gd_some hf
      refine ev_getI cls7 (j := 8) (by decide) rfl w280 h8 d7_cond_19 ?_
      refine ev_sipush cs_263 d7_cond_22 ?_
      rcases ite_some hf with ⟨c9, hf⟩ | ⟨c9, hf⟩
      · refine ev_icmp_ne_P (tgt := 56) c9 (by decide) d7_cond_25 ?_
        refine ev_aload_n (j := 0) (i := 0) (q := 0) rfl rfl d7_cond_28 ?_
        obtain ⟨r10, t11, k12, hf⟩ := bd_some hf
        have q13 := s7_step _ _ _ _ k12
        refine ev_callV (vs := []) (sk := []) cls7 h8 q13 (by omega) (Nat.le_of_ble_eq_true rfl) w760 w762 ws8 w9 w763 k7_step rfl (Nat.le_of_ble_eq_true rfl) d7_cond_29 ?_
        refine ev_aload_n (j := 0) (i := 0) (q := 0) rfl rfl d7_cond_32 ?_
        obtain ⟨r14, t15, k16, hf⟩ := bd_some hf
        have q17 := s7_both hB hF _ _ _ _ k16
        refine ev_callV (vs := []) (sk := []) cls7 (mono_ob q13.1 h8) q17 (by omega) (Nat.le_of_ble_eq_true rfl) w816 w818 ws20 w9 w819 k7_both rfl (Nat.le_of_ble_eq_true rfl) d7_cond_33 ?_
        rcases ite_some hf with ⟨c18, hf⟩ | ⟨c18, hf⟩
        · refine ev_if_ne_P (tgt := 41) c18 (by decide) d7_cond_36 ?_
          refine ev_iconst ci_0 d7_cond_39 ?_
          obtain ⟨rfl, rfl⟩ := ret_some hf
          exact ev_zret rfl (by decide) d7_cond_40
        · refine ev_if_ne_Q (tgt := 41) c18 (by decide) d7_cond_36 ?_
          refine ev_aload_n (j := 0) (i := 0) (q := 0) rfl rfl d7_cond_41 ?_
          obtain ⟨b19, e20, hf⟩ := lt_some hf
          obtain ⟨h21, hf⟩ := gd_some hf
          refine ev_getRb cls7 (j := 5) (by decide) rfl w276 (mono_ob q17.1 (mono_ob q13.1 h8)) e20 (nz_ne h21) d7_cond_42 ?_
          refine ev_bipush cb_m9 d7_cond_45 ?_
          obtain ⟨h22, hf⟩ := gd_some hf
          obtain ⟨r23, t24, k25, hf⟩ := bd_some hf
          have q26 := s10_emit _ _ _ _ _ k25
          refine ev_callV (vs := [.int (-9 : Int32)]) (sk := []) cls10 h22 q26 (by omega) (Nat.le_of_ble_eq_true rfl) w796 w797 w798 w10 w799 k10_emit rfl (Nat.le_of_ble_eq_true rfl) d7_cond_47 ?_
          obtain ⟨y27, e28, hf⟩ := lt_some hf
          refine ev_iinc (lv2 := [(1, .int y27), (0, .ref v0)]) (i := 1) (q := 1) (v := y27) (n := 1) rfl (by rw [ci_1]; exact e28.symm) (by decide) rfl d7_cond_50 ?_
          refine ev_goto (tgt := 11) (by decide) d7_cond_53 ?_
          exact Ev.sub [1, 0] rfl (ih _ _ _ _ _ hf)
      · refine ev_icmp_ne_Q (tgt := 56) c9 (by decide) d7_cond_25 ?_
        refine ev_iconst ci_1 d7_cond_56 ?_
        obtain ⟨rfl, rfl⟩ := ret_some hf
        exact ev_zret rfl (by decide) d7_cond_57
    · refine ev_icmp_ge_Q (tgt := 56) c7 (by decide) d7_cond_15 ?_
      refine ev_iconst ci_1 d7_cond_56 ?_
      obtain ⟨rfl, rfl⟩ := ret_some hf
      exact ev_zret rfl (by decide) d7_cond_57
def f7_cond_b (F : St → Nat → Option (Int32 × St)) (σ : St) (v0 : Nat) : Option (Int32 × St) :=
  gd (ob σ v0 7) (
  bd (f7_both F σ v0) fun r2 t3 => (
  (if r2 = (0 : Int32) then
  some ((0 : Int32), t3)
  else
  f7_cond_p11 F FU t3 v0 (0 : Int32))))
set_option maxRecDepth 50000 in
theorem s7_cond_b {F : St → Nat → Option (Int32 × St)} {dF : Nat} (hB : 37 ≤ dF) (hF : ∀ (σ : St) (a0 : Nat) (r : Int32) (τ : St), F σ a0 = some (r, τ) → Call dF m7_cond [.ref a0] σ (some (.int r)) τ) : ∀ (σ : St) (v0 : Nat) (r : Int32) (τ : St), f7_cond_b F σ v0 = some (r, τ) → Call (dF + 4) m7_cond [.ref v0] σ (some (.int r)) τ := by
  intro σ v0 r τ hf
  unfold f7_cond_b at hf
  refine Call.of (by decide +kernel) rfl (Nat.le_of_ble_eq_true rfl) ?_
  refine ev_aload_n (j := 0) (i := 0) (q := 0) rfl rfl d7_cond_0 ?_
  obtain ⟨h1, hf⟩ := gd_some hf
  obtain ⟨r2, t3, k4, hf⟩ := bd_some hf
  have q5 := s7_both hB hF _ _ _ _ k4
  refine ev_callV (vs := []) (sk := []) cls7 h1 q5 (by omega) (Nat.le_of_ble_eq_true rfl) w816 w818 ws20 w9 w819 k7_both rfl (Nat.le_of_ble_eq_true rfl) d7_cond_1 ?_
  rcases ite_some hf with ⟨c6, hf⟩ | ⟨c6, hf⟩
  · refine ev_if_ne_P (tgt := 9) c6 (by decide) d7_cond_4 ?_
    refine ev_iconst ci_0 d7_cond_7 ?_
    obtain ⟨rfl, rfl⟩ := ret_some hf
    exact ev_zret rfl (by decide) d7_cond_8
  · refine ev_if_ne_Q (tgt := 9) c6 (by decide) d7_cond_4 ?_
    refine ev_iconst ci_0 d7_cond_9 ?_
    refine ev_istore_n (lv2 := [(1, .int (0 : Int32)), (0, .ref v0)]) (j := 1) (i := 1) rfl (by decide) rfl d7_cond_10 ?_
    exact Ev.sub [1, 0] rfl (s7_cond_p11 hB hF FU _ _ _ _ _ hf)
def f7_cond : Nat → St → Nat → Option (Int32 × St)
  | 0, _, _ => none
  | n + 1, σ, a0 => f7_cond_b (f7_cond n) σ a0
theorem s7_cond : ∀ (n : Nat) (σ : St) (a0 : Nat) (r : Int32) (τ : St), f7_cond n σ a0 = some (r, τ) → Call (37 + 4 * n) m7_cond [.ref a0] σ (some (.int r)) τ := by
  intro n
  induction n with
  | zero =>
    intro σ a0 r τ hf
    cases hf
  | succ n ih =>
    intro σ a0 r τ hf
    rw [f7_cond] at hf
    have := s7_cond_b (F := f7_cond n) (dF := 37 + 4 * n) (by omega) ih σ a0 r τ hf
    rw [show 37 + 4 * (n + 1) = 37 + 4 * n + 4 by omega]
    exact this
abbrev m7_letRule : MD := ("MillBoats$Reader", ⟨"MillBoats$Reader", "letRule", "()Z"⟩, prog_9_method_17_code, 4, (some Jvm.ClassFile.FieldType.boolean))
theorem k7_letRule : okY m7_letRule.2.1 0 := ⟨by decide +kernel, by decide +kernel, by decide +kernel⟩
def f7_letRule (σ : St) (v0 : Nat) : Option (Int32 × St) :=
  gd (ob σ v0 7) (
  (if (sI σ v0 8) = (-4 : Int32) then
  bd (f7_valueHere σ v0) fun r3 t4 => (
  bd (f7_known t4 v0 r3) fun r7 t8 => (
  (if r7 = (-1 : Int32) then
  (if (sI t8 v0 9) < (6 : Int32) then
  bd (f7_step t8 v0) fun r13 t14 => (
  bd (f7_take t14 v0 (61 : Int32)) fun r17 t18 => (
  (if r17 = (0 : Int32) then
  some ((0 : Int32), t18)
  else
  bd (f7_sum 8 t18 v0) fun r22 t23 => (
  (if r22 = (0 : Int32) then
  some ((0 : Int32), t23)
  else
  lt ((9 : Int32) + (sI t23 v0 9)) fun y27 => (
  lt (sR t23 v0 4) fun b29 => (
  gd (nz b29) (
  gd (ob t23 b29 15) (
  gd (inb t23 b29 y27) (
  lt (wL t23 b29 (ix y27) r3) fun t34 => (
  lt (wI t34 v0 9 ((sI t34 v0 9) + (1 : Int32))) fun t36 => (
  bd (f7_closeRule t36 v0 (256 : Int32) y27 (0 : Int32)) fun r38 t39 => (
  gd (isB r38) (
  some (r38, t39)))))))))))))))
  else
  bd (f7_refuse t8 v0 (4 : Int32)) fun r43 t44 => (
  gd (isB r43) (
  some (r43, t44))))
  else
  bd (f7_refuse t8 v0 (3 : Int32)) fun r48 t49 => (
  gd (isB r48) (
  some (r48, t49))))))
  else
  bd (f7_refuse σ v0 (1 : Int32)) fun r53 t54 => (
  gd (isB r53) (
  some (r53, t54)))))
set_option maxRecDepth 50000 in
theorem s7_letRule : ∀ (σ : St) (v0 : Nat) (r : Int32) (τ : St), f7_letRule σ v0 = some (r, τ) → Call 36 m7_letRule [.ref v0] σ (some (.int r)) τ := by
  intro σ v0 r τ hf
  unfold f7_letRule at hf
  refine Call.of (by decide +kernel) rfl (Nat.le_of_ble_eq_true rfl) ?_
  refine ev_aload_n (j := 0) (i := 0) (q := 0) rfl rfl d7_letRule_0 ?_
  obtain ⟨h1, hf⟩ := gd_some hf
  refine ev_getI cls7 (j := 8) (by decide) rfl w280 h1 d7_letRule_1 ?_
  refine ev_bipush cb_m4 d7_letRule_4 ?_
  rcases ite_some hf with ⟨c2, hf⟩ | ⟨c2, hf⟩
  · refine ev_icmp_eq_P (tgt := 15) c2 (by decide) d7_letRule_6 ?_
    refine ev_aload_n (j := 0) (i := 0) (q := 0) rfl rfl d7_letRule_15 ?_
    obtain ⟨r3, t4, k5, hf⟩ := bd_some hf
    have q6 := s7_valueHere _ _ _ _ k5
    refine ev_callV (vs := []) (sk := []) cls7 h1 q6 (by decide) (Nat.le_of_ble_eq_true rfl) w768 w770 ws10 w9 w771 k7_valueHere rfl (Nat.le_of_ble_eq_true rfl) d7_letRule_16 ?_
    refine ev_lstore_n (lv2 := [(1, .long r3), (0, .ref v0)]) (j := 1) (i := 1) rfl (by decide) rfl d7_letRule_19 ?_
    refine ev_aload_n (j := 0) (i := 0) (q := 1) rfl rfl d7_letRule_20 ?_
    refine ev_lload_n (j := 1) (i := 1) (q := 0) rfl rfl d7_letRule_21 ?_
    obtain ⟨r7, t8, k9, hf⟩ := bd_some hf
    have q10 := s7_known _ _ _ _ _ k9
    refine ev_callV (vs := [.long r3]) (sk := []) cls7 (mono_ob q6.1 h1) q10 (by decide) (Nat.le_of_ble_eq_true rfl) w772 w774 ws11 w9 w775 k7_known rfl (Nat.le_of_ble_eq_true rfl) d7_letRule_22 ?_
    refine ev_iconst ci_m1 d7_letRule_25 ?_
    rcases ite_some hf with ⟨c11, hf⟩ | ⟨c11, hf⟩
    · refine ev_icmp_eq_P (tgt := 35) c11 (by decide) d7_letRule_26 ?_
      refine ev_aload_n (j := 0) (i := 0) (q := 1) rfl rfl d7_letRule_35 ?_
      refine ev_getI cls7 (j := 9) (by decide) rfl w281 (mono_ob q10.1 (mono_ob q6.1 h1)) d7_letRule_36 ?_
      refine ev_bipush cb_6 d7_letRule_39 ?_
      rcases ite_some hf with ⟨c12, hf⟩ | ⟨c12, hf⟩
      · refine ev_icmp_lt_P (tgt := 50) c12 (by decide) d7_letRule_41 ?_
        refine ev_aload_n (j := 0) (i := 0) (q := 1) rfl rfl d7_letRule_50 ?_
        obtain ⟨r13, t14, k15, hf⟩ := bd_some hf
        have q16 := s7_step _ _ _ _ k15
        refine ev_callV (vs := []) (sk := []) cls7 (mono_ob q10.1 (mono_ob q6.1 h1)) q16 (by decide) (Nat.le_of_ble_eq_true rfl) w760 w762 ws8 w9 w763 k7_step rfl (Nat.le_of_ble_eq_true rfl) d7_letRule_51 ?_
        refine ev_aload_n (j := 0) (i := 0) (q := 1) rfl rfl d7_letRule_54 ?_
        refine ev_bipush cb_61 d7_letRule_55 ?_
        obtain ⟨r17, t18, k19, hf⟩ := bd_some hf
        have q20 := s7_take _ _ _ _ _ k19
        refine ev_callV (vs := [.int (61 : Int32)]) (sk := []) cls7 (mono_ob q16.1 (mono_ob q10.1 (mono_ob q6.1 h1))) q20 (by decide) (Nat.le_of_ble_eq_true rfl) w776 w778 ws12 w9 w779 k7_take rfl (Nat.le_of_ble_eq_true rfl) d7_letRule_57 ?_
        rcases ite_some hf with ⟨c21, hf⟩ | ⟨c21, hf⟩
        · refine ev_if_eq_P (tgt := 70) c21 (by decide) d7_letRule_60 ?_
          refine ev_iconst ci_0 d7_letRule_70 ?_
          obtain ⟨rfl, rfl⟩ := ret_some hf
          exact ev_zret rfl (by decide) d7_letRule_71
        · refine ev_if_eq_Q (tgt := 70) c21 (by decide) d7_letRule_60 ?_
          refine ev_aload_n (j := 0) (i := 0) (q := 1) rfl rfl d7_letRule_63 ?_
          obtain ⟨r22, t23, k24, hf⟩ := bd_some hf
          have q25 := s7_sum 8 _ _ _ _ k24
          refine ev_callV (vs := []) (sk := []) cls7 (mono_ob q20.1 (mono_ob q16.1 (mono_ob q10.1 (mono_ob q6.1 h1)))) q25 (by omega) (Nat.le_of_ble_eq_true rfl) w780 w782 ws13 w9 w783 k7_sum rfl (Nat.le_of_ble_eq_true rfl) d7_letRule_64 ?_
          rcases ite_some hf with ⟨c26, hf⟩ | ⟨c26, hf⟩
          · refine ev_if_ne_P (tgt := 72) c26 (by decide) d7_letRule_67 ?_
            refine ev_iconst ci_0 d7_letRule_70 ?_
            obtain ⟨rfl, rfl⟩ := ret_some hf
            exact ev_zret rfl (by decide) d7_letRule_71
          · refine ev_if_ne_Q (tgt := 72) c26 (by decide) d7_letRule_67 ?_
            refine ev_bipush cb_9 d7_letRule_72 ?_
            refine ev_aload_n (j := 0) (i := 0) (q := 1) rfl rfl d7_letRule_74 ?_
            refine ev_getI cls7 (j := 9) (by decide) rfl w281 (mono_ob q25.1 (mono_ob q20.1 (mono_ob q16.1 (mono_ob q10.1 (mono_ob q6.1 h1))))) d7_letRule_75 ?_
            refine ev_iadd d7_letRule_78 ?_
            obtain ⟨y27, e28, hf⟩ := lt_some hf
            refine ev_nmI e28 ?_
            refine ev_istore_n (lv2 := [(3, .int y27), (1, .long r3), (0, .ref v0)]) (j := 3) (i := 3) rfl (by decide) rfl d7_letRule_79 ?_
            refine ev_aload_n (j := 0) (i := 0) (q := 2) rfl rfl d7_letRule_80 ?_
            obtain ⟨b29, e30, hf⟩ := lt_some hf
            obtain ⟨h31, hf⟩ := gd_some hf
            refine ev_getRb cls7 (j := 4) (by decide) rfl w275 (mono_ob q25.1 (mono_ob q20.1 (mono_ob q16.1 (mono_ob q10.1 (mono_ob q6.1 h1))))) e30 (nz_ne h31) d7_letRule_81 ?_
            refine ev_iload_n (j := 3) (i := 3) (q := 0) rfl rfl d7_letRule_84 ?_
            refine ev_lload_n (j := 1) (i := 1) (q := 1) rfl rfl d7_letRule_85 ?_
            obtain ⟨h32, hf⟩ := gd_some hf
            obtain ⟨h33, hf⟩ := gd_some hf
            obtain ⟨t34, e35, hf⟩ := lt_some hf
            refine ev_last h32 h33 d7_letRule_86 (ev_nmS e35 ?_)
            refine ev_aload_n (j := 0) (i := 0) (q := 2) rfl rfl d7_letRule_87 ?_
            refine ev_dup rfl d7_letRule_88 ?_
            refine ev_getI cls7 (j := 9) (by decide) rfl w281 (mono_ob (mono_eL e35) (mono_ob q25.1 (mono_ob q20.1 (mono_ob q16.1 (mono_ob q10.1 (mono_ob q6.1 h1)))))) d7_letRule_89 ?_
            refine ev_iconst ci_1 d7_letRule_92 ?_
            refine ev_iadd d7_letRule_93 ?_
            obtain ⟨t36, e37, hf⟩ := lt_some hf
            refine ev_putI cls7 (j := 9) (by decide) rfl rfl w281 (mono_ob (mono_eL e35) (mono_ob q25.1 (mono_ob q20.1 (mono_ob q16.1 (mono_ob q10.1 (mono_ob q6.1 h1)))))) (fun _ => ⟨rfl, rfl⟩) d7_letRule_94 (ev_nmS e37 ?_)
            refine ev_aload_n (j := 0) (i := 0) (q := 2) rfl rfl d7_letRule_97 ?_
            refine ev_sipush cs_256 d7_letRule_98 ?_
            refine ev_iload_n (j := 3) (i := 3) (q := 0) rfl rfl d7_letRule_101 ?_
            refine ev_iconst ci_0 d7_letRule_102 ?_
            obtain ⟨r38, t39, k40, hf⟩ := bd_some hf
            have q41 := s7_closeRule _ _ _ _ _ _ _ k40
            refine ev_callV (vs := [.int (256 : Int32), .int y27, .int (0 : Int32)]) (sk := []) cls7 (mono_ob (mono_eI e37) (mono_ob (mono_eL e35) (mono_ob q25.1 (mono_ob q20.1 (mono_ob q16.1 (mono_ob q10.1 (mono_ob q6.1 h1))))))) q41 (by decide) (Nat.le_of_ble_eq_true rfl) w800 w802 ws17 w9 w803 k7_closeRule rfl (Nat.le_of_ble_eq_true rfl) d7_letRule_103 ?_
            obtain ⟨h42, hf⟩ := gd_some hf
            obtain ⟨rfl, rfl⟩ := ret_some hf
            exact ev_zret rfl (narB h42) d7_letRule_106
      · refine ev_icmp_lt_Q (tgt := 50) c12 (by decide) d7_letRule_41 ?_
        refine ev_aload_n (j := 0) (i := 0) (q := 1) rfl rfl d7_letRule_44 ?_
        refine ev_iconst ci_4 d7_letRule_45 ?_
        obtain ⟨r43, t44, k45, hf⟩ := bd_some hf
        have q46 := s7_refuse _ _ _ _ _ k45
        refine ev_callV (vs := [.int (4 : Int32)]) (sk := []) cls7 (mono_ob q10.1 (mono_ob q6.1 h1)) q46 (by decide) (Nat.le_of_ble_eq_true rfl) w756 w758 ws7 w9 w759 k7_refuse rfl (Nat.le_of_ble_eq_true rfl) d7_letRule_46 ?_
        obtain ⟨h47, hf⟩ := gd_some hf
        obtain ⟨rfl, rfl⟩ := ret_some hf
        exact ev_zret rfl (narB h47) d7_letRule_49
    · refine ev_icmp_eq_Q (tgt := 35) c11 (by decide) d7_letRule_26 ?_
      refine ev_aload_n (j := 0) (i := 0) (q := 1) rfl rfl d7_letRule_29 ?_
      refine ev_iconst ci_3 d7_letRule_30 ?_
      obtain ⟨r48, t49, k50, hf⟩ := bd_some hf
      have q51 := s7_refuse _ _ _ _ _ k50
      refine ev_callV (vs := [.int (3 : Int32)]) (sk := []) cls7 (mono_ob q10.1 (mono_ob q6.1 h1)) q51 (by decide) (Nat.le_of_ble_eq_true rfl) w756 w758 ws7 w9 w759 k7_refuse rfl (Nat.le_of_ble_eq_true rfl) d7_letRule_31 ?_
      obtain ⟨h52, hf⟩ := gd_some hf
      obtain ⟨rfl, rfl⟩ := ret_some hf
      exact ev_zret rfl (narB h52) d7_letRule_34
  · refine ev_icmp_eq_Q (tgt := 15) c2 (by decide) d7_letRule_6 ?_
    refine ev_aload_n (j := 0) (i := 0) (q := 0) rfl rfl d7_letRule_9 ?_
    refine ev_iconst ci_1 d7_letRule_10 ?_
    obtain ⟨r53, t54, k55, hf⟩ := bd_some hf
    have q56 := s7_refuse _ _ _ _ _ k55
    refine ev_callV (vs := [.int (1 : Int32)]) (sk := []) cls7 h1 q56 (by decide) (Nat.le_of_ble_eq_true rfl) w756 w758 ws7 w9 w759 k7_refuse rfl (Nat.le_of_ble_eq_true rfl) d7_letRule_11 ?_
    obtain ⟨h57, hf⟩ := gd_some hf
    obtain ⟨rfl, rfl⟩ := ret_some hf
    exact ev_zret rfl (narB h57) d7_letRule_14
abbrev m7_tollRule : MD := ("MillBoats$Reader", ⟨"MillBoats$Reader", "tollRule", "()Z"⟩, prog_9_method_18_code, 3, (some Jvm.ClassFile.FieldType.boolean))
theorem k7_tollRule : okY m7_tollRule.2.1 0 := ⟨by decide +kernel, by decide +kernel, by decide +kernel⟩
def f7_tollRule_p51 (σ : St) (v0 : Nat) : Option (Int32 × St) :=
  gd (ob σ v0 7) (
  bd (f7_refuse σ v0 (2 : Int32)) fun r28 t29 => (
  gd (isB r28) (
  some (r28, t29))))
set_option maxRecDepth 20000 in
theorem s7_tollRule_p51 : ∀ (σ : St) (v0 : Nat) (r : Int32) (τ : St), f7_tollRule_p51 σ v0 = some (r, τ) → Ev 70 m7_tollRule 51 [(0, .ref v0)] [] σ (some (.int r)) τ := by
  intro σ v0 r τ hf
  unfold f7_tollRule_p51 at hf
  refine ev_aload_n (j := 0) (i := 0) (q := 0) rfl rfl d7_tollRule_51 ?_
  refine ev_iconst ci_2 d7_tollRule_52 ?_
  obtain ⟨h27, hf⟩ := gd_some hf
  obtain ⟨r28, t29, k30, hf⟩ := bd_some hf
  have q31 := s7_refuse _ _ _ _ _ k30
  refine ev_callV (vs := [.int (2 : Int32)]) (sk := []) cls7 h27 q31 (by decide) (Nat.le_of_ble_eq_true rfl) w756 w758 ws7 w9 w759 k7_refuse rfl (Nat.le_of_ble_eq_true rfl) d7_tollRule_53 ?_
  obtain ⟨h32, hf⟩ := gd_some hf
  obtain ⟨rfl, rfl⟩ := ret_some hf
  exact ev_zret rfl (narB h32) d7_tollRule_56
def f7_tollRule_p57 (σ : St) (v0 : Nat) (v1 : Int32) (v2 : Int32) : Option (Int32 × St) :=
  gd (ob σ v0 7) (
  bd (f7_take σ v0 (-3 : Int32)) fun r34 t35 => (
  (if r34 = (0 : Int32) then
  some ((0 : Int32), t35)
  else
  bd (f7_take t35 v0 (262 : Int32)) fun r39 t40 => (
  (if r39 = (0 : Int32) then
  some ((0 : Int32), t40)
  else
  bd (f7_cond 8 t40 v0) fun r44 t45 => (
  (if r44 = (0 : Int32) then
  some ((0 : Int32), t45)
  else
  bd (f7_closeRule t45 v0 (259 : Int32) v1 v2) fun r49 t50 => (
  (if r49 = (0 : Int32) then
  some ((0 : Int32), t50)
  else
  some ((1 : Int32), t50))))))))))
set_option maxRecDepth 20000 in
theorem s7_tollRule_p57 : ∀ (σ : St) (v0 : Nat) (v1 : Int32) (v2 : Int32) (r : Int32) (τ : St), f7_tollRule_p57 σ v0 v1 v2 = some (r, τ) → Ev 70 m7_tollRule 57 [(0, .ref v0), (1, .int v1), (2, .int v2)] [] σ (some (.int r)) τ := by
  intro σ v0 v1 v2 r τ hf
  unfold f7_tollRule_p57 at hf
  refine ev_aload_n (j := 0) (i := 0) (q := 0) rfl rfl d7_tollRule_57 ?_
  refine ev_bipush cb_m3 d7_tollRule_58 ?_
  obtain ⟨h33, hf⟩ := gd_some hf
  obtain ⟨r34, t35, k36, hf⟩ := bd_some hf
  have q37 := s7_take _ _ _ _ _ k36
  refine ev_callV (vs := [.int (-3 : Int32)]) (sk := []) cls7 h33 q37 (by decide) (Nat.le_of_ble_eq_true rfl) w776 w778 ws12 w9 w779 k7_take rfl (Nat.le_of_ble_eq_true rfl) d7_tollRule_60 ?_
  rcases ite_some hf with ⟨c38, hf⟩ | ⟨c38, hf⟩
  · refine ev_if_eq_P (tgt := 99) c38 (by decide) d7_tollRule_63 ?_
    refine ev_iconst ci_0 d7_tollRule_99 ?_
    obtain ⟨rfl, rfl⟩ := ret_some hf
    exact ev_zret rfl (by decide) d7_tollRule_100
  · refine ev_if_eq_Q (tgt := 99) c38 (by decide) d7_tollRule_63 ?_
    refine ev_aload_n (j := 0) (i := 0) (q := 0) rfl rfl d7_tollRule_66 ?_
    refine ev_sipush cs_262 d7_tollRule_67 ?_
    obtain ⟨r39, t40, k41, hf⟩ := bd_some hf
    have q42 := s7_take _ _ _ _ _ k41
    refine ev_callV (vs := [.int (262 : Int32)]) (sk := []) cls7 (mono_ob q37.1 h33) q42 (by decide) (Nat.le_of_ble_eq_true rfl) w776 w778 ws12 w9 w779 k7_take rfl (Nat.le_of_ble_eq_true rfl) d7_tollRule_70 ?_
    rcases ite_some hf with ⟨c43, hf⟩ | ⟨c43, hf⟩
    · refine ev_if_eq_P (tgt := 99) c43 (by decide) d7_tollRule_73 ?_
      refine ev_iconst ci_0 d7_tollRule_99 ?_
      obtain ⟨rfl, rfl⟩ := ret_some hf
      exact ev_zret rfl (by decide) d7_tollRule_100
    · refine ev_if_eq_Q (tgt := 99) c43 (by decide) d7_tollRule_73 ?_
      refine ev_aload_n (j := 0) (i := 0) (q := 0) rfl rfl d7_tollRule_76 ?_
      obtain ⟨r44, t45, k46, hf⟩ := bd_some hf
      have q47 := s7_cond 8 _ _ _ _ k46
      refine ev_callV (vs := []) (sk := []) cls7 (mono_ob q42.1 (mono_ob q37.1 h33)) q47 (by omega) (Nat.le_of_ble_eq_true rfl) w812 w814 ws19 w9 w815 k7_cond rfl (Nat.le_of_ble_eq_true rfl) d7_tollRule_77 ?_
      rcases ite_some hf with ⟨c48, hf⟩ | ⟨c48, hf⟩
      · refine ev_if_eq_P (tgt := 99) c48 (by decide) d7_tollRule_80 ?_
        refine ev_iconst ci_0 d7_tollRule_99 ?_
        obtain ⟨rfl, rfl⟩ := ret_some hf
        exact ev_zret rfl (by decide) d7_tollRule_100
      · refine ev_if_eq_Q (tgt := 99) c48 (by decide) d7_tollRule_80 ?_
        refine ev_aload_n (j := 0) (i := 0) (q := 0) rfl rfl d7_tollRule_83 ?_
        refine ev_sipush cs_259 d7_tollRule_84 ?_
        refine ev_iload_n (j := 1) (i := 1) (q := 1) rfl rfl d7_tollRule_87 ?_
        refine ev_iload_n (j := 2) (i := 2) (q := 2) rfl rfl d7_tollRule_88 ?_
        obtain ⟨r49, t50, k51, hf⟩ := bd_some hf
        have q52 := s7_closeRule _ _ _ _ _ _ _ k51
        refine ev_callV (vs := [.int (259 : Int32), .int v1, .int v2]) (sk := []) cls7 (mono_ob q47.1 (mono_ob q42.1 (mono_ob q37.1 h33))) q52 (by decide) (Nat.le_of_ble_eq_true rfl) w800 w802 ws17 w9 w803 k7_closeRule rfl (Nat.le_of_ble_eq_true rfl) d7_tollRule_89 ?_
        rcases ite_some hf with ⟨c53, hf⟩ | ⟨c53, hf⟩
        · refine ev_if_eq_P (tgt := 99) c53 (by decide) d7_tollRule_92 ?_
          refine ev_iconst ci_0 d7_tollRule_99 ?_
          obtain ⟨rfl, rfl⟩ := ret_some hf
          exact ev_zret rfl (by decide) d7_tollRule_100
        · refine ev_if_eq_Q (tgt := 99) c53 (by decide) d7_tollRule_92 ?_
          refine ev_iconst ci_1 d7_tollRule_95 ?_
          refine ev_goto (tgt := 100) (by decide) d7_tollRule_96 ?_
          obtain ⟨rfl, rfl⟩ := ret_some hf
          exact ev_zret rfl (by decide) d7_tollRule_100
def f7_tollRule (σ : St) (v0 : Nat) : Option (Int32 × St) :=
  gd (ob σ v0 7) (
  bd (f7_valueHere σ v0) fun r2 t3 => (
  lt (r2.toInt32) fun y6 => (
  bd (f7_take t3 v0 (-3 : Int32)) fun r8 t9 => (
  (if r8 = (0 : Int32) then
  some ((0 : Int32), t9)
  else
  bd (f7_take t9 v0 (260 : Int32)) fun r13 t14 => (
  (if r13 = (0 : Int32) then
  some ((0 : Int32), t14)
  else
  bd (f7_valueHere t14 v0) fun r18 t19 => (
  lt (r18.toInt32) fun y22 => (
  (if (sI t19 v0 8) = (-3 : Int32) then
  (if y22 = (0 : Int32) then
  f7_tollRule_p51 t19 v0
  else
  (if y22 < y6 then
  f7_tollRule_p51 t19 v0
  else
  f7_tollRule_p57 t19 v0 y6 y22))
  else
  f7_tollRule_p57 t19 v0 y6 y22))))))))))
set_option maxRecDepth 50000 in
theorem s7_tollRule : ∀ (σ : St) (v0 : Nat) (r : Int32) (τ : St), f7_tollRule σ v0 = some (r, τ) → Call 70 m7_tollRule [.ref v0] σ (some (.int r)) τ := by
  intro σ v0 r τ hf
  unfold f7_tollRule at hf
  refine Call.of (by decide +kernel) rfl (Nat.le_of_ble_eq_true rfl) ?_
  refine ev_aload_n (j := 0) (i := 0) (q := 0) rfl rfl d7_tollRule_0 ?_
  obtain ⟨h1, hf⟩ := gd_some hf
  obtain ⟨r2, t3, k4, hf⟩ := bd_some hf
  have q5 := s7_valueHere _ _ _ _ k4
  refine ev_callV (vs := []) (sk := []) cls7 h1 q5 (by decide) (Nat.le_of_ble_eq_true rfl) w768 w770 ws10 w9 w771 k7_valueHere rfl (Nat.le_of_ble_eq_true rfl) d7_tollRule_1 ?_
  refine ev_l2i d7_tollRule_4 ?_
  obtain ⟨y6, e7, hf⟩ := lt_some hf
  refine ev_nmI e7 ?_
  refine ev_istore_n (lv2 := [(1, .int y6), (0, .ref v0)]) (j := 1) (i := 1) rfl (by decide) rfl d7_tollRule_5 ?_
  refine ev_aload_n (j := 0) (i := 0) (q := 1) rfl rfl d7_tollRule_6 ?_
  refine ev_bipush cb_m3 d7_tollRule_7 ?_
  obtain ⟨r8, t9, k10, hf⟩ := bd_some hf
  have q11 := s7_take _ _ _ _ _ k10
  refine ev_callV (vs := [.int (-3 : Int32)]) (sk := []) cls7 (mono_ob q5.1 h1) q11 (by decide) (Nat.le_of_ble_eq_true rfl) w776 w778 ws12 w9 w779 k7_take rfl (Nat.le_of_ble_eq_true rfl) d7_tollRule_9 ?_
  rcases ite_some hf with ⟨c12, hf⟩ | ⟨c12, hf⟩
  · refine ev_if_eq_P (tgt := 25) c12 (by decide) d7_tollRule_12 ?_
    refine ev_iconst ci_0 d7_tollRule_25 ?_
    obtain ⟨rfl, rfl⟩ := ret_some hf
    exact ev_zret rfl (by decide) d7_tollRule_26
  · refine ev_if_eq_Q (tgt := 25) c12 (by decide) d7_tollRule_12 ?_
    refine ev_aload_n (j := 0) (i := 0) (q := 1) rfl rfl d7_tollRule_15 ?_
    refine ev_sipush cs_260 d7_tollRule_16 ?_
    obtain ⟨r13, t14, k15, hf⟩ := bd_some hf
    have q16 := s7_take _ _ _ _ _ k15
    refine ev_callV (vs := [.int (260 : Int32)]) (sk := []) cls7 (mono_ob q11.1 (mono_ob q5.1 h1)) q16 (by decide) (Nat.le_of_ble_eq_true rfl) w776 w778 ws12 w9 w779 k7_take rfl (Nat.le_of_ble_eq_true rfl) d7_tollRule_19 ?_
    rcases ite_some hf with ⟨c17, hf⟩ | ⟨c17, hf⟩
    · refine ev_if_ne_P (tgt := 27) c17 (by decide) d7_tollRule_22 ?_
      refine ev_iconst ci_0 d7_tollRule_25 ?_
      obtain ⟨rfl, rfl⟩ := ret_some hf
      exact ev_zret rfl (by decide) d7_tollRule_26
    · refine ev_if_ne_Q (tgt := 27) c17 (by decide) d7_tollRule_22 ?_
      refine ev_aload_n (j := 0) (i := 0) (q := 1) rfl rfl d7_tollRule_27 ?_
      obtain ⟨r18, t19, k20, hf⟩ := bd_some hf
      have q21 := s7_valueHere _ _ _ _ k20
      refine ev_callV (vs := []) (sk := []) cls7 (mono_ob q16.1 (mono_ob q11.1 (mono_ob q5.1 h1))) q21 (by decide) (Nat.le_of_ble_eq_true rfl) w768 w770 ws10 w9 w771 k7_valueHere rfl (Nat.le_of_ble_eq_true rfl) d7_tollRule_28 ?_
      refine ev_l2i d7_tollRule_31 ?_
      obtain ⟨y22, e23, hf⟩ := lt_some hf
      refine ev_nmI e23 ?_
      refine ev_istore_n (lv2 := [(2, .int y22), (1, .int y6), (0, .ref v0)]) (j := 2) (i := 2) rfl (by decide) rfl d7_tollRule_32 ?_
      refine ev_aload_n (j := 0) (i := 0) (q := 2) rfl rfl d7_tollRule_33 ?_
      refine ev_getI cls7 (j := 8) (by decide) rfl w280 (mono_ob q21.1 (mono_ob q16.1 (mono_ob q11.1 (mono_ob q5.1 h1)))) d7_tollRule_34 ?_
      refine ev_bipush cb_m3 d7_tollRule_37 ?_
      rcases ite_some hf with ⟨c24, hf⟩ | ⟨c24, hf⟩
      · refine ev_icmp_ne_P (tgt := 57) c24 (by decide) d7_tollRule_39 ?_
        refine ev_iload_n (j := 2) (i := 2) (q := 0) rfl rfl d7_tollRule_42 ?_
        rcases ite_some hf with ⟨c25, hf⟩ | ⟨c25, hf⟩
        · refine ev_if_eq_P (tgt := 51) c25 (by decide) d7_tollRule_43 ?_
          exact Ev.sub [2] rfl (s7_tollRule_p51 _ _ _ _ hf)
        · refine ev_if_eq_Q (tgt := 51) c25 (by decide) d7_tollRule_43 ?_
          refine ev_iload_n (j := 2) (i := 2) (q := 0) rfl rfl d7_tollRule_46 ?_
          refine ev_iload_n (j := 1) (i := 1) (q := 1) rfl rfl d7_tollRule_47 ?_
          rcases ite_some hf with ⟨c26, hf⟩ | ⟨c26, hf⟩
          · refine ev_icmp_ge_P (tgt := 57) c26 (by decide) d7_tollRule_48 ?_
            exact Ev.sub [2] rfl (s7_tollRule_p51 _ _ _ _ hf)
          · refine ev_icmp_ge_Q (tgt := 57) c26 (by decide) d7_tollRule_48 ?_
            exact Ev.sub [2, 1, 0] rfl (s7_tollRule_p57 _ _ _ _ _ _ hf)
      · refine ev_icmp_ne_Q (tgt := 57) c24 (by decide) d7_tollRule_39 ?_
        exact Ev.sub [2, 1, 0] rfl (s7_tollRule_p57 _ _ _ _ _ _ hf)
abbrev m7_wayRule : MD := ("MillBoats$Reader", ⟨"MillBoats$Reader", "wayRule", "()Z"⟩, prog_9_method_19_code, 2, (some Jvm.ClassFile.FieldType.boolean))
theorem k7_wayRule : okY m7_wayRule.2.1 0 := ⟨by decide +kernel, by decide +kernel, by decide +kernel⟩
def f7_wayRule_p27 (σ : St) (v0 : Nat) (v1 : Int32) : Option (Int32 × St) :=
  gd (ob σ v0 7) (
  bd (f7_take σ v0 (-3 : Int32)) fun r16 t17 => (
  (if r16 = (0 : Int32) then
  some ((0 : Int32), t17)
  else
  bd (f7_take t17 v0 (262 : Int32)) fun r21 t22 => (
  (if r21 = (0 : Int32) then
  some ((0 : Int32), t22)
  else
  bd (f7_cond 8 t22 v0) fun r26 t27 => (
  (if r26 = (0 : Int32) then
  some ((0 : Int32), t27)
  else
  bd (f7_closeRule t27 v0 (261 : Int32) v1 (0 : Int32)) fun r31 t32 => (
  (if r31 = (0 : Int32) then
  some ((0 : Int32), t32)
  else
  some ((1 : Int32), t32))))))))))
set_option maxRecDepth 20000 in
theorem s7_wayRule_p27 : ∀ (σ : St) (v0 : Nat) (v1 : Int32) (r : Int32) (τ : St), f7_wayRule_p27 σ v0 v1 = some (r, τ) → Ev 70 m7_wayRule 27 [(0, .ref v0), (1, .int v1)] [] σ (some (.int r)) τ := by
  intro σ v0 v1 r τ hf
  unfold f7_wayRule_p27 at hf
  refine ev_aload_n (j := 0) (i := 0) (q := 0) rfl rfl d7_wayRule_27 ?_
  refine ev_bipush cb_m3 d7_wayRule_28 ?_
  obtain ⟨h15, hf⟩ := gd_some hf
  obtain ⟨r16, t17, k18, hf⟩ := bd_some hf
  have q19 := s7_take _ _ _ _ _ k18
  refine ev_callV (vs := [.int (-3 : Int32)]) (sk := []) cls7 h15 q19 (by decide) (Nat.le_of_ble_eq_true rfl) w776 w778 ws12 w9 w779 k7_take rfl (Nat.le_of_ble_eq_true rfl) d7_wayRule_30 ?_
  rcases ite_some hf with ⟨c20, hf⟩ | ⟨c20, hf⟩
  · refine ev_if_eq_P (tgt := 69) c20 (by decide) d7_wayRule_33 ?_
    refine ev_iconst ci_0 d7_wayRule_69 ?_
    obtain ⟨rfl, rfl⟩ := ret_some hf
    exact ev_zret rfl (by decide) d7_wayRule_70
  · refine ev_if_eq_Q (tgt := 69) c20 (by decide) d7_wayRule_33 ?_
    refine ev_aload_n (j := 0) (i := 0) (q := 0) rfl rfl d7_wayRule_36 ?_
    refine ev_sipush cs_262 d7_wayRule_37 ?_
    obtain ⟨r21, t22, k23, hf⟩ := bd_some hf
    have q24 := s7_take _ _ _ _ _ k23
    refine ev_callV (vs := [.int (262 : Int32)]) (sk := []) cls7 (mono_ob q19.1 h15) q24 (by decide) (Nat.le_of_ble_eq_true rfl) w776 w778 ws12 w9 w779 k7_take rfl (Nat.le_of_ble_eq_true rfl) d7_wayRule_40 ?_
    rcases ite_some hf with ⟨c25, hf⟩ | ⟨c25, hf⟩
    · refine ev_if_eq_P (tgt := 69) c25 (by decide) d7_wayRule_43 ?_
      refine ev_iconst ci_0 d7_wayRule_69 ?_
      obtain ⟨rfl, rfl⟩ := ret_some hf
      exact ev_zret rfl (by decide) d7_wayRule_70
    · refine ev_if_eq_Q (tgt := 69) c25 (by decide) d7_wayRule_43 ?_
      refine ev_aload_n (j := 0) (i := 0) (q := 0) rfl rfl d7_wayRule_46 ?_
      obtain ⟨r26, t27, k28, hf⟩ := bd_some hf
      have q29 := s7_cond 8 _ _ _ _ k28
      refine ev_callV (vs := []) (sk := []) cls7 (mono_ob q24.1 (mono_ob q19.1 h15)) q29 (by omega) (Nat.le_of_ble_eq_true rfl) w812 w814 ws19 w9 w815 k7_cond rfl (Nat.le_of_ble_eq_true rfl) d7_wayRule_47 ?_
      rcases ite_some hf with ⟨c30, hf⟩ | ⟨c30, hf⟩
      · refine ev_if_eq_P (tgt := 69) c30 (by decide) d7_wayRule_50 ?_
        refine ev_iconst ci_0 d7_wayRule_69 ?_
        obtain ⟨rfl, rfl⟩ := ret_some hf
        exact ev_zret rfl (by decide) d7_wayRule_70
      · refine ev_if_eq_Q (tgt := 69) c30 (by decide) d7_wayRule_50 ?_
        refine ev_aload_n (j := 0) (i := 0) (q := 0) rfl rfl d7_wayRule_53 ?_
        refine ev_sipush cs_261 d7_wayRule_54 ?_
        refine ev_iload_n (j := 1) (i := 1) (q := 1) rfl rfl d7_wayRule_57 ?_
        refine ev_iconst ci_0 d7_wayRule_58 ?_
        obtain ⟨r31, t32, k33, hf⟩ := bd_some hf
        have q34 := s7_closeRule _ _ _ _ _ _ _ k33
        refine ev_callV (vs := [.int (261 : Int32), .int v1, .int (0 : Int32)]) (sk := []) cls7 (mono_ob q29.1 (mono_ob q24.1 (mono_ob q19.1 h15))) q34 (by decide) (Nat.le_of_ble_eq_true rfl) w800 w802 ws17 w9 w803 k7_closeRule rfl (Nat.le_of_ble_eq_true rfl) d7_wayRule_59 ?_
        rcases ite_some hf with ⟨c35, hf⟩ | ⟨c35, hf⟩
        · refine ev_if_eq_P (tgt := 69) c35 (by decide) d7_wayRule_62 ?_
          refine ev_iconst ci_0 d7_wayRule_69 ?_
          obtain ⟨rfl, rfl⟩ := ret_some hf
          exact ev_zret rfl (by decide) d7_wayRule_70
        · refine ev_if_eq_Q (tgt := 69) c35 (by decide) d7_wayRule_62 ?_
          refine ev_iconst ci_1 d7_wayRule_65 ?_
          refine ev_goto (tgt := 70) (by decide) d7_wayRule_66 ?_
          obtain ⟨rfl, rfl⟩ := ret_some hf
          exact ev_zret rfl (by decide) d7_wayRule_70
def f7_wayRule (σ : St) (v0 : Nat) : Option (Int32 × St) :=
  gd (ob σ v0 7) (
  bd (f7_valueHere σ v0) fun r2 t3 => (
  lt (r2.toInt32) fun y6 => (
  (if (sI t3 v0 8) = (-3 : Int32) then
  (if y6 ≤ (6 : Int32) then
  f7_wayRule_p27 t3 v0 y6
  else
  bd (f7_refuse t3 v0 (2 : Int32)) fun r10 t11 => (
  gd (isB r10) (
  some (r10, t11))))
  else
  f7_wayRule_p27 t3 v0 y6))))
set_option maxRecDepth 50000 in
theorem s7_wayRule : ∀ (σ : St) (v0 : Nat) (r : Int32) (τ : St), f7_wayRule σ v0 = some (r, τ) → Call 70 m7_wayRule [.ref v0] σ (some (.int r)) τ := by
  intro σ v0 r τ hf
  unfold f7_wayRule at hf
  refine Call.of (by decide +kernel) rfl (Nat.le_of_ble_eq_true rfl) ?_
  refine ev_aload_n (j := 0) (i := 0) (q := 0) rfl rfl d7_wayRule_0 ?_
  obtain ⟨h1, hf⟩ := gd_some hf
  obtain ⟨r2, t3, k4, hf⟩ := bd_some hf
  have q5 := s7_valueHere _ _ _ _ k4
  refine ev_callV (vs := []) (sk := []) cls7 h1 q5 (by decide) (Nat.le_of_ble_eq_true rfl) w768 w770 ws10 w9 w771 k7_valueHere rfl (Nat.le_of_ble_eq_true rfl) d7_wayRule_1 ?_
  refine ev_l2i d7_wayRule_4 ?_
  obtain ⟨y6, e7, hf⟩ := lt_some hf
  refine ev_nmI e7 ?_
  refine ev_istore_n (lv2 := [(1, .int y6), (0, .ref v0)]) (j := 1) (i := 1) rfl (by decide) rfl d7_wayRule_5 ?_
  refine ev_aload_n (j := 0) (i := 0) (q := 1) rfl rfl d7_wayRule_6 ?_
  refine ev_getI cls7 (j := 8) (by decide) rfl w280 (mono_ob q5.1 h1) d7_wayRule_7 ?_
  refine ev_bipush cb_m3 d7_wayRule_10 ?_
  rcases ite_some hf with ⟨c8, hf⟩ | ⟨c8, hf⟩
  · refine ev_icmp_ne_P (tgt := 27) c8 (by decide) d7_wayRule_12 ?_
    refine ev_iload_n (j := 1) (i := 1) (q := 0) rfl rfl d7_wayRule_15 ?_
    refine ev_bipush cb_6 d7_wayRule_16 ?_
    rcases ite_some hf with ⟨c9, hf⟩ | ⟨c9, hf⟩
    · refine ev_icmp_le_P (tgt := 27) c9 (by decide) d7_wayRule_18 ?_
      exact Ev.sub [1, 0] rfl (s7_wayRule_p27 _ _ _ _ _ hf)
    · refine ev_icmp_le_Q (tgt := 27) c9 (by decide) d7_wayRule_18 ?_
      refine ev_aload_n (j := 0) (i := 0) (q := 1) rfl rfl d7_wayRule_21 ?_
      refine ev_iconst ci_2 d7_wayRule_22 ?_
      obtain ⟨r10, t11, k12, hf⟩ := bd_some hf
      have q13 := s7_refuse _ _ _ _ _ k12
      refine ev_callV (vs := [.int (2 : Int32)]) (sk := []) cls7 (mono_ob q5.1 h1) q13 (by decide) (Nat.le_of_ble_eq_true rfl) w756 w758 ws7 w9 w759 k7_refuse rfl (Nat.le_of_ble_eq_true rfl) d7_wayRule_23 ?_
      obtain ⟨h14, hf⟩ := gd_some hf
      obtain ⟨rfl, rfl⟩ := ret_some hf
      exact ev_zret rfl (narB h14) d7_wayRule_26
  · refine ev_icmp_ne_Q (tgt := 27) c8 (by decide) d7_wayRule_12 ?_
    exact Ev.sub [1, 0] rfl (s7_wayRule_p27 _ _ _ _ _ hf)
abbrev m7_rule : MD := ("MillBoats$Reader", ⟨"MillBoats$Reader", "rule", "()Z"⟩, prog_9_method_15_code, 2, (some Jvm.ClassFile.FieldType.boolean))
theorem k7_rule : okY m7_rule.2.1 0 := ⟨by decide +kernel, by decide +kernel, by decide +kernel⟩
def f7_rule_p46 (σ : St) (v0 : Nat) (v1 : Int32) : Option (Int32 × St) :=
  gd (ob σ v0 7) (
  lt (sR σ v0 5) fun b15 => (
  gd (nz b15) (
  gd (ob σ b15 10) (
  (if (sI σ b15 6) < (20 : Int32) then
  bd (f7_step σ v0) fun r20 t21 => (
  (if v1 = (256 : Int32) then
  bd (f7_letRule t21 v0) fun r25 t26 => (
  gd (isB r25) (
  some (r25, t26)))
  else
  (if v1 = (259 : Int32) then
  bd (f7_tollRule t21 v0) fun r31 t32 => (
  gd (isB r31) (
  some (r31, t32)))
  else
  (if v1 = (261 : Int32) then
  bd (f7_wayRule t21 v0) fun r37 t38 => (
  gd (isB r37) (
  some (r37, t38)))
  else
  bd (f7_take t21 v0 (262 : Int32)) fun r42 t43 => (
  (if r42 = (0 : Int32) then
  some ((0 : Int32), t43)
  else
  bd (f7_cond 8 t43 v0) fun r47 t48 => (
  (if r47 = (0 : Int32) then
  some ((0 : Int32), t48)
  else
  bd (f7_closeRule t48 v0 v1 (0 : Int32) (0 : Int32)) fun r52 t53 => (
  (if r52 = (0 : Int32) then
  some ((0 : Int32), t53)
  else
  some ((1 : Int32), t53)))))))))))
  else
  bd (f7_refuse σ v0 (4 : Int32)) fun r57 t58 => (
  gd (isB r57) (
  some (r57, t58))))))))
set_option maxRecDepth 20000 in
theorem s7_rule_p46 : ∀ (σ : St) (v0 : Nat) (v1 : Int32) (r : Int32) (τ : St), f7_rule_p46 σ v0 v1 = some (r, τ) → Ev 71 m7_rule 46 [(0, .ref v0), (1, .int v1)] [] σ (some (.int r)) τ := by
  intro σ v0 v1 r τ hf
  unfold f7_rule_p46 at hf
  refine ev_aload_n (j := 0) (i := 0) (q := 0) rfl rfl d7_rule_46 ?_
  obtain ⟨h14, hf⟩ := gd_some hf
  obtain ⟨b15, e16, hf⟩ := lt_some hf
  obtain ⟨h17, hf⟩ := gd_some hf
  refine ev_getRb cls7 (j := 5) (by decide) rfl w276 h14 e16 (nz_ne h17) d7_rule_47 ?_
  obtain ⟨h18, hf⟩ := gd_some hf
  refine ev_getIN cls10 (j := 6) (by decide) rfl w197 h18 d7_rule_50 ?_
  refine ev_bipush cb_20 d7_rule_53 ?_
  rcases ite_some hf with ⟨c19, hf⟩ | ⟨c19, hf⟩
  · refine ev_icmp_lt_P (tgt := 64) c19 (by decide) d7_rule_55 ?_
    refine ev_aload_n (j := 0) (i := 0) (q := 0) rfl rfl d7_rule_64 ?_
    obtain ⟨r20, t21, k22, hf⟩ := bd_some hf
    have q23 := s7_step _ _ _ _ k22
    refine ev_callV (vs := []) (sk := []) cls7 h14 q23 (by decide) (Nat.le_of_ble_eq_true rfl) w760 w762 ws8 w9 w763 k7_step rfl (Nat.le_of_ble_eq_true rfl) d7_rule_65 ?_
    refine ev_iload_n (j := 1) (i := 1) (q := 1) rfl rfl d7_rule_68 ?_
    rcases ite_some hf with ⟨c24, hf⟩ | ⟨c24, hf⟩
    · refine ev_lookup (off := 35) (tgt := 104) d7_rule_69 (by decide) (by rw [c24]; decide) (by decide) ?_
      refine ev_aload_n (j := 0) (i := 0) (q := 0) rfl rfl d7_rule_104 ?_
      obtain ⟨r25, t26, k27, hf⟩ := bd_some hf
      have q28 := s7_letRule _ _ _ _ k27
      refine ev_callV (vs := []) (sk := []) cls7 (mono_ob q23.1 h14) q28 (by decide) (Nat.le_of_ble_eq_true rfl) w764 w766 ws9 w9 w767 k7_letRule rfl (Nat.le_of_ble_eq_true rfl) d7_rule_105 ?_
      obtain ⟨h29, hf⟩ := gd_some hf
      obtain ⟨rfl, rfl⟩ := ret_some hf
      exact ev_zret rfl (narB h29) d7_rule_108
    rcases ite_some hf with ⟨c30, hf⟩ | ⟨c30, hf⟩
    · refine ev_lookup (off := 40) (tgt := 109) d7_rule_69 (by decide) (by rw [c30]; decide) (by decide) ?_
      refine ev_aload_n (j := 0) (i := 0) (q := 0) rfl rfl d7_rule_109 ?_
      obtain ⟨r31, t32, k33, hf⟩ := bd_some hf
      have q34 := s7_tollRule _ _ _ _ k33
      refine ev_callV (vs := []) (sk := []) cls7 (mono_ob q23.1 h14) q34 (by decide) (Nat.le_of_ble_eq_true rfl) w808 w810 ws18 w9 w811 k7_tollRule rfl (Nat.le_of_ble_eq_true rfl) d7_rule_110 ?_
      obtain ⟨h35, hf⟩ := gd_some hf
      obtain ⟨rfl, rfl⟩ := ret_some hf
      exact ev_zret rfl (narB h35) d7_rule_113
    rcases ite_some hf with ⟨c36, hf⟩ | ⟨c36, hf⟩
    · refine ev_lookup (off := 45) (tgt := 114) d7_rule_69 (by decide) (by rw [c36]; decide) (by decide) ?_
      refine ev_aload_n (j := 0) (i := 0) (q := 0) rfl rfl d7_rule_114 ?_
      obtain ⟨r37, t38, k39, hf⟩ := bd_some hf
      have q40 := s7_wayRule _ _ _ _ k39
      refine ev_callV (vs := []) (sk := []) cls7 (mono_ob q23.1 h14) q40 (by decide) (Nat.le_of_ble_eq_true rfl) w832 w834 ws24 w9 w835 k7_wayRule rfl (Nat.le_of_ble_eq_true rfl) d7_rule_115 ?_
      obtain ⟨h41, hf⟩ := gd_some hf
      obtain ⟨rfl, rfl⟩ := ret_some hf
      exact ev_zret rfl (narB h41) d7_rule_118
    refine ev_lookup (off := 50) (tgt := 119) d7_rule_69 (by decide) (by have nc24 : v1.toInt ≠ 256 := neI c24; have nc30 : v1.toInt ≠ 259 := neI c30; have nc36 : v1.toInt ≠ 261 := neI c36; exact look_out nc24 nc30 nc36) (by decide) ?_
    refine ev_aload_n (j := 0) (i := 0) (q := 0) rfl rfl d7_rule_119 ?_
    refine ev_sipush cs_262 d7_rule_120 ?_
    obtain ⟨r42, t43, k44, hf⟩ := bd_some hf
    have q45 := s7_take _ _ _ _ _ k44
    refine ev_callV (vs := [.int (262 : Int32)]) (sk := []) cls7 (mono_ob q23.1 h14) q45 (by decide) (Nat.le_of_ble_eq_true rfl) w776 w778 ws12 w9 w779 k7_take rfl (Nat.le_of_ble_eq_true rfl) d7_rule_123 ?_
    rcases ite_some hf with ⟨c46, hf⟩ | ⟨c46, hf⟩
    · refine ev_if_eq_P (tgt := 150) c46 (by decide) d7_rule_126 ?_
      refine ev_iconst ci_0 d7_rule_150 ?_
      obtain ⟨rfl, rfl⟩ := ret_some hf
      exact ev_zret rfl (by decide) d7_rule_151
    · refine ev_if_eq_Q (tgt := 150) c46 (by decide) d7_rule_126 ?_
      refine ev_aload_n (j := 0) (i := 0) (q := 0) rfl rfl d7_rule_129 ?_
      obtain ⟨r47, t48, k49, hf⟩ := bd_some hf
      have q50 := s7_cond 8 _ _ _ _ k49
      refine ev_callV (vs := []) (sk := []) cls7 (mono_ob q45.1 (mono_ob q23.1 h14)) q50 (by omega) (Nat.le_of_ble_eq_true rfl) w812 w814 ws19 w9 w815 k7_cond rfl (Nat.le_of_ble_eq_true rfl) d7_rule_130 ?_
      rcases ite_some hf with ⟨c51, hf⟩ | ⟨c51, hf⟩
      · refine ev_if_eq_P (tgt := 150) c51 (by decide) d7_rule_133 ?_
        refine ev_iconst ci_0 d7_rule_150 ?_
        obtain ⟨rfl, rfl⟩ := ret_some hf
        exact ev_zret rfl (by decide) d7_rule_151
      · refine ev_if_eq_Q (tgt := 150) c51 (by decide) d7_rule_133 ?_
        refine ev_aload_n (j := 0) (i := 0) (q := 0) rfl rfl d7_rule_136 ?_
        refine ev_iload_n (j := 1) (i := 1) (q := 1) rfl rfl d7_rule_137 ?_
        refine ev_iconst ci_0 d7_rule_138 ?_
        refine ev_iconst ci_0 d7_rule_139 ?_
        obtain ⟨r52, t53, k54, hf⟩ := bd_some hf
        have q55 := s7_closeRule _ _ _ _ _ _ _ k54
        refine ev_callV (vs := [.int v1, .int (0 : Int32), .int (0 : Int32)]) (sk := []) cls7 (mono_ob q50.1 (mono_ob q45.1 (mono_ob q23.1 h14))) q55 (by decide) (Nat.le_of_ble_eq_true rfl) w800 w802 ws17 w9 w803 k7_closeRule rfl (Nat.le_of_ble_eq_true rfl) d7_rule_140 ?_
        rcases ite_some hf with ⟨c56, hf⟩ | ⟨c56, hf⟩
        · refine ev_if_eq_P (tgt := 150) c56 (by decide) d7_rule_143 ?_
          refine ev_iconst ci_0 d7_rule_150 ?_
          obtain ⟨rfl, rfl⟩ := ret_some hf
          exact ev_zret rfl (by decide) d7_rule_151
        · refine ev_if_eq_Q (tgt := 150) c56 (by decide) d7_rule_143 ?_
          refine ev_iconst ci_1 d7_rule_146 ?_
          refine ev_goto (tgt := 151) (by decide) d7_rule_147 ?_
          obtain ⟨rfl, rfl⟩ := ret_some hf
          exact ev_zret rfl (by decide) d7_rule_151
  · refine ev_icmp_lt_Q (tgt := 64) c19 (by decide) d7_rule_55 ?_
    refine ev_aload_n (j := 0) (i := 0) (q := 0) rfl rfl d7_rule_58 ?_
    refine ev_iconst ci_4 d7_rule_59 ?_
    obtain ⟨r57, t58, k59, hf⟩ := bd_some hf
    have q60 := s7_refuse _ _ _ _ _ k59
    refine ev_callV (vs := [.int (4 : Int32)]) (sk := []) cls7 h14 q60 (by decide) (Nat.le_of_ble_eq_true rfl) w756 w758 ws7 w9 w759 k7_refuse rfl (Nat.le_of_ble_eq_true rfl) d7_rule_60 ?_
    obtain ⟨h61, hf⟩ := gd_some hf
    obtain ⟨rfl, rfl⟩ := ret_some hf
    exact ev_zret rfl (narB h61) d7_rule_63
def f7_rule (σ : St) (v0 : Nat) : Option (Int32 × St) :=
  gd (ob σ v0 7) (
  lt (sI σ v0 8) fun y2 => (
  (if y2 = (256 : Int32) then
  f7_rule_p46 σ v0 y2
  else
  (if y2 = (257 : Int32) then
  f7_rule_p46 σ v0 y2
  else
  (if y2 = (258 : Int32) then
  f7_rule_p46 σ v0 y2
  else
  (if y2 = (259 : Int32) then
  f7_rule_p46 σ v0 y2
  else
  (if y2 = (261 : Int32) then
  f7_rule_p46 σ v0 y2
  else
  bd (f7_refuse σ v0 (1 : Int32)) fun r9 t10 => (
  gd (isB r9) (
  some (r9, t10))))))))))
set_option maxRecDepth 50000 in
theorem s7_rule : ∀ (σ : St) (v0 : Nat) (r : Int32) (τ : St), f7_rule σ v0 = some (r, τ) → Call 71 m7_rule [.ref v0] σ (some (.int r)) τ := by
  intro σ v0 r τ hf
  unfold f7_rule at hf
  refine Call.of (by decide +kernel) rfl (Nat.le_of_ble_eq_true rfl) ?_
  refine ev_aload_n (j := 0) (i := 0) (q := 0) rfl rfl d7_rule_0 ?_
  obtain ⟨h1, hf⟩ := gd_some hf
  refine ev_getI cls7 (j := 8) (by decide) rfl w280 h1 d7_rule_1 ?_
  obtain ⟨y2, e3, hf⟩ := lt_some hf
  refine ev_nmI e3 ?_
  refine ev_istore_n (lv2 := [(1, .int y2), (0, .ref v0)]) (j := 1) (i := 1) rfl (by decide) rfl d7_rule_4 ?_
  refine ev_iload_n (j := 1) (i := 1) (q := 0) rfl rfl d7_rule_5 ?_
  refine ev_sipush cs_256 d7_rule_6 ?_
  rcases ite_some hf with ⟨c4, hf⟩ | ⟨c4, hf⟩
  · refine ev_icmp_eq_P (tgt := 46) c4 (by decide) d7_rule_9 ?_
    exact Ev.sub [1, 0] rfl (s7_rule_p46 _ _ _ _ _ hf)
  · refine ev_icmp_eq_Q (tgt := 46) c4 (by decide) d7_rule_9 ?_
    refine ev_iload_n (j := 1) (i := 1) (q := 0) rfl rfl d7_rule_12 ?_
    refine ev_sipush cs_257 d7_rule_13 ?_
    rcases ite_some hf with ⟨c5, hf⟩ | ⟨c5, hf⟩
    · refine ev_icmp_eq_P (tgt := 46) c5 (by decide) d7_rule_16 ?_
      exact Ev.sub [1, 0] rfl (s7_rule_p46 _ _ _ _ _ hf)
    · refine ev_icmp_eq_Q (tgt := 46) c5 (by decide) d7_rule_16 ?_
      refine ev_iload_n (j := 1) (i := 1) (q := 0) rfl rfl d7_rule_19 ?_
      refine ev_sipush cs_258 d7_rule_20 ?_
      rcases ite_some hf with ⟨c6, hf⟩ | ⟨c6, hf⟩
      · refine ev_icmp_eq_P (tgt := 46) c6 (by decide) d7_rule_23 ?_
        exact Ev.sub [1, 0] rfl (s7_rule_p46 _ _ _ _ _ hf)
      · refine ev_icmp_eq_Q (tgt := 46) c6 (by decide) d7_rule_23 ?_
        refine ev_iload_n (j := 1) (i := 1) (q := 0) rfl rfl d7_rule_26 ?_
        refine ev_sipush cs_259 d7_rule_27 ?_
        rcases ite_some hf with ⟨c7, hf⟩ | ⟨c7, hf⟩
        · refine ev_icmp_eq_P (tgt := 46) c7 (by decide) d7_rule_30 ?_
          exact Ev.sub [1, 0] rfl (s7_rule_p46 _ _ _ _ _ hf)
        · refine ev_icmp_eq_Q (tgt := 46) c7 (by decide) d7_rule_30 ?_
          refine ev_iload_n (j := 1) (i := 1) (q := 0) rfl rfl d7_rule_33 ?_
          refine ev_sipush cs_261 d7_rule_34 ?_
          rcases ite_some hf with ⟨c8, hf⟩ | ⟨c8, hf⟩
          · refine ev_icmp_eq_P (tgt := 46) c8 (by decide) d7_rule_37 ?_
            exact Ev.sub [1, 0] rfl (s7_rule_p46 _ _ _ _ _ hf)
          · refine ev_icmp_eq_Q (tgt := 46) c8 (by decide) d7_rule_37 ?_
            refine ev_aload_n (j := 0) (i := 0) (q := 1) rfl rfl d7_rule_40 ?_
            refine ev_iconst ci_1 d7_rule_41 ?_
            obtain ⟨r9, t10, k11, hf⟩ := bd_some hf
            have q12 := s7_refuse _ _ _ _ _ k11
            refine ev_callV (vs := [.int (1 : Int32)]) (sk := []) cls7 h1 q12 (by decide) (Nat.le_of_ble_eq_true rfl) w756 w758 ws7 w9 w759 k7_refuse rfl (Nat.le_of_ble_eq_true rfl) d7_rule_42 ?_
            obtain ⟨h13, hf⟩ := gd_some hf
            obtain ⟨rfl, rfl⟩ := ret_some hf
            exact ev_zret rfl (narB h13) d7_rule_45
abbrev m7_addToken : MD := ("MillBoats$Reader", ⟨"MillBoats$Reader", "addToken", "(IIJ)V"⟩, prog_9_method_10_code, 5, (none : Option Jvm.ClassFile.FieldType))
theorem k7_addToken : okY m7_addToken.2.1 3 := ⟨by decide +kernel, by decide +kernel, by decide +kernel⟩
def f7_addToken (σ : St) (v0 : Nat) (v1 : Int32) (v2 : Int32) (v3 : Int64) : Option (Unit × St) :=
  gd (ob σ v0 7) (
  lt (sR σ v0 0) fun b2 => (
  gd (nz b2) (
  gd (ob σ b2 14) (
  (if (sI σ v0 6) < (Int32.ofNat (sK σ b2).2) then
  gd (inb σ b2 (sI σ v0 6)) (
  lt (wI σ b2 (ix (sI σ v0 6)) v1) fun t8 => (
  lt (sR t8 v0 1) fun b10 => (
  gd (nz b10) (
  gd (ob t8 b10 14) (
  gd (inb t8 b10 (sI t8 v0 6)) (
  lt (wI t8 b10 (ix (sI t8 v0 6)) v2) fun t15 => (
  lt (sR t15 v0 2) fun b17 => (
  gd (nz b17) (
  gd (ob t15 b17 15) (
  gd (inb t15 b17 (sI t15 v0 6)) (
  lt (wL t15 b17 (ix (sI t15 v0 6)) v3) fun t22 => (
  lt (wI t22 v0 6 ((sI t22 v0 6) + (1 : Int32))) fun t24 => (
  some ((), t24))))))))))))))
  else
  some ((), σ))))))
set_option maxRecDepth 50000 in
theorem s7_addToken : ∀ (σ : St) (v0 : Nat) (v1 : Int32) (v2 : Int32) (v3 : Int64) (r : Unit) (τ : St), f7_addToken σ v0 v1 v2 v3 = some (r, τ) → Call 2 m7_addToken [.ref v0, .int v1, .int v2, .long v3] σ none τ := by
  intro σ v0 v1 v2 v3 r τ hf
  unfold f7_addToken at hf
  refine Call.of (by decide +kernel) rfl (Nat.le_of_ble_eq_true rfl) ?_
  refine ev_aload_n (j := 0) (i := 0) (q := 0) rfl rfl d7_addToken_0 ?_
  obtain ⟨h1, hf⟩ := gd_some hf
  refine ev_getI cls7 (j := 6) (by decide) rfl w278 h1 d7_addToken_1 ?_
  refine ev_aload_n (j := 0) (i := 0) (q := 0) rfl rfl d7_addToken_4 ?_
  obtain ⟨b2, e3, hf⟩ := lt_some hf
  obtain ⟨h4, hf⟩ := gd_some hf
  refine ev_getRb cls7 (j := 0) (by decide) rfl w271 h1 e3 (nz_ne h4) d7_addToken_5 ?_
  obtain ⟨h5, hf⟩ := gd_some hf
  refine ev_alen (kd := 14) (by decide) (by decide) h5 d7_addToken_8 ?_
  rcases ite_some hf with ⟨c6, hf⟩ | ⟨c6, hf⟩
  · refine ev_icmp_ge_P (tgt := 52) c6 (by decide) d7_addToken_9 ?_
    refine ev_aload_n (j := 0) (i := 0) (q := 0) rfl rfl d7_addToken_12 ?_
    refine ev_getRb cls7 (j := 0) (by decide) rfl w271 h1 e3 (nz_ne h4) d7_addToken_13 ?_
    refine ev_aload_n (j := 0) (i := 0) (q := 0) rfl rfl d7_addToken_16 ?_
    refine ev_getI cls7 (j := 6) (by decide) rfl w278 h1 d7_addToken_17 ?_
    refine ev_iload_n (j := 1) (i := 1) (q := 1) rfl rfl d7_addToken_20 ?_
    obtain ⟨h7, hf⟩ := gd_some hf
    obtain ⟨t8, e9, hf⟩ := lt_some hf
    refine ev_iast h5 h7 d7_addToken_21 (ev_nmS e9 ?_)
    refine ev_aload_n (j := 0) (i := 0) (q := 0) rfl rfl d7_addToken_22 ?_
    obtain ⟨b10, e11, hf⟩ := lt_some hf
    obtain ⟨h12, hf⟩ := gd_some hf
    refine ev_getRb cls7 (j := 1) (by decide) rfl w272 (mono_ob (mono_eI e9) h1) e11 (nz_ne h12) d7_addToken_23 ?_
    refine ev_aload_n (j := 0) (i := 0) (q := 0) rfl rfl d7_addToken_26 ?_
    refine ev_getI cls7 (j := 6) (by decide) rfl w278 (mono_ob (mono_eI e9) h1) d7_addToken_27 ?_
    refine ev_iload_n (j := 2) (i := 2) (q := 2) rfl rfl d7_addToken_30 ?_
    obtain ⟨h13, hf⟩ := gd_some hf
    obtain ⟨h14, hf⟩ := gd_some hf
    obtain ⟨t15, e16, hf⟩ := lt_some hf
    refine ev_iast h13 h14 d7_addToken_31 (ev_nmS e16 ?_)
    refine ev_aload_n (j := 0) (i := 0) (q := 0) rfl rfl d7_addToken_32 ?_
    obtain ⟨b17, e18, hf⟩ := lt_some hf
    obtain ⟨h19, hf⟩ := gd_some hf
    refine ev_getRb cls7 (j := 2) (by decide) rfl w273 (mono_ob (mono_eI e16) (mono_ob (mono_eI e9) h1)) e18 (nz_ne h19) d7_addToken_33 ?_
    refine ev_aload_n (j := 0) (i := 0) (q := 0) rfl rfl d7_addToken_36 ?_
    refine ev_getI cls7 (j := 6) (by decide) rfl w278 (mono_ob (mono_eI e16) (mono_ob (mono_eI e9) h1)) d7_addToken_37 ?_
    refine ev_lload_n (j := 3) (i := 3) (q := 3) rfl rfl d7_addToken_40 ?_
    obtain ⟨h20, hf⟩ := gd_some hf
    obtain ⟨h21, hf⟩ := gd_some hf
    obtain ⟨t22, e23, hf⟩ := lt_some hf
    refine ev_last h20 h21 d7_addToken_41 (ev_nmS e23 ?_)
    refine ev_aload_n (j := 0) (i := 0) (q := 0) rfl rfl d7_addToken_42 ?_
    refine ev_dup rfl d7_addToken_43 ?_
    refine ev_getI cls7 (j := 6) (by decide) rfl w278 (mono_ob (mono_eL e23) (mono_ob (mono_eI e16) (mono_ob (mono_eI e9) h1))) d7_addToken_44 ?_
    refine ev_iconst ci_1 d7_addToken_47 ?_
    refine ev_iadd d7_addToken_48 ?_
    obtain ⟨t24, e25, hf⟩ := lt_some hf
    refine ev_putI cls7 (j := 6) (by decide) rfl rfl w278 (mono_ob (mono_eL e23) (mono_ob (mono_eI e16) (mono_ob (mono_eI e9) h1))) (fun _ => ⟨rfl, rfl⟩) d7_addToken_49 (ev_nmS e25 ?_)
    obtain ⟨-, rfl⟩ := ret_some hf
    exact ev_vret rfl d7_addToken_52
  · refine ev_icmp_ge_Q (tgt := 52) c6 (by decide) d7_addToken_9 ?_
    obtain ⟨-, rfl⟩ := ret_some hf
    exact ev_vret rfl d7_addToken_52
abbrev m7_isFigure : MD := ("MillBoats$Reader", ⟨"MillBoats$Reader", "isFigure", "(I)Z"⟩, prog_9_method_9_code, 1, (some Jvm.ClassFile.FieldType.boolean))
theorem k7_isFigure : okY m7_isFigure.2.1 1 := ⟨by decide +kernel, by decide +kernel, by decide +kernel⟩
def f7_isFigure (σ : St) (v0 : Int32) : Option (Int32 × St) :=
  (if v0 < (48 : Int32) then
  some ((0 : Int32), σ)
  else
  (if v0 ≤ (57 : Int32) then
  some ((1 : Int32), σ)
  else
  some ((0 : Int32), σ)))
set_option maxRecDepth 50000 in
theorem s7_isFigure : ∀ (σ : St) (v0 : Int32) (r : Int32) (τ : St), f7_isFigure σ v0 = some (r, τ) → Call 2 m7_isFigure [.int v0] σ (some (.int r)) τ := by
  intro σ v0 r τ hf
  unfold f7_isFigure at hf
  refine Call.of (by decide +kernel) rfl (Nat.le_of_ble_eq_true rfl) ?_
  refine ev_iload_n (j := 0) (i := 0) (q := 0) rfl rfl d7_isFigure_0 ?_
  refine ev_bipush cb_48 d7_isFigure_1 ?_
  rcases ite_some hf with ⟨c1, hf⟩ | ⟨c1, hf⟩
  · refine ev_icmp_lt_P (tgt := 16) c1 (by decide) d7_isFigure_3 ?_
    refine ev_iconst ci_0 d7_isFigure_16 ?_
    obtain ⟨rfl, rfl⟩ := ret_some hf
    exact ev_zret rfl (by decide) d7_isFigure_17
  · refine ev_icmp_lt_Q (tgt := 16) c1 (by decide) d7_isFigure_3 ?_
    refine ev_iload_n (j := 0) (i := 0) (q := 0) rfl rfl d7_isFigure_6 ?_
    refine ev_bipush cb_57 d7_isFigure_7 ?_
    rcases ite_some hf with ⟨c2, hf⟩ | ⟨c2, hf⟩
    · refine ev_icmp_gt_P (tgt := 16) c2 (by decide) d7_isFigure_9 ?_
      refine ev_iconst ci_1 d7_isFigure_12 ?_
      refine ev_goto (tgt := 17) (by decide) d7_isFigure_13 ?_
      obtain ⟨rfl, rfl⟩ := ret_some hf
      exact ev_zret rfl (by decide) d7_isFigure_17
    · refine ev_icmp_gt_Q (tgt := 16) c2 (by decide) d7_isFigure_9 ?_
      refine ev_iconst ci_0 d7_isFigure_16 ?_
      obtain ⟨rfl, rfl⟩ := ret_some hf
      exact ev_zret rfl (by decide) d7_isFigure_17
abbrev m7_isLetter : MD := ("MillBoats$Reader", ⟨"MillBoats$Reader", "isLetter", "(I)Z"⟩, prog_9_method_8_code, 1, (some Jvm.ClassFile.FieldType.boolean))
theorem k7_isLetter : okY m7_isLetter.2.1 1 := ⟨by decide +kernel, by decide +kernel, by decide +kernel⟩
def f7_isLetter (σ : St) (v0 : Int32) : Option (Int32 × St) :=
  (if v0 < (97 : Int32) then
  some ((0 : Int32), σ)
  else
  (if v0 ≤ (122 : Int32) then
  some ((1 : Int32), σ)
  else
  some ((0 : Int32), σ)))
set_option maxRecDepth 50000 in
theorem s7_isLetter : ∀ (σ : St) (v0 : Int32) (r : Int32) (τ : St), f7_isLetter σ v0 = some (r, τ) → Call 2 m7_isLetter [.int v0] σ (some (.int r)) τ := by
  intro σ v0 r τ hf
  unfold f7_isLetter at hf
  refine Call.of (by decide +kernel) rfl (Nat.le_of_ble_eq_true rfl) ?_
  refine ev_iload_n (j := 0) (i := 0) (q := 0) rfl rfl d7_isLetter_0 ?_
  refine ev_bipush cb_97 d7_isLetter_1 ?_
  rcases ite_some hf with ⟨c1, hf⟩ | ⟨c1, hf⟩
  · refine ev_icmp_lt_P (tgt := 16) c1 (by decide) d7_isLetter_3 ?_
    refine ev_iconst ci_0 d7_isLetter_16 ?_
    obtain ⟨rfl, rfl⟩ := ret_some hf
    exact ev_zret rfl (by decide) d7_isLetter_17
  · refine ev_icmp_lt_Q (tgt := 16) c1 (by decide) d7_isLetter_3 ?_
    refine ev_iload_n (j := 0) (i := 0) (q := 0) rfl rfl d7_isLetter_6 ?_
    refine ev_bipush cb_122 d7_isLetter_7 ?_
    rcases ite_some hf with ⟨c2, hf⟩ | ⟨c2, hf⟩
    · refine ev_icmp_gt_P (tgt := 16) c2 (by decide) d7_isLetter_9 ?_
      refine ev_iconst ci_1 d7_isLetter_12 ?_
      refine ev_goto (tgt := 17) (by decide) d7_isLetter_13 ?_
      obtain ⟨rfl, rfl⟩ := ret_some hf
      exact ev_zret rfl (by decide) d7_isLetter_17
    · refine ev_icmp_gt_Q (tgt := 16) c2 (by decide) d7_isLetter_9 ?_
      refine ev_iconst ci_0 d7_isLetter_16 ?_
      obtain ⟨rfl, rfl⟩ := ret_some hf
      exact ev_zret rfl (by decide) d7_isLetter_17
