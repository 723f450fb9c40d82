theorem d5_arrangeWith_0 : decode prog_7_method_4_code 0 = .ok (.aload_n 0, 1) := by decide +kernel
theorem d5_arrangeWith_1 : decode prog_7_method_4_code 1 = .ok (.iload_n 1, 1) := by decide +kernel
theorem d5_arrangeWith_2 : decode prog_7_method_4_code 2 = .ok (.aload_n 0, 1) := by decide +kernel
theorem d5_arrangeWith_3 : decode prog_7_method_4_code 3 = .ok (.getfield 31, 3) := by decide +kernel
theorem d5_arrangeWith_6 : decode prog_7_method_4_code 6 = .ok (.getfield 60, 3) := by decide +kernel
theorem d5_arrangeWith_9 : decode prog_7_method_4_code 9 = .ok (.iload_n 1, 1) := by decide +kernel
theorem d5_arrangeWith_10 : decode prog_7_method_4_code 10 = .ok (.iaload, 1) := by decide +kernel
theorem d5_arrangeWith_11 : decode prog_7_method_4_code 11 = .ok (.invokevirtual 67, 3) := by decide +kernel
theorem d5_arrangeWith_14 : decode prog_7_method_4_code 14 = .ok (.istore_n 3, 1) := by decide +kernel
theorem d5_arrangeWith_15 : decode prog_7_method_4_code 15 = .ok (.iload_n 3, 1) := by decide +kernel
theorem d5_arrangeWith_16 : decode prog_7_method_4_code 16 = .ok (.iconst (-1), 1) := by decide +kernel
theorem d5_arrangeWith_17 : decode prog_7_method_4_code 17 = .ok (.if_icmp .ne 5, 3) := by decide +kernel
theorem d5_arrangeWith_20 : decode prog_7_method_4_code 20 = .ok (.iconst 0, 1) := by decide +kernel
theorem d5_arrangeWith_21 : decode prog_7_method_4_code 21 = .ok (.ireturn, 1) := by decide +kernel
theorem d5_arrangeWith_22 : decode prog_7_method_4_code 22 = .ok (.aload_n 0, 1) := by decide +kernel
theorem d5_arrangeWith_23 : decode prog_7_method_4_code 23 = .ok (.getfield 9, 3) := by decide +kernel
theorem d5_arrangeWith_26 : decode prog_7_method_4_code 26 = .ok (.iload_n 2, 1) := by decide +kernel
theorem d5_arrangeWith_27 : decode prog_7_method_4_code 27 = .ok (.iload_n 1, 1) := by decide +kernel
theorem d5_arrangeWith_28 : decode prog_7_method_4_code 28 = .ok (.iastore, 1) := by decide +kernel
theorem d5_arrangeWith_29 : decode prog_7_method_4_code 29 = .ok (.aload_n 0, 1) := by decide +kernel
theorem d5_arrangeWith_30 : decode prog_7_method_4_code 30 = .ok (.getfield 15, 3) := by decide +kernel
theorem d5_arrangeWith_33 : decode prog_7_method_4_code 33 = .ok (.iload_n 2, 1) := by decide +kernel
theorem d5_arrangeWith_34 : decode prog_7_method_4_code 34 = .ok (.iload_n 3, 1) := by decide +kernel
theorem d5_arrangeWith_35 : decode prog_7_method_4_code 35 = .ok (.iastore, 1) := by decide +kernel
theorem d5_arrangeWith_36 : decode prog_7_method_4_code 36 = .ok (.aload_n 0, 1) := by decide +kernel
theorem d5_arrangeWith_37 : decode prog_7_method_4_code 37 = .ok (.getfield 18, 3) := by decide +kernel
theorem d5_arrangeWith_40 : decode prog_7_method_4_code 40 = .ok (.iload_n 1, 1) := by decide +kernel
theorem d5_arrangeWith_41 : decode prog_7_method_4_code 41 = .ok (.iaload, 1) := by decide +kernel
theorem d5_arrangeWith_42 : decode prog_7_method_4_code 42 = .ok (.istore 4, 2) := by decide +kernel
theorem d5_arrangeWith_44 : decode prog_7_method_4_code 44 = .ok (.aload_n 0, 1) := by decide +kernel
theorem d5_arrangeWith_45 : decode prog_7_method_4_code 45 = .ok (.getfield 18, 3) := by decide +kernel
theorem d5_arrangeWith_48 : decode prog_7_method_4_code 48 = .ok (.iload_n 1, 1) := by decide +kernel
theorem d5_arrangeWith_49 : decode prog_7_method_4_code 49 = .ok (.aload_n 0, 1) := by decide +kernel
theorem d5_arrangeWith_50 : decode prog_7_method_4_code 50 = .ok (.getfield 31, 3) := by decide +kernel
theorem d5_arrangeWith_53 : decode prog_7_method_4_code 53 = .ok (.getfield 60, 3) := by decide +kernel
theorem d5_arrangeWith_56 : decode prog_7_method_4_code 56 = .ok (.iload_n 1, 1) := by decide +kernel
theorem d5_arrangeWith_57 : decode prog_7_method_4_code 57 = .ok (.iaload, 1) := by decide +kernel
theorem d5_arrangeWith_58 : decode prog_7_method_4_code 58 = .ok (.iastore, 1) := by decide +kernel
theorem d5_arrangeWith_59 : decode prog_7_method_4_code 59 = .ok (.aload_n 0, 1) := by decide +kernel
theorem d5_arrangeWith_60 : decode prog_7_method_4_code 60 = .ok (.iload_n 2, 1) := by decide +kernel
theorem d5_arrangeWith_61 : decode prog_7_method_4_code 61 = .ok (.iconst 1, 1) := by decide +kernel
theorem d5_arrangeWith_62 : decode prog_7_method_4_code 62 = .ok (.iadd, 1) := by decide +kernel
theorem d5_arrangeWith_63 : decode prog_7_method_4_code 63 = .ok (.invokevirtual 57, 3) := by decide +kernel
theorem d5_arrangeWith_66 : decode prog_7_method_4_code 66 = .ok (.istore 5, 2) := by decide +kernel
theorem d5_arrangeWith_68 : decode prog_7_method_4_code 68 = .ok (.aload_n 0, 1) := by decide +kernel
theorem d5_arrangeWith_69 : decode prog_7_method_4_code 69 = .ok (.getfield 18, 3) := by decide +kernel
theorem d5_arrangeWith_72 : decode prog_7_method_4_code 72 = .ok (.iload_n 1, 1) := by decide +kernel
theorem d5_arrangeWith_73 : decode prog_7_method_4_code 73 = .ok (.iload 4, 2) := by decide +kernel
theorem d5_arrangeWith_75 : decode prog_7_method_4_code 75 = .ok (.iastore, 1) := by decide +kernel
theorem d5_arrangeWith_76 : decode prog_7_method_4_code 76 = .ok (.iload 5, 2) := by decide +kernel
theorem d5_arrangeWith_78 : decode prog_7_method_4_code 78 = .ok (.ireturn, 1) := by decide +kernel
theorem d5_arrange_0 : decode prog_7_method_3_code 0 = .ok (.iconst 1, 1) := by decide +kernel
theorem d5_arrange_1 : decode prog_7_method_3_code 1 = .ok (.istore_n 2, 1) := by decide +kernel
theorem d5_arrange_2 : decode prog_7_method_3_code 2 = .ok (.iconst 0, 1) := by decide +kernel
theorem d5_arrange_3 : decode prog_7_method_3_code 3 = .ok (.istore_n 3, 1) := by decide +kernel
theorem d5_arrange_4 : decode prog_7_method_3_code 4 = .ok (.iload_n 3, 1) := by decide +kernel
theorem d5_arrange_5 : decode prog_7_method_3_code 5 = .ok (.bipush 6, 2) := by decide +kernel
theorem d5_arrange_7 : decode prog_7_method_3_code 7 = .ok (.if_icmp .ge 56, 3) := by decide +kernel
theorem d5_arrange_10 : decode prog_7_method_3_code 10 = .ok (.aload_n 0, 1) := by decide +kernel
theorem d5_arrange_11 : decode prog_7_method_3_code 11 = .ok (.getfield 31, 3) := by decide +kernel
theorem d5_arrange_14 : decode prog_7_method_3_code 14 = .ok (.iload_n 3, 1) := by decide +kernel
theorem d5_arrange_15 : decode prog_7_method_3_code 15 = .ok (.invokevirtual 50, 3) := by decide +kernel
theorem d5_arrange_18 : decode prog_7_method_3_code 18 = .ok (.ifCond .eq 39, 3) := by decide +kernel
theorem d5_arrange_21 : decode prog_7_method_3_code 21 = .ok (.aload_n 0, 1) := by decide +kernel
theorem d5_arrange_22 : decode prog_7_method_3_code 22 = .ok (.getfield 18, 3) := by decide +kernel
theorem d5_arrange_25 : decode prog_7_method_3_code 25 = .ok (.iload_n 3, 1) := by decide +kernel
theorem d5_arrange_26 : decode prog_7_method_3_code 26 = .ok (.iaload, 1) := by decide +kernel
theorem d5_arrange_27 : decode prog_7_method_3_code 27 = .ok (.aload_n 0, 1) := by decide +kernel
theorem d5_arrange_28 : decode prog_7_method_3_code 28 = .ok (.getfield 31, 3) := by decide +kernel
theorem d5_arrange_31 : decode prog_7_method_3_code 31 = .ok (.getfield 60, 3) := by decide +kernel
theorem d5_arrange_34 : decode prog_7_method_3_code 34 = .ok (.iload_n 3, 1) := by decide +kernel
theorem d5_arrange_35 : decode prog_7_method_3_code 35 = .ok (.iaload, 1) := by decide +kernel
theorem d5_arrange_36 : decode prog_7_method_3_code 36 = .ok (.if_icmp .eq 21, 3) := by decide +kernel
theorem d5_arrange_39 : decode prog_7_method_3_code 39 = .ok (.iconst 0, 1) := by decide +kernel
theorem d5_arrange_40 : decode prog_7_method_3_code 40 = .ok (.istore_n 2, 1) := by decide +kernel
theorem d5_arrange_41 : decode prog_7_method_3_code 41 = .ok (.iload_n 1, 1) := by decide +kernel
theorem d5_arrange_42 : decode prog_7_method_3_code 42 = .ok (.iconst 3, 1) := by decide +kernel
theorem d5_arrange_43 : decode prog_7_method_3_code 43 = .ok (.if_icmp .ge 14, 3) := by decide +kernel
theorem d5_arrange_46 : decode prog_7_method_3_code 46 = .ok (.aload_n 0, 1) := by decide +kernel
theorem d5_arrange_47 : decode prog_7_method_3_code 47 = .ok (.iload_n 3, 1) := by decide +kernel
theorem d5_arrange_48 : decode prog_7_method_3_code 48 = .ok (.iload_n 1, 1) := by decide +kernel
theorem d5_arrange_49 : decode prog_7_method_3_code 49 = .ok (.invokevirtual 63, 3) := by decide +kernel
theorem d5_arrange_52 : decode prog_7_method_3_code 52 = .ok (.ifCond .eq 5, 3) := by decide +kernel
theorem d5_arrange_55 : decode prog_7_method_3_code 55 = .ok (.iconst 1, 1) := by decide +kernel
theorem d5_arrange_56 : decode prog_7_method_3_code 56 = .ok (.ireturn, 1) := by decide +kernel
theorem d5_arrange_57 : decode prog_7_method_3_code 57 = .ok (.iinc 3 1, 3) := by decide +kernel
theorem d5_arrange_60 : decode prog_7_method_3_code 60 = .ok (.goto (-56), 3) := by decide +kernel
theorem d5_arrange_63 : decode prog_7_method_3_code 63 = .ok (.iload_n 2, 1) := by decide +kernel
theorem d5_arrange_64 : decode prog_7_method_3_code 64 = .ok (.ifCond .eq 8, 3) := by decide +kernel
theorem d5_arrange_67 : decode prog_7_method_3_code 67 = .ok (.aload_n 0, 1) := by decide +kernel
theorem d5_arrange_68 : decode prog_7_method_3_code 68 = .ok (.iload_n 1, 1) := by decide +kernel
theorem d5_arrange_69 : decode prog_7_method_3_code 69 = .ok (.putfield 54, 3) := by decide +kernel
theorem d5_arrange_72 : decode prog_7_method_3_code 72 = .ok (.iload_n 2, 1) := by decide +kernel
theorem d5_arrange_73 : decode prog_7_method_3_code 73 = .ok (.ireturn, 1) := by decide +kernel
theorem d6_isThere_0 : decode prog_8_method_2_code 0 = .ok (.aload_n 0, 1) := by decide +kernel
theorem d6_isThere_1 : decode prog_8_method_2_code 1 = .ok (.getfield 49, 3) := by decide +kernel
theorem d6_isThere_4 : decode prog_8_method_2_code 4 = .ok (.ifCond .eq 7, 3) := by decide +kernel
theorem d6_isThere_7 : decode prog_8_method_2_code 7 = .ok (.iconst 1, 1) := by decide +kernel
theorem d6_isThere_8 : decode prog_8_method_2_code 8 = .ok (.goto 4, 3) := by decide +kernel
theorem d6_isThere_11 : decode prog_8_method_2_code 11 = .ok (.iconst 0, 1) := by decide +kernel
theorem d6_isThere_12 : decode prog_8_method_2_code 12 = .ok (.ireturn, 1) := by decide +kernel
theorem d5_find_0 : decode prog_7_method_2_code 0 = .ok (.aload_n 0, 1) := by decide +kernel
theorem d5_find_1 : decode prog_7_method_2_code 1 = .ok (.getfield 31, 3) := by decide +kernel
theorem d5_find_4 : decode prog_7_method_2_code 4 = .ok (.invokevirtual 35, 3) := by decide +kernel
theorem d5_find_7 : decode prog_7_method_2_code 7 = .ok (.ifCond .ne 5, 3) := by decide +kernel
theorem d5_find_10 : decode prog_7_method_2_code 10 = .ok (.iconst (-1), 1) := by decide +kernel
theorem d5_find_11 : decode prog_7_method_2_code 11 = .ok (.ireturn, 1) := by decide +kernel
theorem d5_find_12 : decode prog_7_method_2_code 12 = .ok (.aload_n 0, 1) := by decide +kernel
theorem d5_find_13 : decode prog_7_method_2_code 13 = .ok (.iload_n 1, 1) := by decide +kernel
theorem d5_find_14 : decode prog_7_method_2_code 14 = .ok (.putfield 41, 3) := by decide +kernel
theorem d5_find_17 : decode prog_7_method_2_code 17 = .ok (.iconst 0, 1) := by decide +kernel
theorem d5_find_18 : decode prog_7_method_2_code 18 = .ok (.istore_n 2, 1) := by decide +kernel
theorem d5_find_19 : decode prog_7_method_2_code 19 = .ok (.iload_n 2, 1) := by decide +kernel
theorem d5_find_20 : decode prog_7_method_2_code 20 = .ok (.bipush 6, 2) := by decide +kernel
theorem d5_find_22 : decode prog_7_method_2_code 22 = .ok (.if_icmp .ge 49, 3) := by decide +kernel
theorem d5_find_25 : decode prog_7_method_2_code 25 = .ok (.aload_n 0, 1) := by decide +kernel
theorem d5_find_26 : decode prog_7_method_2_code 26 = .ok (.getfield 18, 3) := by decide +kernel
theorem d5_find_29 : decode prog_7_method_2_code 29 = .ok (.iload_n 2, 1) := by decide +kernel
theorem d5_find_30 : decode prog_7_method_2_code 30 = .ok (.aload_n 0, 1) := by decide +kernel
theorem d5_find_31 : decode prog_7_method_2_code 31 = .ok (.getfield 27, 3) := by decide +kernel
theorem d5_find_34 : decode prog_7_method_2_code 34 = .ok (.getfield 45, 3) := by decide +kernel
theorem d5_find_37 : decode prog_7_method_2_code 37 = .ok (.iload_n 2, 1) := by decide +kernel
theorem d5_find_38 : decode prog_7_method_2_code 38 = .ok (.iaload, 1) := by decide +kernel
theorem d5_find_39 : decode prog_7_method_2_code 39 = .ok (.iastore, 1) := by decide +kernel
theorem d5_find_40 : decode prog_7_method_2_code 40 = .ok (.aload_n 0, 1) := by decide +kernel
theorem d5_find_41 : decode prog_7_method_2_code 41 = .ok (.getfield 31, 3) := by decide +kernel
theorem d5_find_44 : decode prog_7_method_2_code 44 = .ok (.iload_n 2, 1) := by decide +kernel
theorem d5_find_45 : decode prog_7_method_2_code 45 = .ok (.invokevirtual 50, 3) := by decide +kernel
theorem d5_find_48 : decode prog_7_method_2_code 48 = .ok (.ifCond .eq 17, 3) := by decide +kernel
theorem d5_find_51 : decode prog_7_method_2_code 51 = .ok (.aload_n 0, 1) := by decide +kernel
theorem d5_find_52 : decode prog_7_method_2_code 52 = .ok (.getfield 18, 3) := by decide +kernel
theorem d5_find_55 : decode prog_7_method_2_code 55 = .ok (.iload_n 2, 1) := by decide +kernel
theorem d5_find_56 : decode prog_7_method_2_code 56 = .ok (.iaload, 1) := by decide +kernel
theorem d5_find_57 : decode prog_7_method_2_code 57 = .ok (.bipush (-2), 2) := by decide +kernel
theorem d5_find_59 : decode prog_7_method_2_code 59 = .ok (.if_icmp .ne 6, 3) := by decide +kernel
theorem d5_find_62 : decode prog_7_method_2_code 62 = .ok (.bipush (-2), 2) := by decide +kernel
theorem d5_find_64 : decode prog_7_method_2_code 64 = .ok (.ireturn, 1) := by decide +kernel
theorem d5_find_65 : decode prog_7_method_2_code 65 = .ok (.iinc 2 1, 3) := by decide +kernel
theorem d5_find_68 : decode prog_7_method_2_code 68 = .ok (.goto (-49), 3) := by decide +kernel
theorem d5_find_71 : decode prog_7_method_2_code 71 = .ok (.aload_n 0, 1) := by decide +kernel
theorem d5_find_72 : decode prog_7_method_2_code 72 = .ok (.iconst 0, 1) := by decide +kernel
theorem d5_find_73 : decode prog_7_method_2_code 73 = .ok (.putfield 54, 3) := by decide +kernel
theorem d5_find_76 : decode prog_7_method_2_code 76 = .ok (.aload_n 0, 1) := by decide +kernel
theorem d5_find_77 : decode prog_7_method_2_code 77 = .ok (.iconst 0, 1) := by decide +kernel
theorem d5_find_78 : decode prog_7_method_2_code 78 = .ok (.invokevirtual 57, 3) := by decide +kernel
theorem d5_find_81 : decode prog_7_method_2_code 81 = .ok (.ifCond .eq 10, 3) := by decide +kernel
theorem d5_find_84 : decode prog_7_method_2_code 84 = .ok (.aload_n 0, 1) := by decide +kernel
theorem d5_find_85 : decode prog_7_method_2_code 85 = .ok (.getfield 54, 3) := by decide +kernel
theorem d5_find_88 : decode prog_7_method_2_code 88 = .ok (.goto 5, 3) := by decide +kernel
theorem d5_find_91 : decode prog_7_method_2_code 91 = .ok (.bipush (-2), 2) := by decide +kernel
theorem d5_find_93 : decode prog_7_method_2_code 93 = .ok (.ireturn, 1) := by decide +kernel
theorem d6_init_0 : decode prog_8_method_1_code 0 = .ok (.aload_n 0, 1) := by decide +kernel
theorem d6_init_1 : decode prog_8_method_1_code 1 = .ok (.invokespecial 3, 3) := by decide +kernel
theorem d6_init_4 : decode prog_8_method_1_code 4 = .ok (.aload_n 0, 1) := by decide +kernel
theorem d6_init_5 : decode prog_8_method_1_code 5 = .ok (.bipush 6, 2) := by decide +kernel
theorem d6_init_7 : decode prog_8_method_1_code 7 = .ok (.newarray .int, 2) := by decide +kernel
theorem d6_init_9 : decode prog_8_method_1_code 9 = .ok (.putfield 9, 3) := by decide +kernel
theorem d6_init_12 : decode prog_8_method_1_code 12 = .ok (.aload_n 0, 1) := by decide +kernel
theorem d6_init_13 : decode prog_8_method_1_code 13 = .ok (.iconst 3, 1) := by decide +kernel
theorem d6_init_14 : decode prog_8_method_1_code 14 = .ok (.newarray .int, 2) := by decide +kernel
theorem d6_init_16 : decode prog_8_method_1_code 16 = .ok (.putfield 15, 3) := by decide +kernel
theorem d6_init_19 : decode prog_8_method_1_code 19 = .ok (.aload_n 0, 1) := by decide +kernel
theorem d6_init_20 : decode prog_8_method_1_code 20 = .ok (.iconst 3, 1) := by decide +kernel
theorem d6_init_21 : decode prog_8_method_1_code 21 = .ok (.bipush 25, 2) := by decide +kernel
theorem d6_init_23 : decode prog_8_method_1_code 23 = .ok (.multianewarray 18 2, 4) := by decide +kernel
theorem d6_init_27 : decode prog_8_method_1_code 27 = .ok (.putfield 20, 3) := by decide +kernel
theorem d6_init_30 : decode prog_8_method_1_code 30 = .ok (.aload_n 0, 1) := by decide +kernel
theorem d6_init_31 : decode prog_8_method_1_code 31 = .ok (.iconst 3, 1) := by decide +kernel
theorem d6_init_32 : decode prog_8_method_1_code 32 = .ok (.newarray .int, 2) := by decide +kernel
theorem d6_init_34 : decode prog_8_method_1_code 34 = .ok (.putfield 23, 3) := by decide +kernel
theorem d6_init_37 : decode prog_8_method_1_code 37 = .ok (.aload_n 0, 1) := by decide +kernel
theorem d6_init_38 : decode prog_8_method_1_code 38 = .ok (.iconst 3, 1) := by decide +kernel
theorem d6_init_39 : decode prog_8_method_1_code 39 = .ok (.bipush 25, 2) := by decide +kernel
theorem d6_init_41 : decode prog_8_method_1_code 41 = .ok (.multianewarray 18 2, 4) := by decide +kernel
theorem d6_init_45 : decode prog_8_method_1_code 45 = .ok (.putfield 26, 3) := by decide +kernel
theorem d6_init_48 : decode prog_8_method_1_code 48 = .ok (.aload_n 0, 1) := by decide +kernel
theorem d6_init_49 : decode prog_8_method_1_code 49 = .ok (.iconst 4, 1) := by decide +kernel
theorem d6_init_50 : decode prog_8_method_1_code 50 = .ok (.newarray .int, 2) := by decide +kernel
theorem d6_init_52 : decode prog_8_method_1_code 52 = .ok (.putfield 29, 3) := by decide +kernel
theorem d6_init_55 : decode prog_8_method_1_code 55 = .ok (.aload_n 0, 1) := by decide +kernel
theorem d6_init_56 : decode prog_8_method_1_code 56 = .ok (.bipush 12, 2) := by decide +kernel
theorem d6_init_58 : decode prog_8_method_1_code 58 = .ok (.newarray .int, 2) := by decide +kernel
theorem d6_init_60 : decode prog_8_method_1_code 60 = .ok (.putfield 32, 3) := by decide +kernel
theorem d6_init_63 : decode prog_8_method_1_code 63 = .ok (.aload_n 0, 1) := by decide +kernel
theorem d6_init_64 : decode prog_8_method_1_code 64 = .ok (.bipush 6, 2) := by decide +kernel
theorem d6_init_66 : decode prog_8_method_1_code 66 = .ok (.newarray .int, 2) := by decide +kernel
theorem d6_init_68 : decode prog_8_method_1_code 68 = .ok (.putfield 35, 3) := by decide +kernel
theorem d6_init_71 : decode prog_8_method_1_code 71 = .ok (.aload_n 0, 1) := by decide +kernel
theorem d6_init_72 : decode prog_8_method_1_code 72 = .ok (.bipush 6, 2) := by decide +kernel
theorem d6_init_74 : decode prog_8_method_1_code 74 = .ok (.newarray .int, 2) := by decide +kernel
theorem d6_init_76 : decode prog_8_method_1_code 76 = .ok (.putfield 38, 3) := by decide +kernel
theorem d6_init_79 : decode prog_8_method_1_code 79 = .ok (.aload_n 0, 1) := by decide +kernel
theorem d6_init_80 : decode prog_8_method_1_code 80 = .ok (.aload_n 1, 1) := by decide +kernel
theorem d6_init_81 : decode prog_8_method_1_code 81 = .ok (.putfield 41, 3) := by decide +kernel
theorem d6_init_84 : decode prog_8_method_1_code 84 = .ok (.aload_n 0, 1) := by decide +kernel
theorem d6_init_85 : decode prog_8_method_1_code 85 = .ok (.aload_n 2, 1) := by decide +kernel
theorem d6_init_86 : decode prog_8_method_1_code 86 = .ok (.putfield 45, 3) := by decide +kernel
theorem d6_init_89 : decode prog_8_method_1_code 89 = .ok (.return_, 1) := by decide +kernel
theorem d6_chooseMills_0 : decode prog_8_method_5_code 0 = .ok (.aload_n 0, 1) := by decide +kernel
theorem d6_chooseMills_1 : decode prog_8_method_5_code 1 = .ok (.iconst 0, 1) := by decide +kernel
theorem d6_chooseMills_2 : decode prog_8_method_5_code 2 = .ok (.putfield 91, 3) := by decide +kernel
theorem d6_chooseMills_5 : decode prog_8_method_5_code 5 = .ok (.iconst 0, 1) := by decide +kernel
theorem d6_chooseMills_6 : decode prog_8_method_5_code 6 = .ok (.istore_n 2, 1) := by decide +kernel
theorem d6_chooseMills_7 : decode prog_8_method_5_code 7 = .ok (.iload_n 2, 1) := by decide +kernel
theorem d6_chooseMills_8 : decode prog_8_method_5_code 8 = .ok (.bipush 6, 2) := by decide +kernel
theorem d6_chooseMills_10 : decode prog_8_method_5_code 10 = .ok (.if_icmp .ge 68, 3) := by decide +kernel
theorem d6_chooseMills_13 : decode prog_8_method_5_code 13 = .ok (.aload_n 0, 1) := by decide +kernel
theorem d6_chooseMills_14 : decode prog_8_method_5_code 14 = .ok (.getfield 35, 3) := by decide +kernel
theorem d6_chooseMills_17 : decode prog_8_method_5_code 17 = .ok (.iload_n 2, 1) := by decide +kernel
theorem d6_chooseMills_18 : decode prog_8_method_5_code 18 = .ok (.aload_n 0, 1) := by decide +kernel
theorem d6_chooseMills_19 : decode prog_8_method_5_code 19 = .ok (.getfield 41, 3) := by decide +kernel
theorem d6_chooseMills_22 : decode prog_8_method_5_code 22 = .ok (.getfield 113, 3) := by decide +kernel
theorem d6_chooseMills_25 : decode prog_8_method_5_code 25 = .ok (.iload_n 2, 1) := by decide +kernel
theorem d6_chooseMills_26 : decode prog_8_method_5_code 26 = .ok (.iaload, 1) := by decide +kernel
theorem d6_chooseMills_27 : decode prog_8_method_5_code 27 = .ok (.iastore, 1) := by decide +kernel
theorem d6_chooseMills_28 : decode prog_8_method_5_code 28 = .ok (.iload_n 1, 1) := by decide +kernel
theorem d6_chooseMills_29 : decode prog_8_method_5_code 29 = .ok (.iload_n 2, 1) := by decide +kernel
theorem d6_chooseMills_30 : decode prog_8_method_5_code 30 = .ok (.ishr, 1) := by decide +kernel
theorem d6_chooseMills_31 : decode prog_8_method_5_code 31 = .ok (.iconst 1, 1) := by decide +kernel
theorem d6_chooseMills_32 : decode prog_8_method_5_code 32 = .ok (.iand, 1) := by decide +kernel
theorem d6_chooseMills_33 : decode prog_8_method_5_code 33 = .ok (.iconst 1, 1) := by decide +kernel
theorem d6_chooseMills_34 : decode prog_8_method_5_code 34 = .ok (.if_icmp .ne 38, 3) := by decide +kernel
theorem d6_chooseMills_37 : decode prog_8_method_5_code 37 = .ok (.aload_n 0, 1) := by decide +kernel
theorem d6_chooseMills_38 : decode prog_8_method_5_code 38 = .ok (.getfield 91, 3) := by decide +kernel
theorem d6_chooseMills_41 : decode prog_8_method_5_code 41 = .ok (.iconst 3, 1) := by decide +kernel
theorem d6_chooseMills_42 : decode prog_8_method_5_code 42 = .ok (.if_icmp .ge 30, 3) := by decide +kernel
theorem d6_chooseMills_45 : decode prog_8_method_5_code 45 = .ok (.aload_n 0, 1) := by decide +kernel
theorem d6_chooseMills_46 : decode prog_8_method_5_code 46 = .ok (.getfield 35, 3) := by decide +kernel
theorem d6_chooseMills_49 : decode prog_8_method_5_code 49 = .ok (.iload_n 2, 1) := by decide +kernel
theorem d6_chooseMills_50 : decode prog_8_method_5_code 50 = .ok (.iconst (-1), 1) := by decide +kernel
theorem d6_chooseMills_51 : decode prog_8_method_5_code 51 = .ok (.iastore, 1) := by decide +kernel
theorem d6_chooseMills_52 : decode prog_8_method_5_code 52 = .ok (.aload_n 0, 1) := by decide +kernel
theorem d6_chooseMills_53 : decode prog_8_method_5_code 53 = .ok (.getfield 15, 3) := by decide +kernel
theorem d6_chooseMills_56 : decode prog_8_method_5_code 56 = .ok (.aload_n 0, 1) := by decide +kernel
theorem d6_chooseMills_57 : decode prog_8_method_5_code 57 = .ok (.getfield 91, 3) := by decide +kernel
theorem d6_chooseMills_60 : decode prog_8_method_5_code 60 = .ok (.iload_n 2, 1) := by decide +kernel
theorem d6_chooseMills_61 : decode prog_8_method_5_code 61 = .ok (.iastore, 1) := by decide +kernel
theorem d6_chooseMills_62 : decode prog_8_method_5_code 62 = .ok (.aload_n 0, 1) := by decide +kernel
theorem d6_chooseMills_63 : decode prog_8_method_5_code 63 = .ok (.dup, 1) := by decide +kernel
theorem d6_chooseMills_64 : decode prog_8_method_5_code 64 = .ok (.getfield 91, 3) := by decide +kernel
theorem d6_chooseMills_67 : decode prog_8_method_5_code 67 = .ok (.iconst 1, 1) := by decide +kernel
theorem d6_chooseMills_68 : decode prog_8_method_5_code 68 = .ok (.iadd, 1) := by decide +kernel
theorem d6_chooseMills_69 : decode prog_8_method_5_code 69 = .ok (.putfield 91, 3) := by decide +kernel
theorem d6_chooseMills_72 : decode prog_8_method_5_code 72 = .ok (.iinc 2 1, 3) := by decide +kernel
theorem d6_chooseMills_75 : decode prog_8_method_5_code 75 = .ok (.goto (-68), 3) := by decide +kernel
theorem d6_chooseMills_78 : decode prog_8_method_5_code 78 = .ok (.return_, 1) := by decide +kernel
theorem d9_topUpTo_0 : decode prog_11_method_4_code 0 = .ok (.aload_n 0, 1) := by decide +kernel
theorem d9_topUpTo_1 : decode prog_11_method_4_code 1 = .ok (.iconst 0, 1) := by decide +kernel
theorem d9_topUpTo_2 : decode prog_11_method_4_code 2 = .ok (.invokevirtual 26, 3) := by decide +kernel
theorem d9_topUpTo_5 : decode prog_11_method_4_code 5 = .ok (.aload_n 0, 1) := by decide +kernel
theorem d9_topUpTo_6 : decode prog_11_method_4_code 6 = .ok (.iload_n 1, 1) := by decide +kernel
theorem d9_topUpTo_7 : decode prog_11_method_4_code 7 = .ok (.invokevirtual 26, 3) := by decide +kernel
theorem d9_topUpTo_10 : decode prog_11_method_4_code 10 = .ok (.invokestatic 30, 3) := by decide +kernel
theorem d9_topUpTo_13 : decode prog_11_method_4_code 13 = .ok (.istore_n 2, 1) := by decide +kernel
theorem d9_topUpTo_14 : decode prog_11_method_4_code 14 = .ok (.iconst 0, 1) := by decide +kernel
theorem d9_topUpTo_15 : decode prog_11_method_4_code 15 = .ok (.istore_n 3, 1) := by decide +kernel
theorem d9_topUpTo_16 : decode prog_11_method_4_code 16 = .ok (.iload_n 3, 1) := by decide +kernel
theorem d9_topUpTo_17 : decode prog_11_method_4_code 17 = .ok (.aload_n 0, 1) := by decide +kernel
theorem d9_topUpTo_18 : decode prog_11_method_4_code 18 = .ok (.getfield 16, 3) := by decide +kernel
theorem d9_topUpTo_21 : decode prog_11_method_4_code 21 = .ok (.if_icmp .ge 30, 3) := by decide +kernel
theorem d9_topUpTo_24 : decode prog_11_method_4_code 24 = .ok (.aload_n 0, 1) := by decide +kernel
theorem d9_topUpTo_25 : decode prog_11_method_4_code 25 = .ok (.getfield 9, 3) := by decide +kernel
theorem d9_topUpTo_28 : decode prog_11_method_4_code 28 = .ok (.iload_n 3, 1) := by decide +kernel
theorem d9_topUpTo_29 : decode prog_11_method_4_code 29 = .ok (.iaload, 1) := by decide +kernel
theorem d9_topUpTo_30 : decode prog_11_method_4_code 30 = .ok (.iload_n 1, 1) := by decide +kernel
theorem d9_topUpTo_31 : decode prog_11_method_4_code 31 = .ok (.if_icmp .gt 20, 3) := by decide +kernel
theorem d9_topUpTo_34 : decode prog_11_method_4_code 34 = .ok (.iload_n 2, 1) := by decide +kernel
theorem d9_topUpTo_35 : decode prog_11_method_4_code 35 = .ok (.aload_n 0, 1) := by decide +kernel
theorem d9_topUpTo_36 : decode prog_11_method_4_code 36 = .ok (.getfield 13, 3) := by decide +kernel
theorem d9_topUpTo_39 : decode prog_11_method_4_code 39 = .ok (.iload_n 3, 1) := by decide +kernel
theorem d9_topUpTo_40 : decode prog_11_method_4_code 40 = .ok (.iaload, 1) := by decide +kernel
theorem d9_topUpTo_41 : decode prog_11_method_4_code 41 = .ok (.invokestatic 30, 3) := by decide +kernel
theorem d9_topUpTo_44 : decode prog_11_method_4_code 44 = .ok (.istore_n 2, 1) := by decide +kernel
theorem d9_topUpTo_45 : decode prog_11_method_4_code 45 = .ok (.iinc 3 1, 3) := by decide +kernel
theorem d9_topUpTo_48 : decode prog_11_method_4_code 48 = .ok (.goto (-32), 3) := by decide +kernel
theorem d9_topUpTo_51 : decode prog_11_method_4_code 51 = .ok (.iload_n 2, 1) := by decide +kernel
theorem d9_topUpTo_52 : decode prog_11_method_4_code 52 = .ok (.ireturn, 1) := by decide +kernel
theorem d8_topPower_0 : decode prog_10_method_11_code 0 = .ok (.aload_n 2, 1) := by decide +kernel
theorem d8_topPower_1 : decode prog_10_method_11_code 1 = .ok (.iload_n 1, 1) := by decide +kernel
theorem d8_topPower_2 : decode prog_10_method_11_code 2 = .ok (.iaload, 1) := by decide +kernel
theorem d8_topPower_3 : decode prog_10_method_11_code 3 = .ok (.invokestatic 62, 3) := by decide +kernel
theorem d8_topPower_6 : decode prog_10_method_11_code 6 = .ok (.ifCond .eq 15, 3) := by decide +kernel
theorem d8_topPower_9 : decode prog_10_method_11_code 9 = .ok (.aload_n 0, 1) := by decide +kernel
theorem d8_topPower_10 : decode prog_10_method_11_code 10 = .ok (.aload_n 2, 1) := by decide +kernel
theorem d8_topPower_11 : decode prog_10_method_11_code 11 = .ok (.iload_n 1, 1) := by decide +kernel
theorem d8_topPower_12 : decode prog_10_method_11_code 12 = .ok (.iaload, 1) := by decide +kernel
theorem d8_topPower_13 : decode prog_10_method_11_code 13 = .ok (.iload_n 1, 1) := by decide +kernel
theorem d8_topPower_14 : decode prog_10_method_11_code 14 = .ok (.iload_n 3, 1) := by decide +kernel
theorem d8_topPower_15 : decode prog_10_method_11_code 15 = .ok (.invokevirtual 81, 3) := by decide +kernel
theorem d8_topPower_18 : decode prog_10_method_11_code 18 = .ok (.ifCond .ne 5, 3) := by decide +kernel
theorem d8_topPower_21 : decode prog_10_method_11_code 21 = .ok (.iconst 0, 1) := by decide +kernel
theorem d8_topPower_22 : decode prog_10_method_11_code 22 = .ok (.ireturn, 1) := by decide +kernel
theorem d8_topPower_23 : decode prog_10_method_11_code 23 = .ok (.aload_n 0, 1) := by decide +kernel
theorem d8_topPower_24 : decode prog_10_method_11_code 24 = .ok (.getfield 17, 3) := by decide +kernel
theorem d8_topPower_27 : decode prog_10_method_11_code 27 = .ok (.bipush 6, 2) := by decide +kernel
theorem d8_topPower_29 : decode prog_10_method_11_code 29 = .ok (.aaload, 1) := by decide +kernel
theorem d8_topPower_30 : decode prog_10_method_11_code 30 = .ok (.aload_n 0, 1) := by decide +kernel
theorem d8_topPower_31 : decode prog_10_method_11_code 31 = .ok (.iload_n 1, 1) := by decide +kernel
theorem d8_topPower_32 : decode prog_10_method_11_code 32 = .ok (.aload_n 2, 1) := by decide +kernel
theorem d8_topPower_33 : decode prog_10_method_11_code 33 = .ok (.iload_n 3, 1) := by decide +kernel
theorem d8_topPower_34 : decode prog_10_method_11_code 34 = .ok (.invokevirtual 85, 3) := by decide +kernel
theorem d8_topPower_37 : decode prog_10_method_11_code 37 = .ok (.invokevirtual 93, 3) := by decide +kernel
theorem d8_topPower_40 : decode prog_10_method_11_code 40 = .ok (.istore 4, 2) := by decide +kernel
theorem d8_topPower_42 : decode prog_10_method_11_code 42 = .ok (.iload 4, 2) := by decide +kernel
theorem d8_topPower_44 : decode prog_10_method_11_code 44 = .ok (.bipush 100, 2) := by decide +kernel
theorem d8_topPower_46 : decode prog_10_method_11_code 46 = .ok (.aload_n 0, 1) := by decide +kernel
theorem d8_topPower_47 : decode prog_10_method_11_code 47 = .ok (.getfield 23, 3) := by decide +kernel
theorem d8_topPower_50 : decode prog_10_method_11_code 50 = .ok (.iload_n 1, 1) := by decide +kernel
theorem d8_topPower_51 : decode prog_10_method_11_code 51 = .ok (.aaload, 1) := by decide +kernel
theorem d8_topPower_52 : decode prog_10_method_11_code 52 = .ok (.invokevirtual 89, 3) := by decide +kernel
theorem d8_topPower_55 : decode prog_10_method_11_code 55 = .ok (.isub, 1) := by decide +kernel
theorem d8_topPower_56 : decode prog_10_method_11_code 56 = .ok (.imul, 1) := by decide +kernel
theorem d8_topPower_57 : decode prog_10_method_11_code 57 = .ok (.bipush 100, 2) := by decide +kernel
theorem d8_topPower_59 : decode prog_10_method_11_code 59 = .ok (.idiv, 1) := by decide +kernel
theorem d8_topPower_60 : decode prog_10_method_11_code 60 = .ok (.ireturn, 1) := by decide +kernel
theorem d6_listChoices_0 : decode prog_8_method_6_code 0 = .ok (.aload_n 0, 1) := by decide +kernel
theorem d6_listChoices_1 : decode prog_8_method_6_code 1 = .ok (.getfield 15, 3) := by decide +kernel
theorem d6_listChoices_4 : decode prog_8_method_6_code 4 = .ok (.iload_n 1, 1) := by decide +kernel
theorem d6_listChoices_5 : decode prog_8_method_6_code 5 = .ok (.iaload, 1) := by decide +kernel
theorem d6_listChoices_6 : decode prog_8_method_6_code 6 = .ok (.istore 6, 2) := by decide +kernel
theorem d6_listChoices_8 : decode prog_8_method_6_code 8 = .ok (.iconst 0, 1) := by decide +kernel
theorem d6_listChoices_9 : decode prog_8_method_6_code 9 = .ok (.istore 7, 2) := by decide +kernel
theorem d6_listChoices_11 : decode prog_8_method_6_code 11 = .ok (.iconst 0, 1) := by decide +kernel
theorem d6_listChoices_12 : decode prog_8_method_6_code 12 = .ok (.istore 8, 2) := by decide +kernel
theorem d6_listChoices_14 : decode prog_8_method_6_code 14 = .ok (.iload 8, 2) := by decide +kernel
theorem d6_listChoices_16 : decode prog_8_method_6_code 16 = .ok (.bipush 6, 2) := by decide +kernel
theorem d6_listChoices_18 : decode prog_8_method_6_code 18 = .ok (.if_icmp .ge 165, 3) := by decide +kernel
theorem d6_listChoices_21 : decode prog_8_method_6_code 21 = .ok (.iload 4, 2) := by decide +kernel
theorem d6_listChoices_23 : decode prog_8_method_6_code 23 = .ok (.istore 9, 2) := by decide +kernel
theorem d6_listChoices_25 : decode prog_8_method_6_code 25 = .ok (.iload 9, 2) := by decide +kernel
theorem d6_listChoices_27 : decode prog_8_method_6_code 27 = .ok (.iload 5, 2) := by decide +kernel
theorem d6_listChoices_29 : decode prog_8_method_6_code 29 = .ok (.if_icmp .gt 148, 3) := by decide +kernel
theorem d6_listChoices_32 : decode prog_8_method_6_code 32 = .ok (.iload 8, 2) := by decide +kernel
theorem d6_listChoices_34 : decode prog_8_method_6_code 34 = .ok (.bipush 12, 2) := by decide +kernel
theorem d6_listChoices_36 : decode prog_8_method_6_code 36 = .ok (.imul, 1) := by decide +kernel
theorem d6_listChoices_37 : decode prog_8_method_6_code 37 = .ok (.iload 9, 2) := by decide +kernel
theorem d6_listChoices_39 : decode prog_8_method_6_code 39 = .ok (.iadd, 1) := by decide +kernel
theorem d6_listChoices_40 : decode prog_8_method_6_code 40 = .ok (.istore 10, 2) := by decide +kernel
theorem d6_listChoices_42 : decode prog_8_method_6_code 42 = .ok (.aload_n 0, 1) := by decide +kernel
theorem d6_listChoices_43 : decode prog_8_method_6_code 43 = .ok (.getfield 41, 3) := by decide +kernel
theorem d6_listChoices_46 : decode prog_8_method_6_code 46 = .ok (.iload 10, 2) := by decide +kernel
theorem d6_listChoices_48 : decode prog_8_method_6_code 48 = .ok (.aload_n 0, 1) := by decide +kernel
theorem d6_listChoices_49 : decode prog_8_method_6_code 49 = .ok (.getfield 35, 3) := by decide +kernel
theorem d6_listChoices_52 : decode prog_8_method_6_code 52 = .ok (.invokevirtual 116, 3) := by decide +kernel
theorem d6_listChoices_55 : decode prog_8_method_6_code 55 = .ok (.iconst (-1), 1) := by decide +kernel
theorem d6_listChoices_56 : decode prog_8_method_6_code 56 = .ok (.if_icmp .ne 43, 3) := by decide +kernel
theorem d6_listChoices_59 : decode prog_8_method_6_code 59 = .ok (.aload_n 0, 1) := by decide +kernel
theorem d6_listChoices_60 : decode prog_8_method_6_code 60 = .ok (.getfield 41, 3) := by decide +kernel
theorem d6_listChoices_63 : decode prog_8_method_6_code 63 = .ok (.iload 10, 2) := by decide +kernel
theorem d6_listChoices_65 : decode prog_8_method_6_code 65 = .ok (.iload 6, 2) := by decide +kernel
theorem d6_listChoices_67 : decode prog_8_method_6_code 67 = .ok (.aload_n 0, 1) := by decide +kernel
theorem d6_listChoices_68 : decode prog_8_method_6_code 68 = .ok (.getfield 65, 3) := by decide +kernel
theorem d6_listChoices_71 : decode prog_8_method_6_code 71 = .ok (.invokevirtual 120, 3) := by decide +kernel
theorem d6_listChoices_74 : decode prog_8_method_6_code 74 = .ok (.ifCond .eq 25, 3) := by decide +kernel
theorem d6_listChoices_77 : decode prog_8_method_6_code 77 = .ok (.aload_n 0, 1) := by decide +kernel
theorem d6_listChoices_78 : decode prog_8_method_6_code 78 = .ok (.getfield 45, 3) := by decide +kernel
theorem d6_listChoices_81 : decode prog_8_method_6_code 81 = .ok (.iload 6, 2) := by decide +kernel
theorem d6_listChoices_83 : decode prog_8_method_6_code 83 = .ok (.iload 10, 2) := by decide +kernel
theorem d6_listChoices_85 : decode prog_8_method_6_code 85 = .ok (.iload_n 2, 1) := by decide +kernel
theorem d6_listChoices_86 : decode prog_8_method_6_code 86 = .ok (.iload_n 3, 1) := by decide +kernel
theorem d6_listChoices_87 : decode prog_8_method_6_code 87 = .ok (.invokevirtual 124, 3) := by decide +kernel
theorem d6_listChoices_90 : decode prog_8_method_6_code 90 = .ok (.iconst 3, 1) := by decide +kernel
theorem d6_listChoices_91 : decode prog_8_method_6_code 91 = .ok (.iand, 1) := by decide +kernel
theorem d6_listChoices_92 : decode prog_8_method_6_code 92 = .ok (.ifCond .ne 7, 3) := by decide +kernel
theorem d6_listChoices_95 : decode prog_8_method_6_code 95 = .ok (.iconst 1, 1) := by decide +kernel
theorem d6_listChoices_96 : decode prog_8_method_6_code 96 = .ok (.goto 4, 3) := by decide +kernel
theorem d6_listChoices_99 : decode prog_8_method_6_code 99 = .ok (.iconst 0, 1) := by decide +kernel
theorem d6_listChoices_100 : decode prog_8_method_6_code 100 = .ok (.istore 11, 2) := by decide +kernel
theorem d6_listChoices_102 : decode prog_8_method_6_code 102 = .ok (.iload 11, 2) := by decide +kernel
theorem d6_listChoices_104 : decode prog_8_method_6_code 104 = .ok (.ifCond .eq 67, 3) := by decide +kernel
theorem d6_listChoices_107 : decode prog_8_method_6_code 107 = .ok (.iload 7, 2) := by decide +kernel
theorem d6_listChoices_109 : decode prog_8_method_6_code 109 = .ok (.bipush 24, 2) := by decide +kernel
theorem d6_listChoices_111 : decode prog_8_method_6_code 111 = .ok (.if_icmp .ge 60, 3) := by decide +kernel
theorem d6_listChoices_114 : decode prog_8_method_6_code 114 = .ok (.aload_n 0, 1) := by decide +kernel
theorem d6_listChoices_115 : decode prog_8_method_6_code 115 = .ok (.getfield 35, 3) := by decide +kernel
theorem d6_listChoices_118 : decode prog_8_method_6_code 118 = .ok (.iload 6, 2) := by decide +kernel
theorem d6_listChoices_120 : decode prog_8_method_6_code 120 = .ok (.iload 10, 2) := by decide +kernel
theorem d6_listChoices_122 : decode prog_8_method_6_code 122 = .ok (.iastore, 1) := by decide +kernel
theorem d6_listChoices_123 : decode prog_8_method_6_code 123 = .ok (.aload_n 0, 1) := by decide +kernel
theorem d6_listChoices_124 : decode prog_8_method_6_code 124 = .ok (.getfield 20, 3) := by decide +kernel
theorem d6_listChoices_127 : decode prog_8_method_6_code 127 = .ok (.iload_n 1, 1) := by decide +kernel
theorem d6_listChoices_128 : decode prog_8_method_6_code 128 = .ok (.aaload, 1) := by decide +kernel
theorem d6_listChoices_129 : decode prog_8_method_6_code 129 = .ok (.iload 7, 2) := by decide +kernel
theorem d6_listChoices_131 : decode prog_8_method_6_code 131 = .ok (.iload 10, 2) := by decide +kernel
theorem d6_listChoices_133 : decode prog_8_method_6_code 133 = .ok (.iastore, 1) := by decide +kernel
theorem d6_listChoices_134 : decode prog_8_method_6_code 134 = .ok (.aload_n 0, 1) := by decide +kernel
theorem d6_listChoices_135 : decode prog_8_method_6_code 135 = .ok (.getfield 26, 3) := by decide +kernel
theorem d6_listChoices_138 : decode prog_8_method_6_code 138 = .ok (.iload_n 1, 1) := by decide +kernel
theorem d6_listChoices_139 : decode prog_8_method_6_code 139 = .ok (.aaload, 1) := by decide +kernel
theorem d6_listChoices_140 : decode prog_8_method_6_code 140 = .ok (.iload 7, 2) := by decide +kernel
theorem d6_listChoices_142 : decode prog_8_method_6_code 142 = .ok (.aload_n 0, 1) := by decide +kernel
theorem d6_listChoices_143 : decode prog_8_method_6_code 143 = .ok (.getfield 41, 3) := by decide +kernel
theorem d6_listChoices_146 : decode prog_8_method_6_code 146 = .ok (.iload 6, 2) := by decide +kernel
theorem d6_listChoices_148 : decode prog_8_method_6_code 148 = .ok (.aload_n 0, 1) := by decide +kernel
theorem d6_listChoices_149 : decode prog_8_method_6_code 149 = .ok (.getfield 35, 3) := by decide +kernel
theorem d6_listChoices_152 : decode prog_8_method_6_code 152 = .ok (.aload_n 0, 1) := by decide +kernel
theorem d6_listChoices_153 : decode prog_8_method_6_code 153 = .ok (.getfield 65, 3) := by decide +kernel
theorem d6_listChoices_156 : decode prog_8_method_6_code 156 = .ok (.invokevirtual 128, 3) := by decide +kernel
theorem d6_listChoices_159 : decode prog_8_method_6_code 159 = .ok (.iastore, 1) := by decide +kernel
theorem d6_listChoices_160 : decode prog_8_method_6_code 160 = .ok (.aload_n 0, 1) := by decide +kernel
theorem d6_listChoices_161 : decode prog_8_method_6_code 161 = .ok (.getfield 35, 3) := by decide +kernel
theorem d6_listChoices_164 : decode prog_8_method_6_code 164 = .ok (.iload 6, 2) := by decide +kernel
theorem d6_listChoices_166 : decode prog_8_method_6_code 166 = .ok (.iconst (-1), 1) := by decide +kernel
theorem d6_listChoices_167 : decode prog_8_method_6_code 167 = .ok (.iastore, 1) := by decide +kernel
theorem d6_listChoices_168 : decode prog_8_method_6_code 168 = .ok (.iinc 7 1, 3) := by decide +kernel
theorem d6_listChoices_171 : decode prog_8_method_6_code 171 = .ok (.iinc 9 1, 3) := by decide +kernel
theorem d6_listChoices_174 : decode prog_8_method_6_code 174 = .ok (.goto (-149), 3) := by decide +kernel
theorem d6_listChoices_177 : decode prog_8_method_6_code 177 = .ok (.iinc 8 1, 3) := by decide +kernel
theorem d6_listChoices_180 : decode prog_8_method_6_code 180 = .ok (.goto (-166), 3) := by decide +kernel
theorem d6_listChoices_183 : decode prog_8_method_6_code 183 = .ok (.aload_n 0, 1) := by decide +kernel
theorem d6_listChoices_184 : decode prog_8_method_6_code 184 = .ok (.getfield 20, 3) := by decide +kernel
theorem d6_listChoices_187 : decode prog_8_method_6_code 187 = .ok (.iload_n 1, 1) := by decide +kernel
theorem d6_listChoices_188 : decode prog_8_method_6_code 188 = .ok (.aaload, 1) := by decide +kernel
theorem d6_listChoices_189 : decode prog_8_method_6_code 189 = .ok (.iload 7, 2) := by decide +kernel
theorem d6_listChoices_191 : decode prog_8_method_6_code 191 = .ok (.iconst (-1), 1) := by decide +kernel
theorem d6_listChoices_192 : decode prog_8_method_6_code 192 = .ok (.iastore, 1) := by decide +kernel
theorem d6_listChoices_193 : decode prog_8_method_6_code 193 = .ok (.aload_n 0, 1) := by decide +kernel
theorem d6_listChoices_194 : decode prog_8_method_6_code 194 = .ok (.getfield 26, 3) := by decide +kernel
theorem d6_listChoices_197 : decode prog_8_method_6_code 197 = .ok (.iload_n 1, 1) := by decide +kernel
theorem d6_listChoices_198 : decode prog_8_method_6_code 198 = .ok (.aaload, 1) := by decide +kernel
theorem d6_listChoices_199 : decode prog_8_method_6_code 199 = .ok (.iload 7, 2) := by decide +kernel
theorem d6_listChoices_201 : decode prog_8_method_6_code 201 = .ok (.iconst 0, 1) := by decide +kernel
theorem d6_listChoices_202 : decode prog_8_method_6_code 202 = .ok (.iastore, 1) := by decide +kernel
theorem d6_listChoices_203 : decode prog_8_method_6_code 203 = .ok (.aload_n 0, 1) := by decide +kernel
theorem d6_listChoices_204 : decode prog_8_method_6_code 204 = .ok (.getfield 23, 3) := by decide +kernel
theorem d6_listChoices_207 : decode prog_8_method_6_code 207 = .ok (.iload_n 1, 1) := by decide +kernel
theorem d6_listChoices_208 : decode prog_8_method_6_code 208 = .ok (.iload 7, 2) := by decide +kernel
theorem d6_listChoices_210 : decode prog_8_method_6_code 210 = .ok (.iconst 1, 1) := by decide +kernel
theorem d6_listChoices_211 : decode prog_8_method_6_code 211 = .ok (.iadd, 1) := by decide +kernel
theorem d6_listChoices_212 : decode prog_8_method_6_code 212 = .ok (.iastore, 1) := by decide +kernel
theorem d6_listChoices_213 : decode prog_8_method_6_code 213 = .ok (.return_, 1) := by decide +kernel
theorem d6_sumTops_0 : decode prog_8_method_7_code 0 = .ok (.iconst 0, 1) := by decide +kernel
theorem d6_sumTops_1 : decode prog_8_method_7_code 1 = .ok (.istore_n 1, 1) := by decide +kernel
theorem d6_sumTops_2 : decode prog_8_method_7_code 2 = .ok (.aload_n 0, 1) := by decide +kernel
theorem d6_sumTops_3 : decode prog_8_method_7_code 3 = .ok (.getfield 29, 3) := by decide +kernel
theorem d6_sumTops_6 : decode prog_8_method_7_code 6 = .ok (.iconst 3, 1) := by decide +kernel
theorem d6_sumTops_7 : decode prog_8_method_7_code 7 = .ok (.iconst 0, 1) := by decide +kernel
theorem d6_sumTops_8 : decode prog_8_method_7_code 8 = .ok (.iastore, 1) := by decide +kernel
theorem d6_sumTops_9 : decode prog_8_method_7_code 9 = .ok (.iconst 2, 1) := by decide +kernel
theorem d6_sumTops_10 : decode prog_8_method_7_code 10 = .ok (.istore_n 2, 1) := by decide +kernel
theorem d6_sumTops_11 : decode prog_8_method_7_code 11 = .ok (.iload_n 2, 1) := by decide +kernel
theorem d6_sumTops_12 : decode prog_8_method_7_code 12 = .ok (.ifCond .lt 64, 3) := by decide +kernel
theorem d6_sumTops_15 : decode prog_8_method_7_code 15 = .ok (.iconst 0, 1) := by decide +kernel
theorem d6_sumTops_16 : decode prog_8_method_7_code 16 = .ok (.istore_n 3, 1) := by decide +kernel
theorem d6_sumTops_17 : decode prog_8_method_7_code 17 = .ok (.iconst 0, 1) := by decide +kernel
theorem d6_sumTops_18 : decode prog_8_method_7_code 18 = .ok (.istore 4, 2) := by decide +kernel
theorem d6_sumTops_20 : decode prog_8_method_7_code 20 = .ok (.iload_n 2, 1) := by decide +kernel
theorem d6_sumTops_21 : decode prog_8_method_7_code 21 = .ok (.aload_n 0, 1) := by decide +kernel
theorem d6_sumTops_22 : decode prog_8_method_7_code 22 = .ok (.getfield 91, 3) := by decide +kernel
theorem d6_sumTops_25 : decode prog_8_method_7_code 25 = .ok (.if_icmp .ge 34, 3) := by decide +kernel
theorem d6_sumTops_28 : decode prog_8_method_7_code 28 = .ok (.iload 4, 2) := by decide +kernel
theorem d6_sumTops_30 : decode prog_8_method_7_code 30 = .ok (.aload_n 0, 1) := by decide +kernel
theorem d6_sumTops_31 : decode prog_8_method_7_code 31 = .ok (.getfield 23, 3) := by decide +kernel
theorem d6_sumTops_34 : decode prog_8_method_7_code 34 = .ok (.iload_n 2, 1) := by decide +kernel
theorem d6_sumTops_35 : decode prog_8_method_7_code 35 = .ok (.iaload, 1) := by decide +kernel
theorem d6_sumTops_36 : decode prog_8_method_7_code 36 = .ok (.if_icmp .ge 23, 3) := by decide +kernel
theorem d6_sumTops_39 : decode prog_8_method_7_code 39 = .ok (.iload_n 3, 1) := by decide +kernel
theorem d6_sumTops_40 : decode prog_8_method_7_code 40 = .ok (.aload_n 0, 1) := by decide +kernel
theorem d6_sumTops_41 : decode prog_8_method_7_code 41 = .ok (.getfield 26, 3) := by decide +kernel
theorem d6_sumTops_44 : decode prog_8_method_7_code 44 = .ok (.iload_n 2, 1) := by decide +kernel
theorem d6_sumTops_45 : decode prog_8_method_7_code 45 = .ok (.aaload, 1) := by decide +kernel
theorem d6_sumTops_46 : decode prog_8_method_7_code 46 = .ok (.iload 4, 2) := by decide +kernel
theorem d6_sumTops_48 : decode prog_8_method_7_code 48 = .ok (.iaload, 1) := by decide +kernel
theorem d6_sumTops_49 : decode prog_8_method_7_code 49 = .ok (.invokestatic 132, 3) := by decide +kernel
theorem d6_sumTops_52 : decode prog_8_method_7_code 52 = .ok (.istore_n 3, 1) := by decide +kernel
theorem d6_sumTops_53 : decode prog_8_method_7_code 53 = .ok (.iinc 4 1, 3) := by decide +kernel
theorem d6_sumTops_56 : decode prog_8_method_7_code 56 = .ok (.goto (-36), 3) := by decide +kernel
theorem d6_sumTops_59 : decode prog_8_method_7_code 59 = .ok (.iload_n 1, 1) := by decide +kernel
theorem d6_sumTops_60 : decode prog_8_method_7_code 60 = .ok (.iload_n 3, 1) := by decide +kernel
theorem d6_sumTops_61 : decode prog_8_method_7_code 61 = .ok (.iadd, 1) := by decide +kernel
theorem d6_sumTops_62 : decode prog_8_method_7_code 62 = .ok (.istore_n 1, 1) := by decide +kernel
theorem d6_sumTops_63 : decode prog_8_method_7_code 63 = .ok (.aload_n 0, 1) := by decide +kernel
theorem d6_sumTops_64 : decode prog_8_method_7_code 64 = .ok (.getfield 29, 3) := by decide +kernel
theorem d6_sumTops_67 : decode prog_8_method_7_code 67 = .ok (.iload_n 2, 1) := by decide +kernel
theorem d6_sumTops_68 : decode prog_8_method_7_code 68 = .ok (.iload_n 1, 1) := by decide +kernel
theorem d6_sumTops_69 : decode prog_8_method_7_code 69 = .ok (.iastore, 1) := by decide +kernel
theorem d6_sumTops_70 : decode prog_8_method_7_code 70 = .ok (.iinc 2 (-1), 3) := by decide +kernel
theorem d6_sumTops_73 : decode prog_8_method_7_code 73 = .ok (.goto (-62), 3) := by decide +kernel
theorem d6_sumTops_76 : decode prog_8_method_7_code 76 = .ok (.return_, 1) := by decide +kernel
abbrev m5_arrangeWith : MD := ("MillBoats$Mover", ⟨"MillBoats$Mover", "arrangeWith", "(II)Z"⟩, prog_7_method_4_code, 6, (some Jvm.ClassFile.FieldType.boolean))
theorem k5_arrangeWith : okY m5_arrangeWith.2.1 2 := ⟨by decide +kernel, by decide +kernel, by decide +kernel⟩
abbrev m5_arrange : MD := ("MillBoats$Mover", ⟨"MillBoats$Mover", "arrange", "(I)Z"⟩, prog_7_method_3_code, 4, (some Jvm.ClassFile.FieldType.boolean))
theorem k5_arrange : okY m5_arrange.2.1 1 := ⟨by decide +kernel, by decide +kernel, by decide +kernel⟩
def f5_arrangeWith (F : St → Nat → Int32 → Option (Int32 × St)) (σ : St) (v0 : Nat) (v1 : Int32) (v2 : Int32) : Option (Int32 × St) :=
  gd (ob σ v0 5) (
  lt (sR σ v0 1) fun b2 => (
  gd (nz b2) (
  gd (ob σ b2 6) (
  lt (sR σ b2 2) fun b6 => (
  gd (nz b6) (
  gd (ob σ b6 14) (
  gd (inb σ b6 v1) (
  bd (f5_fewestSteps σ v0 v1 (sI σ b6 (ix v1))) fun r11 t12 => (
  (if r11 = (-1 : Int32) then
  some ((0 : Int32), t12)
  else
  lt (sR t12 v0 2) fun b16 => (
  gd (nz b16) (
  gd (ob t12 b16 14) (
  gd (inb t12 b16 v2) (
  lt (wI t12 b16 (ix v2) v1) fun t21 => (
  lt (sR t21 v0 3) fun b23 => (
  gd (nz b23) (
  gd (ob t21 b23 14) (
  gd (inb t21 b23 v2) (
  lt (wI t21 b23 (ix v2) r11) fun t28 => (
  lt (sR t28 v0 4) fun b30 => (
  gd (nz b30) (
  gd (ob t28 b30 14) (
  gd (inb t28 b30 v1) (
  lt (sI t28 b30 (ix v1)) fun y35 => (
  lt (sR t28 v0 1) fun b37 => (
  gd (nz b37) (
  gd (ob t28 b37 6) (
  lt (sR t28 b37 2) fun b41 => (
  gd (nz b41) (
  gd (ob t28 b41 14) (
  gd (inb t28 b41 v1) (
  lt (wI t28 b30 (ix v1) (sI t28 b41 (ix v1))) fun t46 => (
  bd (F t46 v0 (v2 + (1 : Int32))) fun r48 t49 => (
  lt (sR t49 v0 4) fun b52 => (
  gd (nz b52) (
  gd (ob t49 b52 14) (
  gd (inb t49 b52 v1) (
  lt (wI t49 b52 (ix v1) y35) fun t57 => (
  gd (isB r48) (
  some (r48, t57)))))))))))))))))))))))))))))))))))))))))
set_option maxRecDepth 50000 in
theorem s5_arrangeWith {F : St → Nat → Int32 → Option (Int32 × St)} {dF : Nat} (hB : 7 ≤ dF) (hF : ∀ (σ : St) (a0 : Nat) (a1 : Int32) (r : Int32) (τ : St), F σ a0 a1 = some (r, τ) → Call dF m5_arrange [.ref a0, .int a1] σ (some (.int r)) τ) : ∀ (σ : St) (v0 : Nat) (v1 : Int32) (v2 : Int32) (r : Int32) (τ : St), f5_arrangeWith F σ v0 v1 v2 = some (r, τ) → Call (dF + 1) m5_arrangeWith [.ref v0, .int v1, .int v2] σ (some (.int r)) τ := by
  intro σ v0 v1 v2 r τ hf
  unfold f5_arrangeWith at hf
  refine Call.of (by decide +kernel) rfl (Nat.le_of_ble_eq_true rfl) ?_
  refine ev_aload_n (j := 0) (i := 0) (q := 0) rfl rfl d5_arrangeWith_0 ?_
  refine ev_iload_n (j := 1) (i := 1) (q := 1) rfl rfl d5_arrangeWith_1 ?_
  refine ev_aload_n (j := 0) (i := 0) (q := 0) rfl rfl d5_arrangeWith_2 ?_
  obtain ⟨h1, hf⟩ := gd_some hf
  obtain ⟨b2, e3, hf⟩ := lt_some hf
  obtain ⟨h4, hf⟩ := gd_some hf
  refine ev_getRb cls5 (j := 1) (by decide) rfl w475 h1 e3 (nz_ne h4) d5_arrangeWith_3 ?_
  obtain ⟨h5, hf⟩ := gd_some hf
  obtain ⟨b6, e7, hf⟩ := lt_some hf
  obtain ⟨h8, hf⟩ := gd_some hf
  refine ev_getRNb cls6 (j := 2) (by decide) rfl w420 h5 e7 (nz_ne h8) d5_arrangeWith_6 ?_
  refine ev_iload_n (j := 1) (i := 1) (q := 1) rfl rfl d5_arrangeWith_9 ?_
  obtain ⟨h9, hf⟩ := gd_some hf
  obtain ⟨h10, hf⟩ := gd_some hf
  refine ev_iald h9 h10 d5_arrangeWith_10 ?_
  obtain ⟨r11, t12, k13, hf⟩ := bd_some hf
  have q14 := s5_fewestSteps _ _ _ _ _ _ k13
  refine ev_callV (vs := [.int v1, .int (sI σ b6 (ix v1))]) (sk := []) cls5 h1 q14 (by omega) (Nat.le_of_ble_eq_true rfl) w1105 w1107 ws47 w18 w1108 k5_fewestSteps rfl (Nat.le_of_ble_eq_true rfl) d5_arrangeWith_11 ?_
  refine ev_istore_n (lv2 := [(3, .int r11), (0, .ref v0), (1, .int v1), (2, .int v2)]) (j := 3) (i := 3) rfl (by decide) rfl d5_arrangeWith_14 ?_
  refine ev_iload_n (j := 3) (i := 3) (q := 0) rfl rfl d5_arrangeWith_15 ?_
  refine ev_iconst ci_m1 d5_arrangeWith_16 ?_
  rcases ite_some hf with ⟨c15, hf⟩ | ⟨c15, hf⟩
  · refine ev_icmp_ne_P (tgt := 22) c15 (by decide) d5_arrangeWith_17 ?_
    refine ev_iconst ci_0 d5_arrangeWith_20 ?_
    obtain ⟨rfl, rfl⟩ := ret_some hf
    exact ev_zret rfl (by decide) d5_arrangeWith_21
  · refine ev_icmp_ne_Q (tgt := 22) c15 (by decide) d5_arrangeWith_17 ?_
    refine ev_aload_n (j := 0) (i := 0) (q := 1) rfl rfl d5_arrangeWith_22 ?_
    obtain ⟨b16, e17, hf⟩ := lt_some hf
    obtain ⟨h18, hf⟩ := gd_some hf
    refine ev_getRb cls5 (j := 2) (by decide) rfl w476 (mono_ob q14.1 h1) e17 (nz_ne h18) d5_arrangeWith_23 ?_
    refine ev_iload_n (j := 2) (i := 2) (q := 3) rfl rfl d5_arrangeWith_26 ?_
    refine ev_iload_n (j := 1) (i := 1) (q := 2) rfl rfl d5_arrangeWith_27 ?_
    obtain ⟨h19, hf⟩ := gd_some hf
    obtain ⟨h20, hf⟩ := gd_some hf
    obtain ⟨t21, e22, hf⟩ := lt_some hf
    refine ev_iast h19 h20 d5_arrangeWith_28 (ev_nmS e22 ?_)
    refine ev_aload_n (j := 0) (i := 0) (q := 1) rfl rfl d5_arrangeWith_29 ?_
    obtain ⟨b23, e24, hf⟩ := lt_some hf
    obtain ⟨h25, hf⟩ := gd_some hf
    refine ev_getRb cls5 (j := 3) (by decide) rfl w478 (mono_ob (mono_eI e22) (mono_ob q14.1 h1)) e24 (nz_ne h25) d5_arrangeWith_30 ?_
    refine ev_iload_n (j := 2) (i := 2) (q := 3) rfl rfl d5_arrangeWith_33 ?_
    refine ev_iload_n (j := 3) (i := 3) (q := 0) rfl rfl d5_arrangeWith_34 ?_
    obtain ⟨h26, hf⟩ := gd_some hf
    obtain ⟨h27, hf⟩ := gd_some hf
    obtain ⟨t28, e29, hf⟩ := lt_some hf
    refine ev_iast h26 h27 d5_arrangeWith_35 (ev_nmS e29 ?_)
    refine ev_aload_n (j := 0) (i := 0) (q := 1) rfl rfl d5_arrangeWith_36 ?_
    obtain ⟨b30, e31, hf⟩ := lt_some hf
    obtain ⟨h32, hf⟩ := gd_some hf
    refine ev_getRb cls5 (j := 4) (by decide) rfl w480 (mono_ob (mono_eI e29) (mono_ob (mono_eI e22) (mono_ob q14.1 h1))) e31 (nz_ne h32) d5_arrangeWith_37 ?_
    refine ev_iload_n (j := 1) (i := 1) (q := 2) rfl rfl d5_arrangeWith_40 ?_
    obtain ⟨h33, hf⟩ := gd_some hf
    obtain ⟨h34, hf⟩ := gd_some hf
    refine ev_iald h33 h34 d5_arrangeWith_41 ?_
    obtain ⟨y35, e36, hf⟩ := lt_some hf
    refine ev_nmI e36 ?_
    refine ev_istore (lv2 := [(4, .int y35), (3, .int r11), (0, .ref v0), (1, .int v1), (2, .int v2)]) (i := 4) (by decide) rfl d5_arrangeWith_42 ?_
    refine ev_aload_n (j := 0) (i := 0) (q := 2) rfl rfl d5_arrangeWith_44 ?_
    refine ev_getRb cls5 (j := 4) (by decide) rfl w480 (mono_ob (mono_eI e29) (mono_ob (mono_eI e22) (mono_ob q14.1 h1))) e31 (nz_ne h32) d5_arrangeWith_45 ?_
    refine ev_iload_n (j := 1) (i := 1) (q := 3) rfl rfl d5_arrangeWith_48 ?_
    refine ev_aload_n (j := 0) (i := 0) (q := 2) rfl rfl d5_arrangeWith_49 ?_
    obtain ⟨b37, e38, hf⟩ := lt_some hf
    obtain ⟨h39, hf⟩ := gd_some hf
    refine ev_getRb cls5 (j := 1) (by decide) rfl w475 (mono_ob (mono_eI e29) (mono_ob (mono_eI e22) (mono_ob q14.1 h1))) e38 (nz_ne h39) d5_arrangeWith_50 ?_
    obtain ⟨h40, hf⟩ := gd_some hf
    obtain ⟨b41, e42, hf⟩ := lt_some hf
    obtain ⟨h43, hf⟩ := gd_some hf
    refine ev_getRNb cls6 (j := 2) (by decide) rfl w420 h40 e42 (nz_ne h43) d5_arrangeWith_53 ?_
    refine ev_iload_n (j := 1) (i := 1) (q := 3) rfl rfl d5_arrangeWith_56 ?_
    obtain ⟨h44, hf⟩ := gd_some hf
    obtain ⟨h45, hf⟩ := gd_some hf
    refine ev_iald h44 h45 d5_arrangeWith_57 ?_
    obtain ⟨t46, e47, hf⟩ := lt_some hf
    refine ev_iast h33 h34 d5_arrangeWith_58 (ev_nmS e47 ?_)
    refine ev_aload_n (j := 0) (i := 0) (q := 2) rfl rfl d5_arrangeWith_59 ?_
    refine ev_iload_n (j := 2) (i := 2) (q := 4) rfl rfl d5_arrangeWith_60 ?_
    refine ev_iconst ci_1 d5_arrangeWith_61 ?_
    refine ev_iadd d5_arrangeWith_62 ?_
    obtain ⟨r48, t49, k50, hf⟩ := bd_some hf
    have q51 := hF _ _ _ _ _ k50
    refine ev_callV (vs := [.int (v2 + (1 : Int32))]) (sk := []) cls5 (mono_ob (mono_eI e47) (mono_ob (mono_eI e29) (mono_ob (mono_eI e22) (mono_ob q14.1 h1)))) q51 (by omega) (Nat.le_of_ble_eq_true rfl) w1097 w1099 ws45 w18 w1100 k5_arrange rfl (Nat.le_of_ble_eq_true rfl) d5_arrangeWith_63 ?_
    refine ev_istore (lv2 := [(5, .int r48), (4, .int y35), (3, .int r11), (0, .ref v0), (1, .int v1), (2, .int v2)]) (i := 5) (by decide) rfl d5_arrangeWith_66 ?_
    refine ev_aload_n (j := 0) (i := 0) (q := 3) rfl rfl d5_arrangeWith_68 ?_
    obtain ⟨b52, e53, hf⟩ := lt_some hf
    obtain ⟨h54, hf⟩ := gd_some hf
    refine ev_getRb cls5 (j := 4) (by decide) rfl w480 (mono_ob q51.1 (mono_ob (mono_eI e47) (mono_ob (mono_eI e29) (mono_ob (mono_eI e22) (mono_ob q14.1 h1))))) e53 (nz_ne h54) d5_arrangeWith_69 ?_
    refine ev_iload_n (j := 1) (i := 1) (q := 4) rfl rfl d5_arrangeWith_72 ?_
    refine ev_iload (i := 4) (q := 1) rfl d5_arrangeWith_73 ?_
    obtain ⟨h55, hf⟩ := gd_some hf
    obtain ⟨h56, hf⟩ := gd_some hf
    obtain ⟨t57, e58, hf⟩ := lt_some hf
    refine ev_iast h55 h56 d5_arrangeWith_75 (ev_nmS e58 ?_)
    refine ev_iload (i := 5) (q := 0) rfl d5_arrangeWith_76 ?_
    obtain ⟨h59, hf⟩ := gd_some hf
    obtain ⟨rfl, rfl⟩ := ret_some hf
    exact ev_zret rfl (narB h59) d5_arrangeWith_78
def f5_arrange_p57 (F : St → Nat → Int32 → Option (Int32 × St)) (K4 : St → Nat → Int32 → Int32 → Int32 → Option (Int32 × St)) (σ : St) (v0 : Nat) (v1 : Int32) (v2 : Int32) (v3 : Int32) : Option (Int32 × St) :=
  lt (v3 + (1 : Int32)) fun y39 => (
  K4 σ v0 v1 v2 y39)
set_option maxRecDepth 20000 in
theorem s5_arrange_p57 {F : St → Nat → Int32 → Option (Int32 × St)} {dF : Nat} (hB : 7 ≤ dF) (hF : ∀ (σ : St) (a0 : Nat) (a1 : Int32) (r : Int32) (τ : St), F σ a0 a1 = some (r, τ) → Call dF m5_arrange [.ref a0, .int a1] σ (some (.int r)) τ) {K4 : St → Nat → Int32 → Int32 → Int32 → Option (Int32 × St)} (hK4 : ∀ (σ : St) (v0 : Nat) (v1 : Int32) (v2 : Int32) (v3 : Int32) (r : Int32) (τ : St), K4 σ v0 v1 v2 v3 = some (r, τ) → Ev (dF + 2) m5_arrange 4 [(0, .ref v0), (1, .int v1), (2, .int v2), (3, .int v3)] [] σ (some (.int r)) τ) : ∀ (σ : St) (v0 : Nat) (v1 : Int32) (v2 : Int32) (v3 : Int32) (r : Int32) (τ : St), f5_arrange_p57 F K4 σ v0 v1 v2 v3 = some (r, τ) → Ev (dF + 2) m5_arrange 57 [(0, .ref v0), (1, .int v1), (2, .int v2), (3, .int v3)] [] σ (some (.int r)) τ := by
  intro σ v0 v1 v2 v3 r τ hf
  unfold f5_arrange_p57 at hf
  obtain ⟨y39, e40, hf⟩ := lt_some hf
  refine ev_iinc (lv2 := [(3, .int y39), (0, .ref v0), (1, .int v1), (2, .int v2)]) (i := 3) (q := 3) (v := y39) (n := 1) rfl (by rw [ci_1]; exact e40.symm) (by decide) rfl d5_arrange_57 ?_
  refine ev_goto (tgt := 4) (by decide) d5_arrange_60 ?_
  exact Ev.sub [1, 2, 3, 0] rfl (hK4 _ _ _ _ _ _ _ hf)
def f5_arrange_p4 (F : St → Nat → Int32 → Option (Int32 × St)) : Nat → St → Nat → Int32 → Int32 → Int32 → Option (Int32 × St)
  | 0, _, _, _, _, _ => none
  | n + 1, σ, v0, v1, v2, v3 =>
  (if v3 < (6 : Int32) then
  gd (ob σ v0 5) (
  lt (sR σ v0 1) fun b3 => (
  gd (nz b3) (
  gd (ob σ b3 6) (
  bd (f6_has σ b3 v3) fun r7 t8 => (
  (if r7 = (0 : Int32) then
  f5_arrange_p57 F (f5_arrange_p4 F n) t8 v0 v1 v2 v3
  else
  lt (sR t8 v0 4) fun b12 => (
  gd (nz b12) (
  gd (ob t8 b12 14) (
  gd (inb t8 b12 v3) (
  lt (sR t8 v0 1) fun b17 => (
  gd (nz b17) (
  gd (ob t8 b17 6) (
  lt (sR t8 b17 2) fun b21 => (
  gd (nz b21) (
  gd (ob t8 b21 14) (
  gd (inb t8 b21 v3) (
  (if (sI t8 b12 (ix v3)) = (sI t8 b21 (ix v3)) then
  f5_arrange_p57 F (f5_arrange_p4 F n) t8 v0 v1 v2 v3
  else
  (if v1 < (3 : Int32) then
  bd (f5_arrangeWith F t8 v0 v3 v1) fun r28 t29 => (
  (if r28 = (0 : Int32) then
  f5_arrange_p57 F (f5_arrange_p4 F n) t29 v0 v1 (0 : Int32) v3
  else
  some ((1 : Int32), t29)))
  else
  f5_arrange_p57 F (f5_arrange_p4 F n) t8 v0 v1 (0 : Int32) v3)))))))))))))))))))
  else
  (if v2 = (0 : Int32) then
  gd (isB v2) (
  some (v2, σ))
  else
  gd (ob σ v0 5) (
  lt (wI σ v0 9 v1) fun t36 => (
  gd (isB v2) (
  some (v2, t36))))))
set_option maxRecDepth 20000 in
theorem s5_arrange_p4 {F : St → Nat → Int32 → Option (Int32 × St)} {dF : Nat} (hB : 7 ≤ dF) (hF : ∀ (σ : St) (a0 : Nat) (a1 : Int32) (r : Int32) (τ : St), F σ a0 a1 = some (r, τ) → Call dF m5_arrange [.ref a0, .int a1] σ (some (.int r)) τ) : ∀ (n : Nat) (σ : St) (v0 : Nat) (v1 : Int32) (v2 : Int32) (v3 : Int32) (r : Int32) (τ : St), f5_arrange_p4 F n σ v0 v1 v2 v3 = some (r, τ) → Ev (dF + 2) m5_arrange 4 [(0, .ref v0), (1, .int v1), (2, .int v2), (3, .int v3)] [] σ (some (.int r)) τ := by
  intro n
  induction n with
  | zero =>
    intro σ v0 v1 v2 v3 r τ hf
    cases hf
  | succ n ih =>
    intro σ v0 v1 v2 v3 r τ hf
    rw [f5_arrange_p4] at hf
    refine ev_iload_n (j := 3) (i := 3) (q := 3) rfl rfl d5_arrange_4 ?_
    refine ev_bipush cb_6 d5_arrange_5 ?_
    rcases ite_some hf with ⟨c1, hf⟩ | ⟨c1, hf⟩
    · refine ev_icmp_ge_P (tgt := 63) c1 (by decide) d5_arrange_7 ?_
      refine ev_aload_n (j := 0) (i := 0) (q := 0) rfl rfl d5_arrange_10 ?_
      obtain ⟨h2, hf⟩ := gd_some hf
      obtain ⟨b3, e4, hf⟩ := lt_some hf
      obtain ⟨h5, hf⟩ := gd_some hf
      refine ev_getRb cls5 (j := 1) (by decide) rfl w475 h2 e4 (nz_ne h5) d5_arrange_11 ?_
      refine ev_iload_n (j := 3) (i := 3) (q := 3) rfl rfl d5_arrange_14 ?_
      obtain ⟨h6, hf⟩ := gd_some hf
      obtain ⟨r7, t8, k9, hf⟩ := bd_some hf
      have q10 := s6_has _ _ _ _ _ k9
      refine ev_callV (vs := [.int v3]) (sk := []) cls6 h6 q10 (by omega) (Nat.le_of_ble_eq_true rfl) w1096 w1081 w1082 w17 w1083 k6_has rfl (Nat.le_of_ble_eq_true rfl) d5_arrange_15 ?_
      rcases ite_some hf with ⟨c11, hf⟩ | ⟨c11, hf⟩
      · refine ev_if_eq_P (tgt := 57) c11 (by decide) d5_arrange_18 ?_
        exact Ev.sub [0, 1, 2, 3] rfl (s5_arrange_p57 hB hF ih _ _ _ _ _ _ _ hf)
      · refine ev_if_eq_Q (tgt := 57) c11 (by decide) d5_arrange_18 ?_
        refine ev_aload_n (j := 0) (i := 0) (q := 0) rfl rfl d5_arrange_21 ?_
        obtain ⟨b12, e13, hf⟩ := lt_some hf
        obtain ⟨h14, hf⟩ := gd_some hf
        refine ev_getRb cls5 (j := 4) (by decide) rfl w480 (mono_ob q10.1 h2) e13 (nz_ne h14) d5_arrange_22 ?_
        refine ev_iload_n (j := 3) (i := 3) (q := 3) rfl rfl d5_arrange_25 ?_
        obtain ⟨h15, hf⟩ := gd_some hf
        obtain ⟨h16, hf⟩ := gd_some hf
        refine ev_iald h15 h16 d5_arrange_26 ?_
        refine ev_aload_n (j := 0) (i := 0) (q := 0) rfl rfl d5_arrange_27 ?_
        obtain ⟨b17, e18, hf⟩ := lt_some hf
        obtain ⟨h19, hf⟩ := gd_some hf
        refine ev_getRb cls5 (j := 1) (by decide) rfl w475 (mono_ob q10.1 h2) e18 (nz_ne h19) d5_arrange_28 ?_
        obtain ⟨h20, hf⟩ := gd_some hf
        obtain ⟨b21, e22, hf⟩ := lt_some hf
        obtain ⟨h23, hf⟩ := gd_some hf
        refine ev_getRNb cls6 (j := 2) (by decide) rfl w420 h20 e22 (nz_ne h23) d5_arrange_31 ?_
        refine ev_iload_n (j := 3) (i := 3) (q := 3) rfl rfl d5_arrange_34 ?_
        obtain ⟨h24, hf⟩ := gd_some hf
        obtain ⟨h25, hf⟩ := gd_some hf
        refine ev_iald h24 h25 d5_arrange_35 ?_
        rcases ite_some hf with ⟨c26, hf⟩ | ⟨c26, hf⟩
        · refine ev_icmp_eq_P (tgt := 57) c26 (by decide) d5_arrange_36 ?_
          exact Ev.sub [0, 1, 2, 3] rfl (s5_arrange_p57 hB hF ih _ _ _ _ _ _ _ hf)
        · refine ev_icmp_eq_Q (tgt := 57) c26 (by decide) d5_arrange_36 ?_
          refine ev_iconst ci_0 d5_arrange_39 ?_
          refine ev_istore_n (lv2 := [(2, .int (0 : Int32)), (0, .ref v0), (1, .int v1), (3, .int v3)]) (j := 2) (i := 2) rfl (by decide) rfl d5_arrange_40 ?_
          refine ev_iload_n (j := 1) (i := 1) (q := 2) rfl rfl d5_arrange_41 ?_
          refine ev_iconst ci_3 d5_arrange_42 ?_
          rcases ite_some hf with ⟨c27, hf⟩ | ⟨c27, hf⟩
          · refine ev_icmp_ge_P (tgt := 57) c27 (by decide) d5_arrange_43 ?_
            refine ev_aload_n (j := 0) (i := 0) (q := 1) rfl rfl d5_arrange_46 ?_
            refine ev_iload_n (j := 3) (i := 3) (q := 3) rfl rfl d5_arrange_47 ?_
            refine ev_iload_n (j := 1) (i := 1) (q := 2) rfl rfl d5_arrange_48 ?_
            obtain ⟨r28, t29, k30, hf⟩ := bd_some hf
            have q31 := s5_arrangeWith hB hF _ _ _ _ _ _ k30
            refine ev_callV (vs := [.int v3, .int v1]) (sk := []) cls5 (mono_ob q10.1 h2) q31 (by omega) (Nat.le_of_ble_eq_true rfl) w1101 w1103 ws46 w18 w1104 k5_arrangeWith rfl (Nat.le_of_ble_eq_true rfl) d5_arrange_49 ?_
            rcases ite_some hf with ⟨c32, hf⟩ | ⟨c32, hf⟩
            · refine ev_if_eq_P (tgt := 57) c32 (by decide) d5_arrange_52 ?_
              exact Ev.sub [1, 2, 0, 3] rfl (s5_arrange_p57 hB hF ih _ _ _ _ _ _ _ hf)
            · refine ev_if_eq_Q (tgt := 57) c32 (by decide) d5_arrange_52 ?_
              refine ev_iconst ci_1 d5_arrange_55 ?_
              obtain ⟨rfl, rfl⟩ := ret_some hf
              exact ev_zret rfl (by decide) d5_arrange_56
          · refine ev_icmp_ge_Q (tgt := 57) c27 (by decide) d5_arrange_43 ?_
            exact Ev.sub [1, 2, 0, 3] rfl (s5_arrange_p57 hB hF ih _ _ _ _ _ _ _ hf)
    · refine ev_icmp_ge_Q (tgt := 63) c1 (by decide) d5_arrange_7 ?_
      refine ev_iload_n (j := 2) (i := 2) (q := 2) rfl rfl d5_arrange_63 ?_
      rcases ite_some hf with ⟨c33, hf⟩ | ⟨c33, hf⟩
      · refine ev_if_eq_P (tgt := 72) c33 (by decide) d5_arrange_64 ?_
        refine ev_iload_n (j := 2) (i := 2) (q := 2) rfl rfl d5_arrange_72 ?_
        obtain ⟨h34, hf⟩ := gd_some hf
        obtain ⟨rfl, rfl⟩ := ret_some hf
        exact ev_zret rfl (narB h34) d5_arrange_73
      · refine ev_if_eq_Q (tgt := 72) c33 (by decide) d5_arrange_64 ?_
        refine ev_aload_n (j := 0) (i := 0) (q := 0) rfl rfl d5_arrange_67 ?_
        refine ev_iload_n (j := 1) (i := 1) (q := 1) rfl rfl d5_arrange_68 ?_
        obtain ⟨h35, hf⟩ := gd_some hf
        obtain ⟨t36, e37, hf⟩ := lt_some hf
        refine ev_putI cls5 (j := 9) (by decide) rfl rfl w485 h35 (fun _ => ⟨rfl, rfl⟩) d5_arrange_69 (ev_nmS e37 ?_)
        refine ev_iload_n (j := 2) (i := 2) (q := 2) rfl rfl d5_arrange_72 ?_
        obtain ⟨h38, hf⟩ := gd_some hf
        obtain ⟨rfl, rfl⟩ := ret_some hf
        exact ev_zret rfl (narB h38) d5_arrange_73
def f5_arrange_b (F : St → Nat → Int32 → Option (Int32 × St)) (σ : St) (v0 : Nat) (v1 : Int32) : Option (Int32 × St) :=
  f5_arrange_p4 F FU σ v0 v1 (1 : Int32) (0 : Int32)
set_option maxRecDepth 50000 in
theorem s5_arrange_b {F : St → Nat → Int32 → Option (Int32 × St)} {dF : Nat} (hB : 7 ≤ dF) (hF : ∀ (σ : St) (a0 : Nat) (a1 : Int32) (r : Int32) (τ : St), F σ a0 a1 = some (r, τ) → Call dF m5_arrange [.ref a0, .int a1] σ (some (.int r)) τ) : ∀ (σ : St) (v0 : Nat) (v1 : Int32) (r : Int32) (τ : St), f5_arrange_b F σ v0 v1 = some (r, τ) → Call (dF + 2) m5_arrange [.ref v0, .int v1] σ (some (.int r)) τ := by
  intro σ v0 v1 r τ hf
  unfold f5_arrange_b at hf
  refine Call.of (by decide +kernel) rfl (Nat.le_of_ble_eq_true rfl) ?_
  refine ev_iconst ci_1 d5_arrange_0 ?_
  refine ev_istore_n (lv2 := [(2, .int (1 : Int32)), (0, .ref v0), (1, .int v1)]) (j := 2) (i := 2) rfl (by decide) rfl d5_arrange_1 ?_
  refine ev_iconst ci_0 d5_arrange_2 ?_
  refine ev_istore_n (lv2 := [(3, .int (0 : Int32)), (2, .int (1 : Int32)), (0, .ref v0), (1, .int v1)]) (j := 3) (i := 3) rfl (by decide) rfl d5_arrange_3 ?_
  exact Ev.sub [2, 3, 1, 0] rfl (s5_arrange_p4 hB hF FU _ _ _ _ _ _ _ hf)
def f5_arrange : Nat → St → Nat → Int32 → Option (Int32 × St)
  | 0, _, _, _ => none
  | n + 1, σ, a0, a1 => f5_arrange_b (f5_arrange n) σ a0 a1
theorem s5_arrange : ∀ (n : Nat) (σ : St) (a0 : Nat) (a1 : Int32) (r : Int32) (τ : St), f5_arrange n σ a0 a1 = some (r, τ) → Call (7 + 2 * n) m5_arrange [.ref a0, .int a1] σ (some (.int r)) τ := by
  intro n
  induction n with
  | zero =>
    intro σ a0 a1 r τ hf
    cases hf
  | succ n ih =>
    intro σ a0 a1 r τ hf
    rw [f5_arrange] at hf
    have := s5_arrange_b (F := f5_arrange n) (dF := 7 + 2 * n) (by omega) ih σ a0 a1 r τ hf
    rw [show 7 + 2 * (n + 1) = 7 + 2 * n + 2 by omega]
    exact this
abbrev m6_isThere : MD := ("MillBoats$Planner", ⟨"MillBoats$Planner", "isThere", "()Z"⟩, prog_8_method_2_code, 1, (some Jvm.ClassFile.FieldType.boolean))
theorem k6_isThere : okY m6_isThere.2.1 0 := ⟨by decide +kernel, by decide +kernel, by decide +kernel⟩
def f6_isThere (σ : St) (v0 : Nat) : Option (Int32 × St) :=
  gd (ob σ v0 6) (
  (if (sI σ v0 3) = (0 : Int32) then
  some ((0 : Int32), σ)
  else
  some ((1 : Int32), σ)))
set_option maxRecDepth 50000 in
theorem s6_isThere : ∀ (σ : St) (v0 : Nat) (r : Int32) (τ : St), f6_isThere σ v0 = some (r, τ) → Call 2 m6_isThere [.ref v0] σ (some (.int r)) τ := by
  intro σ v0 r τ hf
  unfold f6_isThere at hf
  refine Call.of (by decide +kernel) rfl (Nat.le_of_ble_eq_true rfl) ?_
  refine ev_aload_n (j := 0) (i := 0) (q := 0) rfl rfl d6_isThere_0 ?_
  obtain ⟨h1, hf⟩ := gd_some hf
  refine ev_getI cls6 (j := 3) (by decide) rfl w422 h1 d6_isThere_1 ?_
  rcases ite_some hf with ⟨c2, hf⟩ | ⟨c2, hf⟩
  · refine ev_if_eq_P (tgt := 11) c2 (by decide) d6_isThere_4 ?_
    refine ev_iconst ci_0 d6_isThere_11 ?_
    obtain ⟨rfl, rfl⟩ := ret_some hf
    exact ev_zret rfl (by decide) d6_isThere_12
  · refine ev_if_eq_Q (tgt := 11) c2 (by decide) d6_isThere_4 ?_
    refine ev_iconst ci_1 d6_isThere_7 ?_
    refine ev_goto (tgt := 12) (by decide) d6_isThere_8 ?_
    obtain ⟨rfl, rfl⟩ := ret_some hf
    exact ev_zret rfl (by decide) d6_isThere_12
abbrev m5_find : MD := ("MillBoats$Mover", ⟨"MillBoats$Mover", "find", "(I)I"⟩, prog_7_method_2_code, 3, (some Jvm.ClassFile.FieldType.int))
theorem k5_find : okY m5_find.2.1 1 := ⟨by decide +kernel, by decide +kernel, by decide +kernel⟩
def f5_find_p65 (K19 : St → Nat → Int32 → Option (Int32 × St)) (σ : St) (v0 : Nat) (v2 : Int32) : Option (Int32 × St) :=
  lt (v2 + (1 : Int32)) fun y54 => (
  K19 σ v0 y54)
set_option maxRecDepth 20000 in
theorem s5_find_p65 {K19 : St → Nat → Int32 → Option (Int32 × St)} (hK19 : ∀ (σ : St) (v0 : Nat) (v2 : Int32) (r : Int32) (τ : St), K19 σ v0 v2 = some (r, τ) → Ev 20 m5_find 19 [(0, .ref v0), (2, .int v2)] [] σ (some (.int r)) τ) : ∀ (σ : St) (v0 : Nat) (v2 : Int32) (r : Int32) (τ : St), f5_find_p65 K19 σ v0 v2 = some (r, τ) → Ev 20 m5_find 65 [(0, .ref v0), (2, .int v2)] [] σ (some (.int r)) τ := by
  intro σ v0 v2 r τ hf
  unfold f5_find_p65 at hf
  obtain ⟨y54, e55, hf⟩ := lt_some hf
  refine ev_iinc (lv2 := [(2, .int y54), (0, .ref v0)]) (i := 2) (q := 1) (v := y54) (n := 1) rfl (by rw [ci_1]; exact e55.symm) (by decide) rfl d5_find_65 ?_
  refine ev_goto (tgt := 19) (by decide) d5_find_68 ?_
  exact Ev.sub [1, 0] rfl (hK19 _ _ _ _ _ hf)
def f5_find_p19 : Nat → St → Nat → Int32 → Option (Int32 × St)
  | 0, _, _, _ => none
  | n + 1, σ, v0, v2 =>
  (if v2 < (6 : Int32) then
  gd (ob σ v0 5) (
  lt (sR σ v0 4) fun b15 => (
  gd (nz b15) (
  lt (sR σ v0 0) fun b18 => (
  gd (nz b18) (
  gd (ob σ b18 8) (
  lt (sR σ b18 3) fun b22 => (
  gd (nz b22) (
  gd (ob σ b22 14) (
  gd (inb σ b22 v2) (
  gd (ob σ b15 14) (
  gd (inb σ b15 v2) (
  lt (wI σ b15 (ix v2) (sI σ b22 (ix v2))) fun t29 => (
  lt (sR t29 v0 1) fun b31 => (
  gd (nz b31) (
  gd (ob t29 b31 6) (
  bd (f6_has t29 b31 v2) fun r35 t36 => (
  (if r35 = (0 : Int32) then
  f5_find_p65 (f5_find_p19 n) t36 v0 v2
  else
  lt (sR t36 v0 4) fun b40 => (
  gd (nz b40) (
  gd (ob t36 b40 14) (
  gd (inb t36 b40 v2) (
  (if (sI t36 b40 (ix v2)) = (-2 : Int32) then
  some ((-2 : Int32), t36)
  else
  f5_find_p65 (f5_find_p19 n) t36 v0 v2)))))))))))))))))))))))
  else
  gd (ob σ v0 5) (
  lt (wI σ v0 9 (0 : Int32)) fun t47 => (
  bd (f5_arrange 6 t47 v0 (0 : Int32)) fun r49 t50 => (
  (if r49 = (0 : Int32) then
  some ((-2 : Int32), t50)
  else
  some (sI t50 v0 9, t50))))))
set_option maxRecDepth 20000 in
theorem s5_find_p19 : ∀ (n : Nat) (σ : St) (v0 : Nat) (v2 : Int32) (r : Int32) (τ : St), f5_find_p19 n σ v0 v2 = some (r, τ) → Ev 20 m5_find 19 [(0, .ref v0), (2, .int v2)] [] σ (some (.int r)) τ := by
  intro n
  induction n with
  | zero =>
    intro σ v0 v2 r τ hf
    cases hf
  | succ n ih =>
    intro σ v0 v2 r τ hf
    rw [f5_find_p19] at hf
    refine ev_iload_n (j := 2) (i := 2) (q := 1) rfl rfl d5_find_19 ?_
    refine ev_bipush cb_6 d5_find_20 ?_
    rcases ite_some hf with ⟨c13, hf⟩ | ⟨c13, hf⟩
    · refine ev_icmp_ge_P (tgt := 71) c13 (by decide) d5_find_22 ?_
      refine ev_aload_n (j := 0) (i := 0) (q := 0) rfl rfl d5_find_25 ?_
      obtain ⟨h14, hf⟩ := gd_some hf
      obtain ⟨b15, e16, hf⟩ := lt_some hf
      obtain ⟨h17, hf⟩ := gd_some hf
      refine ev_getRb cls5 (j := 4) (by decide) rfl w480 h14 e16 (nz_ne h17) d5_find_26 ?_
      refine ev_iload_n (j := 2) (i := 2) (q := 1) rfl rfl d5_find_29 ?_
      refine ev_aload_n (j := 0) (i := 0) (q := 0) rfl rfl d5_find_30 ?_
      obtain ⟨b18, e19, hf⟩ := lt_some hf
      obtain ⟨h20, hf⟩ := gd_some hf
      refine ev_getRb cls5 (j := 0) (by decide) rfl w474 h14 e19 (nz_ne h20) d5_find_31 ?_
      obtain ⟨h21, hf⟩ := gd_some hf
      obtain ⟨b22, e23, hf⟩ := lt_some hf
      obtain ⟨h24, hf⟩ := gd_some hf
      refine ev_getRNb cls8 (j := 3) (by decide) rfl w115 h21 e23 (nz_ne h24) d5_find_34 ?_
      refine ev_iload_n (j := 2) (i := 2) (q := 1) rfl rfl d5_find_37 ?_
      obtain ⟨h25, hf⟩ := gd_some hf
      obtain ⟨h26, hf⟩ := gd_some hf
      refine ev_iald h25 h26 d5_find_38 ?_
      obtain ⟨h27, hf⟩ := gd_some hf
      obtain ⟨h28, hf⟩ := gd_some hf
      obtain ⟨t29, e30, hf⟩ := lt_some hf
      refine ev_iast h27 h28 d5_find_39 (ev_nmS e30 ?_)
      refine ev_aload_n (j := 0) (i := 0) (q := 0) rfl rfl d5_find_40 ?_
      obtain ⟨b31, e32, hf⟩ := lt_some hf
      obtain ⟨h33, hf⟩ := gd_some hf
      refine ev_getRb cls5 (j := 1) (by decide) rfl w475 (mono_ob (mono_eI e30) h14) e32 (nz_ne h33) d5_find_41 ?_
      refine ev_iload_n (j := 2) (i := 2) (q := 1) rfl rfl d5_find_44 ?_
      obtain ⟨h34, hf⟩ := gd_some hf
      obtain ⟨r35, t36, k37, hf⟩ := bd_some hf
      have q38 := s6_has _ _ _ _ _ k37
      refine ev_callV (vs := [.int v2]) (sk := []) cls6 h34 q38 (by decide) (Nat.le_of_ble_eq_true rfl) w1096 w1081 w1082 w17 w1083 k6_has rfl (Nat.le_of_ble_eq_true rfl) d5_find_45 ?_
      rcases ite_some hf with ⟨c39, hf⟩ | ⟨c39, hf⟩
      · refine ev_if_eq_P (tgt := 65) c39 (by decide) d5_find_48 ?_
        exact Ev.sub [0, 1] rfl (s5_find_p65 ih _ _ _ _ _ hf)
      · refine ev_if_eq_Q (tgt := 65) c39 (by decide) d5_find_48 ?_
        refine ev_aload_n (j := 0) (i := 0) (q := 0) rfl rfl d5_find_51 ?_
        obtain ⟨b40, e41, hf⟩ := lt_some hf
        obtain ⟨h42, hf⟩ := gd_some hf
        refine ev_getRb cls5 (j := 4) (by decide) rfl w480 (mono_ob q38.1 (mono_ob (mono_eI e30) h14)) e41 (nz_ne h42) d5_find_52 ?_
        refine ev_iload_n (j := 2) (i := 2) (q := 1) rfl rfl d5_find_55 ?_
        obtain ⟨h43, hf⟩ := gd_some hf
        obtain ⟨h44, hf⟩ := gd_some hf
        refine ev_iald h43 h44 d5_find_56 ?_
        refine ev_bipush cb_m2 d5_find_57 ?_
        rcases ite_some hf with ⟨c45, hf⟩ | ⟨c45, hf⟩
        · refine ev_icmp_ne_P (tgt := 65) c45 (by decide) d5_find_59 ?_
          refine ev_bipush cb_m2 d5_find_62 ?_
          obtain ⟨rfl, rfl⟩ := ret_some hf
          exact ev_iret rfl d5_find_64
        · refine ev_icmp_ne_Q (tgt := 65) c45 (by decide) d5_find_59 ?_
          exact Ev.sub [0, 1] rfl (s5_find_p65 ih _ _ _ _ _ hf)
    · refine ev_icmp_ge_Q (tgt := 71) c13 (by decide) d5_find_22 ?_
      refine ev_aload_n (j := 0) (i := 0) (q := 0) rfl rfl d5_find_71 ?_
      refine ev_iconst ci_0 d5_find_72 ?_
      obtain ⟨h46, hf⟩ := gd_some hf
      obtain ⟨t47, e48, hf⟩ := lt_some hf
      refine ev_putI cls5 (j := 9) (by decide) rfl rfl w485 h46 (fun _ => ⟨rfl, rfl⟩) d5_find_73 (ev_nmS e48 ?_)
      refine ev_aload_n (j := 0) (i := 0) (q := 0) rfl rfl d5_find_76 ?_
      refine ev_iconst ci_0 d5_find_77 ?_
      obtain ⟨r49, t50, k51, hf⟩ := bd_some hf
      have q52 := s5_arrange 6 _ _ _ _ _ k51
      refine ev_callV (vs := [.int (0 : Int32)]) (sk := []) cls5 (mono_ob (mono_eI e48) h46) q52 (by omega) (Nat.le_of_ble_eq_true rfl) w1097 w1099 ws45 w18 w1100 k5_arrange rfl (Nat.le_of_ble_eq_true rfl) d5_find_78 ?_
      rcases ite_some hf with ⟨c53, hf⟩ | ⟨c53, hf⟩
      · refine ev_if_eq_P (tgt := 91) c53 (by decide) d5_find_81 ?_
        refine ev_bipush cb_m2 d5_find_91 ?_
        obtain ⟨rfl, rfl⟩ := ret_some hf
        exact ev_iret rfl d5_find_93
      · refine ev_if_eq_Q (tgt := 91) c53 (by decide) d5_find_81 ?_
        refine ev_aload_n (j := 0) (i := 0) (q := 0) rfl rfl d5_find_84 ?_
        refine ev_getI cls5 (j := 9) (by decide) rfl w485 (mono_ob q52.1 (mono_ob (mono_eI e48) h46)) d5_find_85 ?_
        refine ev_goto (tgt := 93) (by decide) d5_find_88 ?_
        obtain ⟨rfl, rfl⟩ := ret_some hf
        exact ev_iret rfl d5_find_93
def f5_find (σ : St) (v0 : Nat) (v1 : Int32) : Option (Int32 × St) :=
  gd (ob σ v0 5) (
  lt (sR σ v0 1) fun b2 => (
  gd (nz b2) (
  gd (ob σ b2 6) (
  bd (f6_isThere σ b2) fun r6 t7 => (
  (if r6 = (0 : Int32) then
  some ((-1 : Int32), t7)
  else
  lt (wI t7 v0 8 v1) fun t11 => (
  f5_find_p19 FU t11 v0 (0 : Int32))))))))
set_option maxRecDepth 50000 in
theorem s5_find : ∀ (σ : St) (v0 : Nat) (v1 : Int32) (r : Int32) (τ : St), f5_find σ v0 v1 = some (r, τ) → Call 20 m5_find [.ref v0, .int v1] σ (some (.int r)) τ := by
  intro σ v0 v1 r τ hf
  unfold f5_find at hf
  refine Call.of (by decide +kernel) rfl (Nat.le_of_ble_eq_true rfl) ?_
  refine ev_aload_n (j := 0) (i := 0) (q := 0) rfl rfl d5_find_0 ?_
  obtain ⟨h1, hf⟩ := gd_some hf
  obtain ⟨b2, e3, hf⟩ := lt_some hf
  obtain ⟨h4, hf⟩ := gd_some hf
  refine ev_getRb cls5 (j := 1) (by decide) rfl w475 h1 e3 (nz_ne h4) d5_find_1 ?_
  obtain ⟨h5, hf⟩ := gd_some hf
  obtain ⟨r6, t7, k8, hf⟩ := bd_some hf
  have q9 := s6_isThere _ _ _ _ k8
  refine ev_callV (vs := []) (sk := []) cls6 h5 q9 (by decide) (Nat.le_of_ble_eq_true rfl) w1092 w1093 w1094 w17 w1095 k6_isThere rfl (Nat.le_of_ble_eq_true rfl) d5_find_4 ?_
  rcases ite_some hf with ⟨c10, hf⟩ | ⟨c10, hf⟩
  · refine ev_if_ne_P (tgt := 12) c10 (by decide) d5_find_7 ?_
    refine ev_iconst ci_m1 d5_find_10 ?_
    obtain ⟨rfl, rfl⟩ := ret_some hf
    exact ev_iret rfl d5_find_11
  · refine ev_if_ne_Q (tgt := 12) c10 (by decide) d5_find_7 ?_
    refine ev_aload_n (j := 0) (i := 0) (q := 0) rfl rfl d5_find_12 ?_
    refine ev_iload_n (j := 1) (i := 1) (q := 1) rfl rfl d5_find_13 ?_
    obtain ⟨t11, e12, hf⟩ := lt_some hf
    refine ev_putI cls5 (j := 8) (by decide) rfl rfl w484 (mono_ob q9.1 h1) (fun _ => ⟨rfl, rfl⟩) d5_find_14 (ev_nmS e12 ?_)
    refine ev_iconst ci_0 d5_find_17 ?_
    refine ev_istore_n (lv2 := [(2, .int (0 : Int32)), (0, .ref v0), (1, .int v1)]) (j := 2) (i := 2) rfl (by decide) rfl d5_find_18 ?_
    exact Ev.sub [1, 0] rfl (s5_find_p19 FU _ _ _ _ _ hf)
abbrev m6_init : MD := ("MillBoats$Planner", ⟨"MillBoats$Planner", "<init>", "(LMillBoats$River;LMillBoats$Law;)V"⟩, prog_8_method_1_code, 3, (none : Option Jvm.ClassFile.FieldType))
theorem k6_init : okY m6_init.2.1 2 := ⟨by decide +kernel, by decide +kernel, by decide +kernel⟩
def f6_init (σ : St) (v0 : Nat) (v1 : Nat) (v2 : Nat) : Option (Unit × St) :=
  lt (sN σ + 1) fun b1 => (
  gd (szOk (6 : Int32)) (
  lt (wN σ 14 (ix (6 : Int32))) fun t4 => (
  gd (ob t4 v0 6) (
  lt (wR t4 v0 2 b1) fun t7 => (
  lt (sN t7 + 1) fun b9 => (
  gd (szOk (3 : Int32)) (
  lt (wN t7 14 (ix (3 : Int32))) fun t12 => (
  lt (wR t12 v0 4 b9) fun t14 => (
  lt (sN t14 + 1) fun b16 => (
  gd (szOk (3 : Int32)) (
  gd (szOk (25 : Int32)) (
  lt (wM t14 (ix (3 : Int32)) (ix (25 : Int32))) fun t20 => (
  lt (wR t20 v0 5 b16) fun t22 => (
  lt (sN t22 + 1) fun b24 => (
  gd (szOk (3 : Int32)) (
  lt (wN t22 14 (ix (3 : Int32))) fun t27 => (
  lt (wR t27 v0 6 b24) fun t29 => (
  lt (sN t29 + 1) fun b31 => (
  gd (szOk (3 : Int32)) (
  gd (szOk (25 : Int32)) (
  lt (wM t29 (ix (3 : Int32)) (ix (25 : Int32))) fun t35 => (
  lt (wR t35 v0 7 b31) fun t37 => (
  lt (sN t37 + 1) fun b39 => (
  gd (szOk (4 : Int32)) (
  lt (wN t37 14 (ix (4 : Int32))) fun t42 => (
  lt (wR t42 v0 8 b39) fun t44 => (
  lt (sN t44 + 1) fun b46 => (
  gd (szOk (12 : Int32)) (
  lt (wN t44 14 (ix (12 : Int32))) fun t49 => (
  lt (wR t49 v0 9 b46) fun t51 => (
  lt (sN t51 + 1) fun b53 => (
  gd (szOk (6 : Int32)) (
  lt (wN t51 14 (ix (6 : Int32))) fun t56 => (
  lt (wR t56 v0 10 b53) fun t58 => (
  lt (sN t58 + 1) fun b60 => (
  gd (szOk (6 : Int32)) (
  lt (wN t58 14 (ix (6 : Int32))) fun t63 => (
  lt (wR t63 v0 11 b60) fun t65 => (
  gd (nz v1) (
  lt (wR t65 v0 0 v1) fun t68 => (
  gd (nz v2) (
  lt (wR t68 v0 1 v2) fun t71 => (
  some ((), t71))))))))))))))))))))))))))))))))))))))))))))
set_option maxRecDepth 50000 in
theorem s6_init : ∀ (σ : St) (v0 : Nat) (v1 : Nat) (v2 : Nat) (r : Unit) (τ : St), f6_init σ v0 v1 v2 = some (r, τ) → Call 2 m6_init [.ref v0, .ref v1, .ref v2] σ none τ := by
  intro σ v0 v1 v2 r τ hf
  unfold f6_init at hf
  refine Call.of (by decide +kernel) rfl (Nat.le_of_ble_eq_true rfl) ?_
  refine ev_aload_n (j := 0) (i := 0) (q := 0) rfl rfl d6_init_0 ?_
  refine ev_objInit w414 w32 w33 (by decide) (Nat.le_of_ble_eq_true rfl) d6_init_1 ?_
  refine ev_aload_n (j := 0) (i := 0) (q := 0) rfl rfl d6_init_4 ?_
  refine ev_bipush cb_6 d6_init_5 ?_
  obtain ⟨b1, e2, hf⟩ := lt_some hf
  obtain ⟨h3, hf⟩ := gd_some hf
  obtain ⟨t4, e5, hf⟩ := lt_some hf
  refine ev_newa_int w59 h3 d6_init_7 (ev_nmR e2 (ev_nmS e5 ?_))
  obtain ⟨h6, hf⟩ := gd_some hf
  obtain ⟨t7, e8, hf⟩ := lt_some hf
  refine ev_putRF cls6 (j := 2) (by decide) rfl (ne_new e2) rfl w419 rfl rfl h6 (fun _ => ⟨rfl, rfl⟩) d6_init_9 (ev_nmS e8 ?_)
  refine ev_aload_n (j := 0) (i := 0) (q := 0) rfl rfl d6_init_12 ?_
  refine ev_iconst ci_3 d6_init_13 ?_
  obtain ⟨b9, e10, hf⟩ := lt_some hf
  obtain ⟨h11, hf⟩ := gd_some hf
  obtain ⟨t12, e13, hf⟩ := lt_some hf
  refine ev_newa_int w59 h11 d6_init_14 (ev_nmR e10 (ev_nmS e13 ?_))
  obtain ⟨t14, e15, hf⟩ := lt_some hf
  refine ev_putRF cls6 (j := 4) (by decide) rfl (ne_new e10) rfl w423 rfl rfl (mono_ob (mono_eN e13) (mono_ob (mono_eR e8) h6)) (fun _ => ⟨rfl, rfl⟩) d6_init_16 (ev_nmS e15 ?_)
  refine ev_aload_n (j := 0) (i := 0) (q := 0) rfl rfl d6_init_19 ?_
  refine ev_iconst ci_3 d6_init_20 ?_
  refine ev_bipush cb_25 d6_init_21 ?_
  obtain ⟨b16, e17, hf⟩ := lt_some hf
  obtain ⟨h18, hf⟩ := gd_some hf
  obtain ⟨h19, hf⟩ := gd_some hf
  obtain ⟨t20, e21, hf⟩ := lt_some hf
  refine ev_mna w415 w59 h18 h19 d6_init_23 (ev_nmR e17 (ev_nmS e21 ?_))
  obtain ⟨t22, e23, hf⟩ := lt_some hf
  refine ev_putRF cls6 (j := 5) (by decide) rfl (ne_new e17) rfl w424 rfl rfl (mono_ob (mono_eM e21) (mono_ob (mono_eR e15) (mono_ob (mono_eN e13) (mono_ob (mono_eR e8) h6)))) (fun _ => ⟨rfl, rfl⟩) d6_init_27 (ev_nmS e23 ?_)
  refine ev_aload_n (j := 0) (i := 0) (q := 0) rfl rfl d6_init_30 ?_
  refine ev_iconst ci_3 d6_init_31 ?_
  obtain ⟨b24, e25, hf⟩ := lt_some hf
  obtain ⟨h26, hf⟩ := gd_some hf
  obtain ⟨t27, e28, hf⟩ := lt_some hf
  refine ev_newa_int w59 h26 d6_init_32 (ev_nmR e25 (ev_nmS e28 ?_))
  obtain ⟨t29, e30, hf⟩ := lt_some hf
  refine ev_putRF cls6 (j := 6) (by decide) rfl (ne_new e25) rfl w425 rfl rfl (mono_ob (mono_eN e28) (mono_ob (mono_eR e23) (mono_ob (mono_eM e21) (mono_ob (mono_eR e15) (mono_ob (mono_eN e13) (mono_ob (mono_eR e8) h6)))))) (fun _ => ⟨rfl, rfl⟩) d6_init_34 (ev_nmS e30 ?_)
  refine ev_aload_n (j := 0) (i := 0) (q := 0) rfl rfl d6_init_37 ?_
  refine ev_iconst ci_3 d6_init_38 ?_
  refine ev_bipush cb_25 d6_init_39 ?_
  obtain ⟨b31, e32, hf⟩ := lt_some hf
  obtain ⟨h33, hf⟩ := gd_some hf
  obtain ⟨h34, hf⟩ := gd_some hf
  obtain ⟨t35, e36, hf⟩ := lt_some hf
  refine ev_mna w415 w59 h33 h34 d6_init_41 (ev_nmR e32 (ev_nmS e36 ?_))
  obtain ⟨t37, e38, hf⟩ := lt_some hf
  refine ev_putRF cls6 (j := 7) (by decide) rfl (ne_new e32) rfl w426 rfl rfl (mono_ob (mono_eM e36) (mono_ob (mono_eR e30) (mono_ob (mono_eN e28) (mono_ob (mono_eR e23) (mono_ob (mono_eM e21) (mono_ob (mono_eR e15) (mono_ob (mono_eN e13) (mono_ob (mono_eR e8) h6)))))))) (fun _ => ⟨rfl, rfl⟩) d6_init_45 (ev_nmS e38 ?_)
  refine ev_aload_n (j := 0) (i := 0) (q := 0) rfl rfl d6_init_48 ?_
  refine ev_iconst ci_4 d6_init_49 ?_
  obtain ⟨b39, e40, hf⟩ := lt_some hf
  obtain ⟨h41, hf⟩ := gd_some hf
  obtain ⟨t42, e43, hf⟩ := lt_some hf
  refine ev_newa_int w59 h41 d6_init_50 (ev_nmR e40 (ev_nmS e43 ?_))
  obtain ⟨t44, e45, hf⟩ := lt_some hf
  refine ev_putRF cls6 (j := 8) (by decide) rfl (ne_new e40) rfl w427 rfl rfl (mono_ob (mono_eN e43) (mono_ob (mono_eR e38) (mono_ob (mono_eM e36) (mono_ob (mono_eR e30) (mono_ob (mono_eN e28) (mono_ob (mono_eR e23) (mono_ob (mono_eM e21) (mono_ob (mono_eR e15) (mono_ob (mono_eN e13) (mono_ob (mono_eR e8) h6)))))))))) (fun _ => ⟨rfl, rfl⟩) d6_init_52 (ev_nmS e45 ?_)
  refine ev_aload_n (j := 0) (i := 0) (q := 0) rfl rfl d6_init_55 ?_
  refine ev_bipush cb_12 d6_init_56 ?_
  obtain ⟨b46, e47, hf⟩ := lt_some hf
  obtain ⟨h48, hf⟩ := gd_some hf
  obtain ⟨t49, e50, hf⟩ := lt_some hf
  refine ev_newa_int w59 h48 d6_init_58 (ev_nmR e47 (ev_nmS e50 ?_))
  obtain ⟨t51, e52, hf⟩ := lt_some hf
  refine ev_putRF cls6 (j := 9) (by decide) rfl (ne_new e47) rfl w428 rfl rfl (mono_ob (mono_eN e50) (mono_ob (mono_eR e45) (mono_ob (mono_eN e43) (mono_ob (mono_eR e38) (mono_ob (mono_eM e36) (mono_ob (mono_eR e30) (mono_ob (mono_eN e28) (mono_ob (mono_eR e23) (mono_ob (mono_eM e21) (mono_ob (mono_eR e15) (mono_ob (mono_eN e13) (mono_ob (mono_eR e8) h6)))))))))))) (fun _ => ⟨rfl, rfl⟩) d6_init_60 (ev_nmS e52 ?_)
  refine ev_aload_n (j := 0) (i := 0) (q := 0) rfl rfl d6_init_63 ?_
  refine ev_bipush cb_6 d6_init_64 ?_
  obtain ⟨b53, e54, hf⟩ := lt_some hf
  obtain ⟨h55, hf⟩ := gd_some hf
  obtain ⟨t56, e57, hf⟩ := lt_some hf
  refine ev_newa_int w59 h55 d6_init_66 (ev_nmR e54 (ev_nmS e57 ?_))
  obtain ⟨t58, e59, hf⟩ := lt_some hf
  refine ev_putRF cls6 (j := 10) (by decide) rfl (ne_new e54) rfl w429 rfl rfl (mono_ob (mono_eN e57) (mono_ob (mono_eR e52) (mono_ob (mono_eN e50) (mono_ob (mono_eR e45) (mono_ob (mono_eN e43) (mono_ob (mono_eR e38) (mono_ob (mono_eM e36) (mono_ob (mono_eR e30) (mono_ob (mono_eN e28) (mono_ob (mono_eR e23) (mono_ob (mono_eM e21) (mono_ob (mono_eR e15) (mono_ob (mono_eN e13) (mono_ob (mono_eR e8) h6)))))))))))))) (fun _ => ⟨rfl, rfl⟩) d6_init_68 (ev_nmS e59 ?_)
  refine ev_aload_n (j := 0) (i := 0) (q := 0) rfl rfl d6_init_71 ?_
  refine ev_bipush cb_6 d6_init_72 ?_
  obtain ⟨b60, e61, hf⟩ := lt_some hf
  obtain ⟨h62, hf⟩ := gd_some hf
  obtain ⟨t63, e64, hf⟩ := lt_some hf
  refine ev_newa_int w59 h62 d6_init_74 (ev_nmR e61 (ev_nmS e64 ?_))
  obtain ⟨t65, e66, hf⟩ := lt_some hf
  refine ev_putRF cls6 (j := 11) (by decide) rfl (ne_new e61) rfl w430 rfl rfl (mono_ob (mono_eN e64) (mono_ob (mono_eR e59) (mono_ob (mono_eN e57) (mono_ob (mono_eR e52) (mono_ob (mono_eN e50) (mono_ob (mono_eR e45) (mono_ob (mono_eN e43) (mono_ob (mono_eR e38) (mono_ob (mono_eM e36) (mono_ob (mono_eR e30) (mono_ob (mono_eN e28) (mono_ob (mono_eR e23) (mono_ob (mono_eM e21) (mono_ob (mono_eR e15) (mono_ob (mono_eN e13) (mono_ob (mono_eR e8) h6)))))))))))))))) (fun _ => ⟨rfl, rfl⟩) d6_init_76 (ev_nmS e66 ?_)
  refine ev_aload_n (j := 0) (i := 0) (q := 0) rfl rfl d6_init_79 ?_
  refine ev_aload_n (j := 1) (i := 1) (q := 1) rfl rfl d6_init_80 ?_
  obtain ⟨h67, hf⟩ := gd_some hf
  obtain ⟨t68, e69, hf⟩ := lt_some hf
  refine ev_putRF cls6 (j := 0) (by decide) rfl (nz_ne h67) rfl w417 rfl rfl (mono_ob (mono_eR e66) (mono_ob (mono_eN e64) (mono_ob (mono_eR e59) (mono_ob (mono_eN e57) (mono_ob (mono_eR e52) (mono_ob (mono_eN e50) (mono_ob (mono_eR e45) (mono_ob (mono_eN e43) (mono_ob (mono_eR e38) (mono_ob (mono_eM e36) (mono_ob (mono_eR e30) (mono_ob (mono_eN e28) (mono_ob (mono_eR e23) (mono_ob (mono_eM e21) (mono_ob (mono_eR e15) (mono_ob (mono_eN e13) (mono_ob (mono_eR e8) h6))))))))))))))))) (fun _ => ⟨rfl, rfl⟩) d6_init_81 (ev_nmS e69 ?_)
  refine ev_aload_n (j := 0) (i := 0) (q := 0) rfl rfl d6_init_84 ?_
  refine ev_aload_n (j := 2) (i := 2) (q := 2) rfl rfl d6_init_85 ?_
  obtain ⟨h70, hf⟩ := gd_some hf
  obtain ⟨t71, e72, hf⟩ := lt_some hf
  refine ev_putRF cls6 (j := 1) (by decide) rfl (nz_ne h70) rfl w418 rfl rfl (mono_ob (mono_eR e69) (mono_ob (mono_eR e66) (mono_ob (mono_eN e64) (mono_ob (mono_eR e59) (mono_ob (mono_eN e57) (mono_ob (mono_eR e52) (mono_ob (mono_eN e50) (mono_ob (mono_eR e45) (mono_ob (mono_eN e43) (mono_ob (mono_eR e38) (mono_ob (mono_eM e36) (mono_ob (mono_eR e30) (mono_ob (mono_eN e28) (mono_ob (mono_eR e23) (mono_ob (mono_eM e21) (mono_ob (mono_eR e15) (mono_ob (mono_eN e13) (mono_ob (mono_eR e8) h6)))))))))))))))))) (fun _ => ⟨rfl, rfl⟩) d6_init_86 (ev_nmS e72 ?_)
  obtain ⟨-, rfl⟩ := ret_some hf
  exact ev_vret rfl d6_init_89
abbrev m6_chooseMills : MD := ("MillBoats$Planner", ⟨"MillBoats$Planner", "chooseMills", "(I)V"⟩, prog_8_method_5_code, 3, (none : Option Jvm.ClassFile.FieldType))
theorem k6_chooseMills : okY m6_chooseMills.2.1 1 := ⟨by decide +kernel, by decide +kernel, by decide +kernel⟩
def f6_chooseMills_p72 (K7 : St → Nat → Int32 → Int32 → Option (Unit × St)) (σ : St) (v0 : Nat) (v1 : Int32) (v2 : Int32) : Option (Unit × St) :=
  lt (v2 + (1 : Int32)) fun y35 => (
  K7 σ v0 v1 y35)
set_option maxRecDepth 20000 in
theorem s6_chooseMills_p72 {K7 : St → Nat → Int32 → Int32 → Option (Unit × St)} (hK7 : ∀ (σ : St) (v0 : Nat) (v1 : Int32) (v2 : Int32) (r : Unit) (τ : St), K7 σ v0 v1 v2 = some (r, τ) → Ev 2 m6_chooseMills 7 [(0, .ref v0), (1, .int v1), (2, .int v2)] [] σ none τ) : ∀ (σ : St) (v0 : Nat) (v1 : Int32) (v2 : Int32) (r : Unit) (τ : St), f6_chooseMills_p72 K7 σ v0 v1 v2 = some (r, τ) → Ev 2 m6_chooseMills 72 [(0, .ref v0), (1, .int v1), (2, .int v2)] [] σ none τ := by
  intro σ v0 v1 v2 r τ hf
  unfold f6_chooseMills_p72 at hf
  obtain ⟨y35, e36, hf⟩ := lt_some hf
  refine ev_iinc (lv2 := [(2, .int y35), (0, .ref v0), (1, .int v1)]) (i := 2) (q := 2) (v := y35) (n := 1) rfl (by rw [ci_1]; exact e36.symm) (by decide) rfl d6_chooseMills_72 ?_
  refine ev_goto (tgt := 7) (by decide) d6_chooseMills_75 ?_
  exact Ev.sub [1, 2, 0] rfl (hK7 _ _ _ _ _ _ hf)
def f6_chooseMills_p7 : Nat → St → Nat → Int32 → Int32 → Option (Unit × St)
  | 0, _, _, _, _ => none
  | n + 1, σ, v0, v1, v2 =>
  (if v2 < (6 : Int32) then
  gd (ob σ v0 6) (
  lt (sR σ v0 10) fun b6 => (
  gd (nz b6) (
  lt (sR σ v0 0) fun b9 => (
  gd (nz b9) (
  gd (ob σ b9 8) (
  lt (sR σ b9 3) fun b13 => (
  gd (nz b13) (
  gd (ob σ b13 14) (
  gd (inb σ b13 v2) (
  gd (ob σ b6 14) (
  gd (inb σ b6 v2) (
  lt (wI σ b6 (ix v2) (sI σ b13 (ix v2))) fun t20 => (
  (if ((v1 >>> (v2 &&& 31)) &&& (1 : Int32)) = (1 : Int32) then
  (if (sI t20 v0 12) < (3 : Int32) then
  lt (wI t20 b6 (ix v2) (-1 : Int32)) fun t24 => (
  lt (sR t24 v0 4) fun b26 => (
  gd (nz b26) (
  gd (ob t24 b26 14) (
  gd (inb t24 b26 (sI t24 v0 12)) (
  lt (wI t24 b26 (ix (sI t24 v0 12)) v2) fun t31 => (
  lt (wI t31 v0 12 ((sI t31 v0 12) + (1 : Int32))) fun t33 => (
  f6_chooseMills_p72 (f6_chooseMills_p7 n) t33 v0 v1 v2)))))))
  else
  f6_chooseMills_p72 (f6_chooseMills_p7 n) t20 v0 v1 v2)
  else
  f6_chooseMills_p72 (f6_chooseMills_p7 n) t20 v0 v1 v2))))))))))))))
  else
  some ((), σ))
set_option maxRecDepth 20000 in
theorem s6_chooseMills_p7 : ∀ (n : Nat) (σ : St) (v0 : Nat) (v1 : Int32) (v2 : Int32) (r : Unit) (τ : St), f6_chooseMills_p7 n σ v0 v1 v2 = some (r, τ) → Ev 2 m6_chooseMills 7 [(0, .ref v0), (1, .int v1), (2, .int v2)] [] σ none τ := by
  intro n
  induction n with
  | zero =>
    intro σ v0 v1 v2 r τ hf
    cases hf
  | succ n ih =>
    intro σ v0 v1 v2 r τ hf
    rw [f6_chooseMills_p7] at hf
    refine ev_iload_n (j := 2) (i := 2) (q := 2) rfl rfl d6_chooseMills_7 ?_
    refine ev_bipush cb_6 d6_chooseMills_8 ?_
    rcases ite_some hf with ⟨c4, hf⟩ | ⟨c4, hf⟩
    · refine ev_icmp_ge_P (tgt := 78) c4 (by decide) d6_chooseMills_10 ?_
      refine ev_aload_n (j := 0) (i := 0) (q := 0) rfl rfl d6_chooseMills_13 ?_
      obtain ⟨h5, hf⟩ := gd_some hf
      obtain ⟨b6, e7, hf⟩ := lt_some hf
      obtain ⟨h8, hf⟩ := gd_some hf
      refine ev_getRb cls6 (j := 10) (by decide) rfl w429 h5 e7 (nz_ne h8) d6_chooseMills_14 ?_
      refine ev_iload_n (j := 2) (i := 2) (q := 2) rfl rfl d6_chooseMills_17 ?_
      refine ev_aload_n (j := 0) (i := 0) (q := 0) rfl rfl d6_chooseMills_18 ?_
      obtain ⟨b9, e10, hf⟩ := lt_some hf
      obtain ⟨h11, hf⟩ := gd_some hf
      refine ev_getRb cls6 (j := 0) (by decide) rfl w417 h5 e10 (nz_ne h11) d6_chooseMills_19 ?_
      obtain ⟨h12, hf⟩ := gd_some hf
      obtain ⟨b13, e14, hf⟩ := lt_some hf
      obtain ⟨h15, hf⟩ := gd_some hf
      refine ev_getRNb cls8 (j := 3) (by decide) rfl w117 h12 e14 (nz_ne h15) d6_chooseMills_22 ?_
      refine ev_iload_n (j := 2) (i := 2) (q := 2) rfl rfl d6_chooseMills_25 ?_
      obtain ⟨h16, hf⟩ := gd_some hf
      obtain ⟨h17, hf⟩ := gd_some hf
      refine ev_iald h16 h17 d6_chooseMills_26 ?_
      obtain ⟨h18, hf⟩ := gd_some hf
      obtain ⟨h19, hf⟩ := gd_some hf
      obtain ⟨t20, e21, hf⟩ := lt_some hf
      refine ev_iast h18 h19 d6_chooseMills_27 (ev_nmS e21 ?_)
      refine ev_iload_n (j := 1) (i := 1) (q := 1) rfl rfl d6_chooseMills_28 ?_
      refine ev_iload_n (j := 2) (i := 2) (q := 2) rfl rfl d6_chooseMills_29 ?_
      refine ev_ishr d6_chooseMills_30 ?_
      refine ev_iconst ci_1 d6_chooseMills_31 ?_
      refine ev_iand d6_chooseMills_32 ?_
      refine ev_iconst ci_1 d6_chooseMills_33 ?_
      rcases ite_some hf with ⟨c22, hf⟩ | ⟨c22, hf⟩
      · refine ev_icmp_ne_P (tgt := 72) c22 (by decide) d6_chooseMills_34 ?_
        refine ev_aload_n (j := 0) (i := 0) (q := 0) rfl rfl d6_chooseMills_37 ?_
        refine ev_getI cls6 (j := 12) (by decide) rfl w431 (mono_ob (mono_eI e21) h5) d6_chooseMills_38 ?_
        refine ev_iconst ci_3 d6_chooseMills_41 ?_
        rcases ite_some hf with ⟨c23, hf⟩ | ⟨c23, hf⟩
        · refine ev_icmp_ge_P (tgt := 72) c23 (by decide) d6_chooseMills_42 ?_
          refine ev_aload_n (j := 0) (i := 0) (q := 0) rfl rfl d6_chooseMills_45 ?_
          refine ev_getRb cls6 (j := 10) (by decide) rfl w429 (mono_ob (mono_eI e21) h5) (tr_I e21 e7) (nz_ne h8) d6_chooseMills_46 ?_
          refine ev_iload_n (j := 2) (i := 2) (q := 2) rfl rfl d6_chooseMills_49 ?_
          refine ev_iconst ci_m1 d6_chooseMills_50 ?_
          obtain ⟨t24, e25, hf⟩ := lt_some hf
          refine ev_iast (mono_ob (mono_eI e21) h18) (inb_m (mono_eI e21) h18 h19) d6_chooseMills_51 (ev_nmS e25 ?_)
          refine ev_aload_n (j := 0) (i := 0) (q := 0) rfl rfl d6_chooseMills_52 ?_
          obtain ⟨b26, e27, hf⟩ := lt_some hf
          obtain ⟨h28, hf⟩ := gd_some hf
          refine ev_getRb cls6 (j := 4) (by decide) rfl w423 (mono_ob (mono_eI e25) (mono_ob (mono_eI e21) h5)) e27 (nz_ne h28) d6_chooseMills_53 ?_
          refine ev_aload_n (j := 0) (i := 0) (q := 0) rfl rfl d6_chooseMills_56 ?_
          refine ev_getI cls6 (j := 12) (by decide) rfl w431 (mono_ob (mono_eI e25) (mono_ob (mono_eI e21) h5)) d6_chooseMills_57 ?_
          refine ev_iload_n (j := 2) (i := 2) (q := 2) rfl rfl d6_chooseMills_60 ?_
          obtain ⟨h29, hf⟩ := gd_some hf
          obtain ⟨h30, hf⟩ := gd_some hf
          obtain ⟨t31, e32, hf⟩ := lt_some hf
          refine ev_iast h29 h30 d6_chooseMills_61 (ev_nmS e32 ?_)
          refine ev_aload_n (j := 0) (i := 0) (q := 0) rfl rfl d6_chooseMills_62 ?_
          refine ev_dup rfl d6_chooseMills_63 ?_
          refine ev_getI cls6 (j := 12) (by decide) rfl w431 (mono_ob (mono_eI e32) (mono_ob (mono_eI e25) (mono_ob (mono_eI e21) h5))) d6_chooseMills_64 ?_
          refine ev_iconst ci_1 d6_chooseMills_67 ?_
          refine ev_iadd d6_chooseMills_68 ?_
          obtain ⟨t33, e34, hf⟩ := lt_some hf
          refine ev_putI cls6 (j := 12) (by decide) rfl rfl w431 (mono_ob (mono_eI e32) (mono_ob (mono_eI e25) (mono_ob (mono_eI e21) h5))) (fun _ => ⟨rfl, rfl⟩) d6_chooseMills_69 (ev_nmS e34 ?_)
          exact Ev.sub [0, 1, 2] rfl (s6_chooseMills_p72 ih _ _ _ _ _ _ hf)
        · refine ev_icmp_ge_Q (tgt := 72) c23 (by decide) d6_chooseMills_42 ?_
          exact Ev.sub [0, 1, 2] rfl (s6_chooseMills_p72 ih _ _ _ _ _ _ hf)
      · refine ev_icmp_ne_Q (tgt := 72) c22 (by decide) d6_chooseMills_34 ?_
        exact Ev.sub [0, 1, 2] rfl (s6_chooseMills_p72 ih _ _ _ _ _ _ hf)
    · refine ev_icmp_ge_Q (tgt := 78) c4 (by decide) d6_chooseMills_10 ?_
      obtain ⟨-, rfl⟩ := ret_some hf
      exact ev_vret rfl d6_chooseMills_78
def f6_chooseMills (σ : St) (v0 : Nat) (v1 : Int32) : Option (Unit × St) :=
  gd (ob σ v0 6) (
  lt (wI σ v0 12 (0 : Int32)) fun t2 => (
  f6_chooseMills_p7 FU t2 v0 v1 (0 : Int32)))
set_option maxRecDepth 50000 in
theorem s6_chooseMills : ∀ (σ : St) (v0 : Nat) (v1 : Int32) (r : Unit) (τ : St), f6_chooseMills σ v0 v1 = some (r, τ) → Call 2 m6_chooseMills [.ref v0, .int v1] σ none τ := by
  intro σ v0 v1 r τ hf
  unfold f6_chooseMills at hf
  refine Call.of (by decide +kernel) rfl (Nat.le_of_ble_eq_true rfl) ?_
  refine ev_aload_n (j := 0) (i := 0) (q := 0) rfl rfl d6_chooseMills_0 ?_
  refine ev_iconst ci_0 d6_chooseMills_1 ?_
  obtain ⟨h1, hf⟩ := gd_some hf
  obtain ⟨t2, e3, hf⟩ := lt_some hf
  refine ev_putI cls6 (j := 12) (by decide) rfl rfl w431 h1 (fun _ => ⟨rfl, rfl⟩) d6_chooseMills_2 (ev_nmS e3 ?_)
  refine ev_iconst ci_0 d6_chooseMills_5 ?_
  refine ev_istore_n (lv2 := [(2, .int (0 : Int32)), (0, .ref v0), (1, .int v1)]) (j := 2) (i := 2) rfl (by decide) rfl d6_chooseMills_6 ?_
  exact Ev.sub [1, 2, 0] rfl (s6_chooseMills_p7 FU _ _ _ _ _ _ hf)
abbrev m9_topUpTo : MD := ("MillBoats$Table", ⟨"MillBoats$Table", "topUpTo", "(I)I"⟩, prog_11_method_4_code, 4, (some Jvm.ClassFile.FieldType.int))
theorem k9_topUpTo : okY m9_topUpTo.2.1 1 := ⟨by decide +kernel, by decide +kernel, by decide +kernel⟩
def f9_topUpTo_p16 : Nat → St → Nat → Int32 → Int32 → Int32 → Option (Int32 × St)
  | 0, _, _, _, _, _ => none
  | n + 1, σ, v0, v1, v2, v3 =>
  gd (ob σ v0 9) (
  (if v3 < (sI σ v0 2) then
  lt (sR σ v0 0) fun b16 => (
  gd (nz b16) (
  gd (ob σ b16 14) (
  gd (inb σ b16 v3) (
  (if (sI σ b16 (ix v3)) ≤ v1 then
  lt (sR σ v0 1) fun b22 => (
  gd (nz b22) (
  gd (ob σ b22 14) (
  gd (inb σ b22 v3) (
  bd (fJ9_max_7cf53 σ v2 (sI σ b22 (ix v3))) fun r27 t28 => (
  lt (v3 + (1 : Int32)) fun y31 => (
  (f9_topUpTo_p16 n) t28 v0 v1 r27 y31))))))
  else
  some (v2, σ))))))
  else
  some (v2, σ)))
set_option maxRecDepth 20000 in
theorem s9_topUpTo_p16 : ∀ (n : Nat) (σ : St) (v0 : Nat) (v1 : Int32) (v2 : Int32) (v3 : Int32) (r : Int32) (τ : St), f9_topUpTo_p16 n σ v0 v1 v2 v3 = some (r, τ) → Ev 4 m9_topUpTo 16 [(0, .ref v0), (1, .int v1), (2, .int v2), (3, .int v3)] [] σ (some (.int r)) τ := by
  intro n
  induction n with
  | zero =>
    intro σ v0 v1 v2 v3 r τ hf
    cases hf
  | succ n ih =>
    intro σ v0 v1 v2 v3 r τ hf
    rw [f9_topUpTo_p16] at hf
    refine ev_iload_n (j := 3) (i := 3) (q := 3) rfl rfl d9_topUpTo_16 ?_
    refine ev_aload_n (j := 0) (i := 0) (q := 0) rfl rfl d9_topUpTo_17 ?_
    obtain ⟨h14, hf⟩ := gd_some hf
    refine ev_getI cls9 (j := 2) (by decide) rfl w51 h14 d9_topUpTo_18 ?_
    rcases ite_some hf with ⟨c15, hf⟩ | ⟨c15, hf⟩
    · refine ev_icmp_ge_P (tgt := 51) c15 (by decide) d9_topUpTo_21 ?_
      refine ev_aload_n (j := 0) (i := 0) (q := 0) rfl rfl d9_topUpTo_24 ?_
      obtain ⟨b16, e17, hf⟩ := lt_some hf
      obtain ⟨h18, hf⟩ := gd_some hf
      refine ev_getRb cls9 (j := 0) (by decide) rfl w49 h14 e17 (nz_ne h18) d9_topUpTo_25 ?_
      refine ev_iload_n (j := 3) (i := 3) (q := 3) rfl rfl d9_topUpTo_28 ?_
      obtain ⟨h19, hf⟩ := gd_some hf
      obtain ⟨h20, hf⟩ := gd_some hf
      refine ev_iald h19 h20 d9_topUpTo_29 ?_
      refine ev_iload_n (j := 1) (i := 1) (q := 1) rfl rfl d9_topUpTo_30 ?_
      rcases ite_some hf with ⟨c21, hf⟩ | ⟨c21, hf⟩
      · refine ev_icmp_gt_P (tgt := 51) c21 (by decide) d9_topUpTo_31 ?_
        refine ev_iload_n (j := 2) (i := 2) (q := 2) rfl rfl d9_topUpTo_34 ?_
        refine ev_aload_n (j := 0) (i := 0) (q := 0) rfl rfl d9_topUpTo_35 ?_
        obtain ⟨b22, e23, hf⟩ := lt_some hf
        obtain ⟨h24, hf⟩ := gd_some hf
        refine ev_getRb cls9 (j := 1) (by decide) rfl w50 h14 e23 (nz_ne h24) d9_topUpTo_36 ?_
        refine ev_iload_n (j := 3) (i := 3) (q := 3) rfl rfl d9_topUpTo_39 ?_
        obtain ⟨h25, hf⟩ := gd_some hf
        obtain ⟨h26, hf⟩ := gd_some hf
        refine ev_iald h25 h26 d9_topUpTo_40 ?_
        obtain ⟨r27, t28, k29, hf⟩ := bd_some hf
        have q30 := sJ9_max_7cf53 _ _ _ _ _ k29
        refine ev_callS (vs := [.int v2, .int (sI σ b22 (ix v3))]) (sk := []) q30 (by decide) (Nat.le_of_ble_eq_true rfl) w1054 w152 w8 w153 kJ9_max_7cf53 rfl (Nat.le_of_ble_eq_true rfl) d9_topUpTo_41 ?_
        refine ev_istore_n (lv2 := [(2, .int r27), (0, .ref v0), (1, .int v1), (3, .int v3)]) (j := 2) (i := 2) rfl (by decide) rfl d9_topUpTo_44 ?_
        obtain ⟨y31, e32, hf⟩ := lt_some hf
        refine ev_iinc (lv2 := [(3, .int y31), (2, .int r27), (0, .ref v0), (1, .int v1)]) (i := 3) (q := 3) (v := y31) (n := 1) rfl (by rw [ci_1]; exact e32.symm) (by decide) rfl d9_topUpTo_45 ?_
        refine ev_goto (tgt := 16) (by decide) d9_topUpTo_48 ?_
        exact Ev.sub [2, 3, 1, 0] rfl (ih _ _ _ _ _ _ _ hf)
      · refine ev_icmp_gt_Q (tgt := 51) c21 (by decide) d9_topUpTo_31 ?_
        refine ev_iload_n (j := 2) (i := 2) (q := 2) rfl rfl d9_topUpTo_51 ?_
        obtain ⟨rfl, rfl⟩ := ret_some hf
        exact ev_iret rfl d9_topUpTo_52
    · refine ev_icmp_ge_Q (tgt := 51) c15 (by decide) d9_topUpTo_21 ?_
      refine ev_iload_n (j := 2) (i := 2) (q := 2) rfl rfl d9_topUpTo_51 ?_
      obtain ⟨rfl, rfl⟩ := ret_some hf
      exact ev_iret rfl d9_topUpTo_52
def f9_topUpTo (σ : St) (v0 : Nat) (v1 : Int32) : Option (Int32 × St) :=
  gd (ob σ v0 9) (
  bd (f9_at σ v0 (0 : Int32)) fun r2 t3 => (
  bd (f9_at t3 v0 v1) fun r6 t7 => (
  bd (fJ9_max_7cf53 t7 r2 r6) fun r10 t11 => (
  f9_topUpTo_p16 FU t11 v0 v1 r10 (0 : Int32)))))
set_option maxRecDepth 50000 in
theorem s9_topUpTo : ∀ (σ : St) (v0 : Nat) (v1 : Int32) (r : Int32) (τ : St), f9_topUpTo σ v0 v1 = some (r, τ) → Call 4 m9_topUpTo [.ref v0, .int v1] σ (some (.int r)) τ := by
  intro σ v0 v1 r τ hf
  unfold f9_topUpTo at hf
  refine Call.of (by decide +kernel) rfl (Nat.le_of_ble_eq_true rfl) ?_
  refine ev_aload_n (j := 0) (i := 0) (q := 0) rfl rfl d9_topUpTo_0 ?_
  refine ev_iconst ci_0 d9_topUpTo_1 ?_
  obtain ⟨h1, hf⟩ := gd_some hf
  obtain ⟨r2, t3, k4, hf⟩ := bd_some hf
  have q5 := s9_at _ _ _ _ _ k4
  refine ev_callV (vs := [.int (0 : Int32)]) (sk := []) cls9 h1 q5 (by decide) (Nat.le_of_ble_eq_true rfl) w1053 w558 w559 w3 w560 k9_at rfl (Nat.le_of_ble_eq_true rfl) d9_topUpTo_2 ?_
  refine ev_aload_n (j := 0) (i := 0) (q := 0) rfl rfl d9_topUpTo_5 ?_
  refine ev_iload_n (j := 1) (i := 1) (q := 1) rfl rfl d9_topUpTo_6 ?_
  obtain ⟨r6, t7, k8, hf⟩ := bd_some hf
  have q9 := s9_at _ _ _ _ _ k8
  refine ev_callV (vs := [.int v1]) (sk := [.int r2]) cls9 (mono_ob q5.1 h1) q9 (by decide) (Nat.le_of_ble_eq_true rfl) w1053 w558 w559 w3 w560 k9_at rfl (Nat.le_of_ble_eq_true rfl) d9_topUpTo_7 ?_
  obtain ⟨r10, t11, k12, hf⟩ := bd_some hf
  have q13 := sJ9_max_7cf53 _ _ _ _ _ k12
  refine ev_callS (vs := [.int r2, .int r6]) (sk := []) q13 (by decide) (Nat.le_of_ble_eq_true rfl) w1054 w152 w8 w153 kJ9_max_7cf53 rfl (Nat.le_of_ble_eq_true rfl) d9_topUpTo_10 ?_
  refine ev_istore_n (lv2 := [(2, .int r10), (0, .ref v0), (1, .int v1)]) (j := 2) (i := 2) rfl (by decide) rfl d9_topUpTo_13 ?_
  refine ev_iconst ci_0 d9_topUpTo_14 ?_
  refine ev_istore_n (lv2 := [(3, .int (0 : Int32)), (2, .int r10), (0, .ref v0), (1, .int v1)]) (j := 3) (i := 3) rfl (by decide) rfl d9_topUpTo_15 ?_
  exact Ev.sub [2, 3, 1, 0] rfl (s9_topUpTo_p16 FU _ _ _ _ _ _ _ hf)
abbrev m8_topPower : MD := ("MillBoats$River", ⟨"MillBoats$River", "topPower", "(I[II)I"⟩, prog_10_method_11_code, 5, (some Jvm.ClassFile.FieldType.int))
theorem k8_topPower : okY m8_topPower.2.1 3 := ⟨by decide +kernel, by decide +kernel, by decide +kernel⟩
def f8_topPower (σ : St) (v0 : Nat) (v1 : Int32) (v2 : Nat) (v3 : Int32) : Option (Int32 × St) :=
  gd (ob σ v2 14) (
  gd (inb σ v2 v1) (
  bd (f11_isBerth σ (sI σ v2 (ix v1))) fun r3 t4 => (
  (if r3 = (0 : Int32) then
  some ((0 : Int32), t4)
  else
  gd (ob t4 v0 8) (
  bd (f8_bears t4 v0 (sI t4 v2 (ix v1)) v1 v3) fun r9 t10 => (
  (if r9 = (0 : Int32) then
  some ((0 : Int32), t10)
  else
  lt (sR t10 v0 1) fun b14 => (
  gd (nz b14) (
  gd (ob t10 b14 19) (
  gd (inb t10 b14 (6 : Int32)) (
  lt (sR t10 b14 (ix (6 : Int32))) fun b19 => (
  gd (nz b19) (
  bd (f8_flowMet t10 v0 v1 v2 v3) fun r22 t23 => (
  gd (ob t23 b19 9) (
  bd (f9_topUpTo t23 b19 r22) fun r27 t28 => (
  lt (sR t28 v0 2) fun b31 => (
  gd (nz b31) (
  gd (ob t28 b31 17) (
  gd (inb t28 b31 v1) (
  lt (sR t28 b31 (ix v1)) fun b36 => (
  gd (nz b36) (
  gd (ob t28 b36 0) (
  bd (f0_worn t28 b36) fun r40 t41 => (
  some ((r27 * ((100 : Int32) - r40)) / (100 : Int32), t41)))))))))))))))))))))))))
set_option maxRecDepth 50000 in
theorem s8_topPower : ∀ (σ : St) (v0 : Nat) (v1 : Int32) (v2 : Nat) (v3 : Int32) (r : Int32) (τ : St), f8_topPower σ v0 v1 v2 v3 = some (r, τ) → Call 5 m8_topPower [.ref v0, .int v1, .ref v2, .int v3] σ (some (.int r)) τ := by
  intro σ v0 v1 v2 v3 r τ hf
  unfold f8_topPower at hf
  refine Call.of (by decide +kernel) rfl (Nat.le_of_ble_eq_true rfl) ?_
  refine ev_aload_n (j := 2) (i := 2) (q := 2) rfl rfl d8_topPower_0 ?_
  refine ev_iload_n (j := 1) (i := 1) (q := 1) rfl rfl d8_topPower_1 ?_
  obtain ⟨h1, hf⟩ := gd_some hf
  obtain ⟨h2, hf⟩ := gd_some hf
  refine ev_iald h1 h2 d8_topPower_2 ?_
  obtain ⟨r3, t4, k5, hf⟩ := bd_some hf
  have q6 := s11_isBerth _ _ _ _ k5
  refine ev_callSN (vs := [.int (sI σ v2 (ix v1))]) (sk := []) q6 (by decide) (Nat.le_of_ble_eq_true rfl) w605 w540 w1 w541 k11_isBerth rfl (Nat.le_of_ble_eq_true rfl) d8_topPower_3 ?_
  rcases ite_some hf with ⟨c7, hf⟩ | ⟨c7, hf⟩
  · refine ev_if_eq_P (tgt := 21) c7 (by decide) d8_topPower_6 ?_
    refine ev_iconst ci_0 d8_topPower_21 ?_
    obtain ⟨rfl, rfl⟩ := ret_some hf
    exact ev_iret rfl d8_topPower_22
  · refine ev_if_eq_Q (tgt := 21) c7 (by decide) d8_topPower_6 ?_
    refine ev_aload_n (j := 0) (i := 0) (q := 0) rfl rfl d8_topPower_9 ?_
    refine ev_aload_n (j := 2) (i := 2) (q := 2) rfl rfl d8_topPower_10 ?_
    refine ev_iload_n (j := 1) (i := 1) (q := 1) rfl rfl d8_topPower_11 ?_
    refine ev_iald (mono_ob q6.1 h1) (inb_m q6.1 h1 h2) d8_topPower_12 ?_
    refine ev_iload_n (j := 1) (i := 1) (q := 1) rfl rfl d8_topPower_13 ?_
    refine ev_iload_n (j := 3) (i := 3) (q := 3) rfl rfl d8_topPower_14 ?_
    obtain ⟨h8, hf⟩ := gd_some hf
    obtain ⟨r9, t10, k11, hf⟩ := bd_some hf
    have q12 := s8_bears _ _ _ _ _ _ _ k11
    refine ev_callV (vs := [.int (sI t4 v2 (ix v1)), .int v1, .int v3]) (sk := []) cls8 h8 q12 (by decide) (Nat.le_of_ble_eq_true rfl) w622 w623 w624 w2 w625 k8_bears rfl (Nat.le_of_ble_eq_true rfl) d8_topPower_15 ?_
    rcases ite_some hf with ⟨c13, hf⟩ | ⟨c13, hf⟩
    · refine ev_if_ne_P (tgt := 23) c13 (by decide) d8_topPower_18 ?_
      refine ev_iconst ci_0 d8_topPower_21 ?_
      obtain ⟨rfl, rfl⟩ := ret_some hf
      exact ev_iret rfl d8_topPower_22
    · refine ev_if_ne_Q (tgt := 23) c13 (by decide) d8_topPower_18 ?_
      refine ev_aload_n (j := 0) (i := 0) (q := 0) rfl rfl d8_topPower_23 ?_
      obtain ⟨b14, e15, hf⟩ := lt_some hf
      obtain ⟨h16, hf⟩ := gd_some hf
      refine ev_getRb cls8 (j := 1) (by decide) rfl w105 (mono_ob q12.1 h8) e15 (nz_ne h16) d8_topPower_24 ?_
      refine ev_bipush cb_6 d8_topPower_27 ?_
      obtain ⟨h17, hf⟩ := gd_some hf
      obtain ⟨h18, hf⟩ := gd_some hf
      obtain ⟨b19, e20, hf⟩ := lt_some hf
      obtain ⟨h21, hf⟩ := gd_some hf
      refine ev_qaldb (kd := 19) (by decide) (by decide) rfl h17 h18 e20 (nz_ne h21) d8_topPower_29 ?_
      refine ev_aload_n (j := 0) (i := 0) (q := 0) rfl rfl d8_topPower_30 ?_
      refine ev_iload_n (j := 1) (i := 1) (q := 1) rfl rfl d8_topPower_31 ?_
      refine ev_aload_n (j := 2) (i := 2) (q := 2) rfl rfl d8_topPower_32 ?_
      refine ev_iload_n (j := 3) (i := 3) (q := 3) rfl rfl d8_topPower_33 ?_
      obtain ⟨r22, t23, k24, hf⟩ := bd_some hf
      have q25 := s8_flowMet _ _ _ _ _ _ _ k24
      refine ev_callV (vs := [.int v1, .ref v2, .int v3]) (sk := [.ref b19]) cls8 (mono_ob q12.1 h8) q25 (by decide) (Nat.le_of_ble_eq_true rfl) w630 w602 w603 w2 w604 k8_flowMet rfl (Nat.le_of_ble_eq_true rfl) d8_topPower_34 ?_
      obtain ⟨h26, hf⟩ := gd_some hf
      obtain ⟨r27, t28, k29, hf⟩ := bd_some hf
      have q30 := s9_topUpTo _ _ _ _ _ k29
      refine ev_callV (vs := [.int r22]) (sk := []) cls9 h26 q30 (by decide) (Nat.le_of_ble_eq_true rfl) w1049 w1050 w1051 w3 w1052 k9_topUpTo rfl (Nat.le_of_ble_eq_true rfl) d8_topPower_37 ?_
      refine ev_istore (lv2 := [(4, .int r27), (0, .ref v0), (1, .int v1), (2, .ref v2), (3, .int v3)]) (i := 4) (by decide) rfl d8_topPower_40 ?_
      refine ev_iload (i := 4) (q := 0) rfl d8_topPower_42 ?_
      refine ev_bipush cb_100 d8_topPower_44 ?_
      refine ev_aload_n (j := 0) (i := 0) (q := 1) rfl rfl d8_topPower_46 ?_
      obtain ⟨b31, e32, hf⟩ := lt_some hf
      obtain ⟨h33, hf⟩ := gd_some hf
      refine ev_getRb cls8 (j := 2) (by decide) rfl w108 (mono_ob q30.1 (mono_ob q25.1 (mono_ob q12.1 h8))) e32 (nz_ne h33) d8_topPower_47 ?_
      refine ev_iload_n (j := 1) (i := 1) (q := 2) rfl rfl d8_topPower_50 ?_
      obtain ⟨h34, hf⟩ := gd_some hf
      obtain ⟨h35, hf⟩ := gd_some hf
      obtain ⟨b36, e37, hf⟩ := lt_some hf
      obtain ⟨h38, hf⟩ := gd_some hf
      refine ev_qaldb (kd := 17) (by decide) (by decide) rfl h34 h35 e37 (nz_ne h38) d8_topPower_51 ?_
      obtain ⟨h39, hf⟩ := gd_some hf
      obtain ⟨r40, t41, k42, hf⟩ := bd_some hf
      have q43 := s0_worn _ _ _ _ k42
      refine ev_callV (vs := []) (sk := [.int (100 : Int32), .int r27]) cls0 h39 q43 (by decide) (Nat.le_of_ble_eq_true rfl) w631 w632 w633 w4 w634 k0_worn rfl (Nat.le_of_ble_eq_true rfl) d8_topPower_52 ?_
      refine ev_isub d8_topPower_55 ?_
      refine ev_imul d8_topPower_56 ?_
      refine ev_bipush cb_100 d8_topPower_57 ?_
      refine ev_idiv (by decide) d8_topPower_59 ?_
      obtain ⟨rfl, rfl⟩ := ret_some hf
      exact ev_iret rfl d8_topPower_60
abbrev m6_listChoices : MD := ("MillBoats$Planner", ⟨"MillBoats$Planner", "listChoices", "(IIIII)V"⟩, prog_8_method_6_code, 12, (none : Option Jvm.ClassFile.FieldType))
theorem k6_listChoices : okY m6_listChoices.2.1 5 := ⟨by decide +kernel, by decide +kernel, by decide +kernel⟩
def f6_listChoices_p171 (K14 : St → Nat → Int32 → Int32 → Int32 → Int32 → Int32 → Int32 → Int32 → Int32 → Option (Unit × St)) (K25 : St → Nat → Int32 → Int32 → Int32 → Int32 → Int32 → Int32 → Int32 → Int32 → Int32 → Option (Unit × St)) (σ : St) (v0 : Nat) (v1 : Int32) (v2 : Int32) (v3 : Int32) (v4 : Int32) (v5 : Int32) (v6 : Int32) (v7 : Int32) (v8 : Int32) (v9 : Int32) : Option (Unit × St) :=
  lt (v9 + (1 : Int32)) fun y129 => (
  K25 σ v0 v1 v2 v3 v4 v5 v6 v7 v8 y129)
set_option maxRecDepth 20000 in
theorem s6_listChoices_p171 {K14 : St → Nat → Int32 → Int32 → Int32 → Int32 → Int32 → Int32 → Int32 → Int32 → Option (Unit × St)} (hK14 : ∀ (σ : St) (v0 : Nat) (v1 : Int32) (v2 : Int32) (v3 : Int32) (v4 : Int32) (v5 : Int32) (v6 : Int32) (v7 : Int32) (v8 : Int32) (r : Unit) (τ : St), K14 σ v0 v1 v2 v3 v4 v5 v6 v7 v8 = some (r, τ) → Ev 7 m6_listChoices 14 [(0, .ref v0), (1, .int v1), (2, .int v2), (3, .int v3), (4, .int v4), (5, .int v5), (6, .int v6), (7, .int v7), (8, .int v8)] [] σ none τ) {K25 : St → Nat → Int32 → Int32 → Int32 → Int32 → Int32 → Int32 → Int32 → Int32 → Int32 → Option (Unit × St)} (hK25 : ∀ (σ : St) (v0 : Nat) (v1 : Int32) (v2 : Int32) (v3 : Int32) (v4 : Int32) (v5 : Int32) (v6 : Int32) (v7 : Int32) (v8 : Int32) (v9 : Int32) (r : Unit) (τ : St), K25 σ v0 v1 v2 v3 v4 v5 v6 v7 v8 v9 = some (r, τ) → Ev 7 m6_listChoices 25 [(0, .ref v0), (1, .int v1), (2, .int v2), (3, .int v3), (4, .int v4), (5, .int v5), (6, .int v6), (7, .int v7), (8, .int v8), (9, .int v9)] [] σ none τ) : ∀ (σ : St) (v0 : Nat) (v1 : Int32) (v2 : Int32) (v3 : Int32) (v4 : Int32) (v5 : Int32) (v6 : Int32) (v7 : Int32) (v8 : Int32) (v9 : Int32) (r : Unit) (τ : St), f6_listChoices_p171 K14 K25 σ v0 v1 v2 v3 v4 v5 v6 v7 v8 v9 = some (r, τ) → Ev 7 m6_listChoices 171 [(0, .ref v0), (1, .int v1), (2, .int v2), (3, .int v3), (4, .int v4), (5, .int v5), (6, .int v6), (7, .int v7), (8, .int v8), (9, .int v9)] [] σ none τ := by
  intro σ v0 v1 v2 v3 v4 v5 v6 v7 v8 v9 r τ hf
  unfold f6_listChoices_p171 at hf
  obtain ⟨y129, e130, hf⟩ := lt_some hf
  refine ev_iinc (lv2 := [(9, .int y129), (0, .ref v0), (1, .int v1), (2, .int v2), (3, .int v3), (4, .int v4), (5, .int v5), (6, .int v6), (7, .int v7), (8, .int v8)]) (i := 9) (q := 9) (v := y129) (n := 1) rfl (by rw [ci_1]; exact e130.symm) (by decide) rfl d6_listChoices_171 ?_
  refine ev_goto (tgt := 25) (by decide) d6_listChoices_174 ?_
  exact Ev.sub [1, 2, 3, 4, 5, 6, 7, 8, 9, 0] rfl (hK25 _ _ _ _ _ _ _ _ _ _ _ _ _ hf)
def f6_listChoices_p100 (K14 : St → Nat → Int32 → Int32 → Int32 → Int32 → Int32 → Int32 → Int32 → Int32 → Option (Unit × St)) (K25 : St → Nat → Int32 → Int32 → Int32 → Int32 → Int32 → Int32 → Int32 → Int32 → Int32 → Option (Unit × St)) (σ : St) (v0 : Nat) (v1 : Int32) (v2 : Int32) (v3 : Int32) (v4 : Int32) (v5 : Int32) (v6 : Int32) (v7 : Int32) (v8 : Int32) (v9 : Int32) (v10 : Int32) (x0 : Int32) : Option (Unit × St) :=
  (if x0 = (0 : Int32) then
  f6_listChoices_p171 K14 K25 σ v0 v1 v2 v3 v4 v5 v6 v7 v8 v9
  else
  (if v7 < (24 : Int32) then
  gd (ob σ v0 6) (
  lt (sR σ v0 10) fun b81 => (
  gd (nz b81) (
  gd (ob σ b81 14) (
  gd (inb σ b81 v6) (
  lt (wI σ b81 (ix v6) v10) fun t86 => (
  lt (sR t86 v0 5) fun b88 => (
  gd (nz b88) (
  gd (ob t86 b88 21) (
  gd (inb t86 b88 v1) (
  lt (sR t86 b88 (ix v1)) fun b93 => (
  gd (nz b93) (
  gd (ob t86 b93 14) (
  gd (inb t86 b93 v7) (
  lt (wI t86 b93 (ix v7) v10) fun t98 => (
  lt (sR t98 v0 7) fun b100 => (
  gd (nz b100) (
  gd (ob t98 b100 21) (
  gd (inb t98 b100 v1) (
  lt (sR t98 b100 (ix v1)) fun b105 => (
  gd (nz b105) (
  lt (sR t98 v0 0) fun b108 => (
  gd (nz b108) (
  gd (ob t98 b108 8) (
  bd (f8_topPower t98 b108 v6 b81 (sI t98 v0 14)) fun r112 t113 => (
  gd (ob t113 b105 14) (
  gd (inb t113 b105 v7) (
  lt (wI t113 b105 (ix v7) r112) fun t118 => (
  lt (sR t118 v0 10) fun b120 => (
  gd (nz b120) (
  gd (ob t118 b120 14) (
  gd (inb t118 b120 v6) (
  lt (wI t118 b120 (ix v6) (-1 : Int32)) fun t125 => (
  lt (v7 + (1 : Int32)) fun y127 => (
  f6_listChoices_p171 K14 K25 t125 v0 v1 v2 v3 v4 v5 v6 y127 v8 v9))))))))))))))))))))))))))))))))))
  else
  f6_listChoices_p171 K14 K25 σ v0 v1 v2 v3 v4 v5 v6 v7 v8 v9))
set_option maxRecDepth 20000 in
theorem s6_listChoices_p100 {K14 : St → Nat → Int32 → Int32 → Int32 → Int32 → Int32 → Int32 → Int32 → Int32 → Option (Unit × St)} (hK14 : ∀ (σ : St) (v0 : Nat) (v1 : Int32) (v2 : Int32) (v3 : Int32) (v4 : Int32) (v5 : Int32) (v6 : Int32) (v7 : Int32) (v8 : Int32) (r : Unit) (τ : St), K14 σ v0 v1 v2 v3 v4 v5 v6 v7 v8 = some (r, τ) → Ev 7 m6_listChoices 14 [(0, .ref v0), (1, .int v1), (2, .int v2), (3, .int v3), (4, .int v4), (5, .int v5), (6, .int v6), (7, .int v7), (8, .int v8)] [] σ none τ) {K25 : St → Nat → Int32 → Int32 → Int32 → Int32 → Int32 → Int32 → Int32 → Int32 → Int32 → Option (Unit × St)} (hK25 : ∀ (σ : St) (v0 : Nat) (v1 : Int32) (v2 : Int32) (v3 : Int32) (v4 : Int32) (v5 : Int32) (v6 : Int32) (v7 : Int32) (v8 : Int32) (v9 : Int32) (r : Unit) (τ : St), K25 σ v0 v1 v2 v3 v4 v5 v6 v7 v8 v9 = some (r, τ) → Ev 7 m6_listChoices 25 [(0, .ref v0), (1, .int v1), (2, .int v2), (3, .int v3), (4, .int v4), (5, .int v5), (6, .int v6), (7, .int v7), (8, .int v8), (9, .int v9)] [] σ none τ) : ∀ (σ : St) (v0 : Nat) (v1 : Int32) (v2 : Int32) (v3 : Int32) (v4 : Int32) (v5 : Int32) (v6 : Int32) (v7 : Int32) (v8 : Int32) (v9 : Int32) (v10 : Int32) (x0 : Int32) (r : Unit) (τ : St), f6_listChoices_p100 K14 K25 σ v0 v1 v2 v3 v4 v5 v6 v7 v8 v9 v10 x0 = some (r, τ) → Ev 7 m6_listChoices 100 [(0, .ref v0), (1, .int v1), (2, .int v2), (3, .int v3), (4, .int v4), (5, .int v5), (6, .int v6), (7, .int v7), (8, .int v8), (9, .int v9), (10, .int v10)] [.int x0] σ none τ := by
  intro σ v0 v1 v2 v3 v4 v5 v6 v7 v8 v9 v10 x0 r τ hf
  unfold f6_listChoices_p100 at hf
  refine ev_istore (lv2 := [(11, .int x0), (0, .ref v0), (1, .int v1), (2, .int v2), (3, .int v3), (4, .int v4), (5, .int v5), (6, .int v6), (7, .int v7), (8, .int v8), (9, .int v9), (10, .int v10)]) (i := 11) (by decide) rfl d6_listChoices_100 ?_
  refine ev_iload (i := 11) (q := 0) rfl d6_listChoices_102 ?_
  rcases ite_some hf with ⟨c78, hf⟩ | ⟨c78, hf⟩
  · refine ev_if_eq_P (tgt := 171) c78 (by decide) d6_listChoices_104 ?_
    exact Ev.sub [1, 2, 3, 4, 5, 6, 7, 8, 9, 10] rfl (s6_listChoices_p171 hK14 hK25 _ _ _ _ _ _ _ _ _ _ _ _ _ hf)
  · refine ev_if_eq_Q (tgt := 171) c78 (by decide) d6_listChoices_104 ?_
    refine ev_iload (i := 7) (q := 8) rfl d6_listChoices_107 ?_
    refine ev_bipush cb_24 d6_listChoices_109 ?_
    rcases ite_some hf with ⟨c79, hf⟩ | ⟨c79, hf⟩
    · refine ev_icmp_ge_P (tgt := 171) c79 (by decide) d6_listChoices_111 ?_
      refine ev_aload_n (j := 0) (i := 0) (q := 1) rfl rfl d6_listChoices_114 ?_
      obtain ⟨h80, hf⟩ := gd_some hf
      obtain ⟨b81, e82, hf⟩ := lt_some hf
      obtain ⟨h83, hf⟩ := gd_some hf
      refine ev_getRb cls6 (j := 10) (by decide) rfl w429 h80 e82 (nz_ne h83) d6_listChoices_115 ?_
      refine ev_iload (i := 6) (q := 7) rfl d6_listChoices_118 ?_
      refine ev_iload (i := 10) (q := 11) rfl d6_listChoices_120 ?_
      obtain ⟨h84, hf⟩ := gd_some hf
      obtain ⟨h85, hf⟩ := gd_some hf
      obtain ⟨t86, e87, hf⟩ := lt_some hf
      refine ev_iast h84 h85 d6_listChoices_122 (ev_nmS e87 ?_)
      refine ev_aload_n (j := 0) (i := 0) (q := 1) rfl rfl d6_listChoices_123 ?_
      obtain ⟨b88, e89, hf⟩ := lt_some hf
      obtain ⟨h90, hf⟩ := gd_some hf
      refine ev_getRb cls6 (j := 5) (by decide) rfl w424 (mono_ob (mono_eI e87) h80) e89 (nz_ne h90) d6_listChoices_124 ?_
      refine ev_iload_n (j := 1) (i := 1) (q := 2) rfl rfl d6_listChoices_127 ?_
      obtain ⟨h91, hf⟩ := gd_some hf
      obtain ⟨h92, hf⟩ := gd_some hf
      obtain ⟨b93, e94, hf⟩ := lt_some hf
      obtain ⟨h95, hf⟩ := gd_some hf
      refine ev_qaldb (kd := 21) (by decide) (by decide) rfl h91 h92 e94 (nz_ne h95) d6_listChoices_128 ?_
      refine ev_iload (i := 7) (q := 8) rfl d6_listChoices_129 ?_
      refine ev_iload (i := 10) (q := 11) rfl d6_listChoices_131 ?_
      obtain ⟨h96, hf⟩ := gd_some hf
      obtain ⟨h97, hf⟩ := gd_some hf
      obtain ⟨t98, e99, hf⟩ := lt_some hf
      refine ev_iast h96 h97 d6_listChoices_133 (ev_nmS e99 ?_)
      refine ev_aload_n (j := 0) (i := 0) (q := 1) rfl rfl d6_listChoices_134 ?_
      obtain ⟨b100, e101, hf⟩ := lt_some hf
      obtain ⟨h102, hf⟩ := gd_some hf
      refine ev_getRb cls6 (j := 7) (by decide) rfl w426 (mono_ob (mono_eI e99) (mono_ob (mono_eI e87) h80)) e101 (nz_ne h102) d6_listChoices_135 ?_
      refine ev_iload_n (j := 1) (i := 1) (q := 2) rfl rfl d6_listChoices_138 ?_
      obtain ⟨h103, hf⟩ := gd_some hf
      obtain ⟨h104, hf⟩ := gd_some hf
      obtain ⟨b105, e106, hf⟩ := lt_some hf
      obtain ⟨h107, hf⟩ := gd_some hf
      refine ev_qaldb (kd := 21) (by decide) (by decide) rfl h103 h104 e106 (nz_ne h107) d6_listChoices_139 ?_
      refine ev_iload (i := 7) (q := 8) rfl d6_listChoices_140 ?_
      refine ev_aload_n (j := 0) (i := 0) (q := 1) rfl rfl d6_listChoices_142 ?_
      obtain ⟨b108, e109, hf⟩ := lt_some hf
      obtain ⟨h110, hf⟩ := gd_some hf
      refine ev_getRb cls6 (j := 0) (by decide) rfl w417 (mono_ob (mono_eI e99) (mono_ob (mono_eI e87) h80)) e109 (nz_ne h110) d6_listChoices_143 ?_
      refine ev_iload (i := 6) (q := 7) rfl d6_listChoices_146 ?_
      refine ev_aload_n (j := 0) (i := 0) (q := 1) rfl rfl d6_listChoices_148 ?_
      refine ev_getRb cls6 (j := 10) (by decide) rfl w429 (mono_ob (mono_eI e99) (mono_ob (mono_eI e87) h80)) (tr_I e99 (tr_I e87 e82)) (nz_ne h83) d6_listChoices_149 ?_
      refine ev_aload_n (j := 0) (i := 0) (q := 1) rfl rfl d6_listChoices_152 ?_
      refine ev_getI cls6 (j := 14) (by decide) rfl w433 (mono_ob (mono_eI e99) (mono_ob (mono_eI e87) h80)) d6_listChoices_153 ?_
      obtain ⟨h111, hf⟩ := gd_some hf
      obtain ⟨r112, t113, k114, hf⟩ := bd_some hf
      have q115 := s8_topPower _ _ _ _ _ _ _ k114
      refine ev_callV (vs := [.int v6, .ref b81, .int (sI t98 v0 14)]) (sk := [.int v7, .ref b105]) cls8 h111 q115 (by decide) (Nat.le_of_ble_eq_true rfl) w1045 w1046 w1047 w2 w1048 k8_topPower rfl (Nat.le_of_ble_eq_true rfl) d6_listChoices_156 ?_
      obtain ⟨h116, hf⟩ := gd_some hf
      obtain ⟨h117, hf⟩ := gd_some hf
      obtain ⟨t118, e119, hf⟩ := lt_some hf
      refine ev_iast h116 h117 d6_listChoices_159 (ev_nmS e119 ?_)
      refine ev_aload_n (j := 0) (i := 0) (q := 1) rfl rfl d6_listChoices_160 ?_
      obtain ⟨b120, e121, hf⟩ := lt_some hf
      obtain ⟨h122, hf⟩ := gd_some hf
      refine ev_getRb cls6 (j := 10) (by decide) rfl w429 (mono_ob (mono_eI e119) (mono_ob q115.1 (mono_ob (mono_eI e99) (mono_ob (mono_eI e87) h80)))) e121 (nz_ne h122) d6_listChoices_161 ?_
      refine ev_iload (i := 6) (q := 7) rfl d6_listChoices_164 ?_
      refine ev_iconst ci_m1 d6_listChoices_166 ?_
      obtain ⟨h123, hf⟩ := gd_some hf
      obtain ⟨h124, hf⟩ := gd_some hf
      obtain ⟨t125, e126, hf⟩ := lt_some hf
      refine ev_iast h123 h124 d6_listChoices_167 (ev_nmS e126 ?_)
      obtain ⟨y127, e128, hf⟩ := lt_some hf
      refine ev_iinc (lv2 := [(7, .int y127), (11, .int x0), (0, .ref v0), (1, .int v1), (2, .int v2), (3, .int v3), (4, .int v4), (5, .int v5), (6, .int v6), (8, .int v8), (9, .int v9), (10, .int v10)]) (i := 7) (q := 8) (v := y127) (n := 1) rfl (by rw [ci_1]; exact e128.symm) (by decide) rfl d6_listChoices_168 ?_
      exact Ev.sub [2, 3, 4, 5, 6, 7, 8, 0, 9, 10] rfl (s6_listChoices_p171 hK14 hK25 _ _ _ _ _ _ _ _ _ _ _ _ _ hf)
    · refine ev_icmp_ge_Q (tgt := 171) c79 (by decide) d6_listChoices_111 ?_
      exact Ev.sub [1, 2, 3, 4, 5, 6, 7, 8, 9, 10] rfl (s6_listChoices_p171 hK14 hK25 _ _ _ _ _ _ _ _ _ _ _ _ _ hf)
def f6_listChoices_p99 (K14 : St → Nat → Int32 → Int32 → Int32 → Int32 → Int32 → Int32 → Int32 → Int32 → Option (Unit × St)) (K25 : St → Nat → Int32 → Int32 → Int32 → Int32 → Int32 → Int32 → Int32 → Int32 → Int32 → Option (Unit × St)) (σ : St) (v0 : Nat) (v1 : Int32) (v2 : Int32) (v3 : Int32) (v4 : Int32) (v5 : Int32) (v6 : Int32) (v7 : Int32) (v8 : Int32) (v9 : Int32) (v10 : Int32) : Option (Unit × St) :=
  f6_listChoices_p100 K14 K25 σ v0 v1 v2 v3 v4 v5 v6 v7 v8 v9 v10 (0 : Int32)
set_option maxRecDepth 20000 in
theorem s6_listChoices_p99 {K14 : St → Nat → Int32 → Int32 → Int32 → Int32 → Int32 → Int32 → Int32 → Int32 → Option (Unit × St)} (hK14 : ∀ (σ : St) (v0 : Nat) (v1 : Int32) (v2 : Int32) (v3 : Int32) (v4 : Int32) (v5 : Int32) (v6 : Int32) (v7 : Int32) (v8 : Int32) (r : Unit) (τ : St), K14 σ v0 v1 v2 v3 v4 v5 v6 v7 v8 = some (r, τ) → Ev 7 m6_listChoices 14 [(0, .ref v0), (1, .int v1), (2, .int v2), (3, .int v3), (4, .int v4), (5, .int v5), (6, .int v6), (7, .int v7), (8, .int v8)] [] σ none τ) {K25 : St → Nat → Int32 → Int32 → Int32 → Int32 → Int32 → Int32 → Int32 → Int32 → Int32 → Option (Unit × St)} (hK25 : ∀ (σ : St) (v0 : Nat) (v1 : Int32) (v2 : Int32) (v3 : Int32) (v4 : Int32) (v5 : Int32) (v6 : Int32) (v7 : Int32) (v8 : Int32) (v9 : Int32) (r : Unit) (τ : St), K25 σ v0 v1 v2 v3 v4 v5 v6 v7 v8 v9 = some (r, τ) → Ev 7 m6_listChoices 25 [(0, .ref v0), (1, .int v1), (2, .int v2), (3, .int v3), (4, .int v4), (5, .int v5), (6, .int v6), (7, .int v7), (8, .int v8), (9, .int v9)] [] σ none τ) : ∀ (σ : St) (v0 : Nat) (v1 : Int32) (v2 : Int32) (v3 : Int32) (v4 : Int32) (v5 : Int32) (v6 : Int32) (v7 : Int32) (v8 : Int32) (v9 : Int32) (v10 : Int32) (r : Unit) (τ : St), f6_listChoices_p99 K14 K25 σ v0 v1 v2 v3 v4 v5 v6 v7 v8 v9 v10 = some (r, τ) → Ev 7 m6_listChoices 99 [(0, .ref v0), (1, .int v1), (2, .int v2), (3, .int v3), (4, .int v4), (5, .int v5), (6, .int v6), (7, .int v7), (8, .int v8), (9, .int v9), (10, .int v10)] [] σ none τ := by
  intro σ v0 v1 v2 v3 v4 v5 v6 v7 v8 v9 v10 r τ hf
  unfold f6_listChoices_p99 at hf
  refine ev_iconst ci_0 d6_listChoices_99 ?_
  exact Ev.sub [0, 1, 2, 3, 4, 5, 6, 7, 8, 9, 10] rfl (s6_listChoices_p100 hK14 hK25 _ _ _ _ _ _ _ _ _ _ _ _ _ _ _ hf)
def f6_listChoices_p25 (K14 : St → Nat → Int32 → Int32 → Int32 → Int32 → Int32 → Int32 → Int32 → Int32 → Option (Unit × St)) : Nat → St → Nat → Int32 → Int32 → Int32 → Int32 → Int32 → Int32 → Int32 → Int32 → Int32 → Option (Unit × St)
  | 0, _, _, _, _, _, _, _, _, _, _, _ => none
  | n + 1, σ, v0, v1, v2, v3, v4, v5, v6, v7, v8, v9 =>
  (if v9 ≤ v5 then
  lt ((v8 * (12 : Int32)) + v9) fun y43 => (
  gd (ob σ v0 6) (
  lt (sR σ v0 0) fun b46 => (
  gd (nz b46) (
  lt (sR σ v0 10) fun b49 => (
  gd (nz b49) (
  gd (ob σ b46 8) (
  bd (f8_lyingAt σ b46 y43 b49) fun r53 t54 => (
  (if r53 = (-1 : Int32) then
  lt (sR t54 v0 0) fun b58 => (
  gd (nz b58) (
  gd (ob t54 b58 8) (
  bd (f8_bears t54 b58 y43 v6 (sI t54 v0 14)) fun r62 t63 => (
  (if r62 = (0 : Int32) then
  f6_listChoices_p99 K14 (f6_listChoices_p25 K14 n) t63 v0 v1 v2 v3 v4 v5 v6 v7 v8 v9 y43
  else
  lt (sR t63 v0 1) fun b67 => (
  gd (nz b67) (
  gd (ob t63 b67 4) (
  bd (f4_standing t63 b67 v6 y43 v2 v3) fun r71 t72 => (
  (if (r71 &&& (3 : Int32)) = (0 : Int32) then
  f6_listChoices_p100 K14 (f6_listChoices_p25 K14 n) t72 v0 v1 v2 v3 v4 v5 v6 v7 v8 v9 y43 (1 : Int32)
  else
  f6_listChoices_p99 K14 (f6_listChoices_p25 K14 n) t72 v0 v1 v2 v3 v4 v5 v6 v7 v8 v9 y43))))))))))
  else
  f6_listChoices_p99 K14 (f6_listChoices_p25 K14 n) t54 v0 v1 v2 v3 v4 v5 v6 v7 v8 v9 y43)))))))))
  else
  lt (v8 + (1 : Int32)) fun y76 => (
  K14 σ v0 v1 v2 v3 v4 v5 v6 v7 y76))
set_option maxRecDepth 20000 in
theorem s6_listChoices_p25 {K14 : St → Nat → Int32 → Int32 → Int32 → Int32 → Int32 → Int32 → Int32 → Int32 → Option (Unit × St)} (hK14 : ∀ (σ : St) (v0 : Nat) (v1 : Int32) (v2 : Int32) (v3 : Int32) (v4 : Int32) (v5 : Int32) (v6 : Int32) (v7 : Int32) (v8 : Int32) (r : Unit) (τ : St), K14 σ v0 v1 v2 v3 v4 v5 v6 v7 v8 = some (r, τ) → Ev 7 m6_listChoices 14 [(0, .ref v0), (1, .int v1), (2, .int v2), (3, .int v3), (4, .int v4), (5, .int v5), (6, .int v6), (7, .int v7), (8, .int v8)] [] σ none τ) : ∀ (n : Nat) (σ : St) (v0 : Nat) (v1 : Int32) (v2 : Int32) (v3 : Int32) (v4 : Int32) (v5 : Int32) (v6 : Int32) (v7 : Int32) (v8 : Int32) (v9 : Int32) (r : Unit) (τ : St), f6_listChoices_p25 K14 n σ v0 v1 v2 v3 v4 v5 v6 v7 v8 v9 = some (r, τ) → Ev 7 m6_listChoices 25 [(0, .ref v0), (1, .int v1), (2, .int v2), (3, .int v3), (4, .int v4), (5, .int v5), (6, .int v6), (7, .int v7), (8, .int v8), (9, .int v9)] [] σ none τ := by
  intro n
  induction n with
  | zero =>
    intro σ v0 v1 v2 v3 v4 v5 v6 v7 v8 v9 r τ hf
    cases hf
  | succ n ih =>
    intro σ v0 v1 v2 v3 v4 v5 v6 v7 v8 v9 r τ hf
    rw [f6_listChoices_p25] at hf
    refine ev_iload (i := 9) (q := 9) rfl d6_listChoices_25 ?_
    refine ev_iload (i := 5) (q := 5) rfl d6_listChoices_27 ?_
    rcases ite_some hf with ⟨c42, hf⟩ | ⟨c42, hf⟩
    · refine ev_icmp_gt_P (tgt := 177) c42 (by decide) d6_listChoices_29 ?_
      refine ev_iload (i := 8) (q := 8) rfl d6_listChoices_32 ?_
      refine ev_bipush cb_12 d6_listChoices_34 ?_
      refine ev_imul d6_listChoices_36 ?_
      refine ev_iload (i := 9) (q := 9) rfl d6_listChoices_37 ?_
      refine ev_iadd d6_listChoices_39 ?_
      obtain ⟨y43, e44, hf⟩ := lt_some hf
      refine ev_nmI e44 ?_
      refine ev_istore (lv2 := [(10, .int y43), (0, .ref v0), (1, .int v1), (2, .int v2), (3, .int v3), (4, .int v4), (5, .int v5), (6, .int v6), (7, .int v7), (8, .int v8), (9, .int v9)]) (i := 10) (by decide) rfl d6_listChoices_40 ?_
      refine ev_aload_n (j := 0) (i := 0) (q := 1) rfl rfl d6_listChoices_42 ?_
      obtain ⟨h45, hf⟩ := gd_some hf
      obtain ⟨b46, e47, hf⟩ := lt_some hf
      obtain ⟨h48, hf⟩ := gd_some hf
      refine ev_getRb cls6 (j := 0) (by decide) rfl w417 h45 e47 (nz_ne h48) d6_listChoices_43 ?_
      refine ev_iload (i := 10) (q := 0) rfl d6_listChoices_46 ?_
      refine ev_aload_n (j := 0) (i := 0) (q := 1) rfl rfl d6_listChoices_48 ?_
      obtain ⟨b49, e50, hf⟩ := lt_some hf
      obtain ⟨h51, hf⟩ := gd_some hf
      refine ev_getRb cls6 (j := 10) (by decide) rfl w429 h45 e50 (nz_ne h51) d6_listChoices_49 ?_
      obtain ⟨h52, hf⟩ := gd_some hf
      obtain ⟨r53, t54, k55, hf⟩ := bd_some hf
      have q56 := s8_lyingAt _ _ _ _ _ _ k55
      refine ev_callV (vs := [.int y43, .ref b49]) (sk := []) cls8 h52 q56 (by decide) (Nat.le_of_ble_eq_true rfl) w1042 w581 w582 w2 w583 k8_lyingAt rfl (Nat.le_of_ble_eq_true rfl) d6_listChoices_52 ?_
      refine ev_iconst ci_m1 d6_listChoices_55 ?_
      rcases ite_some hf with ⟨c57, hf⟩ | ⟨c57, hf⟩
      · refine ev_icmp_ne_P (tgt := 99) c57 (by decide) d6_listChoices_56 ?_
        refine ev_aload_n (j := 0) (i := 0) (q := 1) rfl rfl d6_listChoices_59 ?_
        obtain ⟨b58, e59, hf⟩ := lt_some hf
        obtain ⟨h60, hf⟩ := gd_some hf
        refine ev_getRb cls6 (j := 0) (by decide) rfl w417 (mono_ob q56.1 h45) e59 (nz_ne h60) d6_listChoices_60 ?_
        refine ev_iload (i := 10) (q := 0) rfl d6_listChoices_63 ?_
        refine ev_iload (i := 6) (q := 7) rfl d6_listChoices_65 ?_
        refine ev_aload_n (j := 0) (i := 0) (q := 1) rfl rfl d6_listChoices_67 ?_
        refine ev_getI cls6 (j := 14) (by decide) rfl w433 (mono_ob q56.1 h45) d6_listChoices_68 ?_
        obtain ⟨h61, hf⟩ := gd_some hf
        obtain ⟨r62, t63, k64, hf⟩ := bd_some hf
        have q65 := s8_bears _ _ _ _ _ _ _ k64
        refine ev_callV (vs := [.int y43, .int v6, .int (sI t54 v0 14)]) (sk := []) cls8 h61 q65 (by decide) (Nat.le_of_ble_eq_true rfl) w1043 w623 w624 w2 w625 k8_bears rfl (Nat.le_of_ble_eq_true rfl) d6_listChoices_71 ?_
        rcases ite_some hf with ⟨c66, hf⟩ | ⟨c66, hf⟩
        · refine ev_if_eq_P (tgt := 99) c66 (by decide) d6_listChoices_74 ?_
          exact Ev.sub [1, 2, 3, 4, 5, 6, 7, 8, 9, 10, 0] rfl (s6_listChoices_p99 hK14 ih _ _ _ _ _ _ _ _ _ _ _ _ _ _ hf)
        · refine ev_if_eq_Q (tgt := 99) c66 (by decide) d6_listChoices_74 ?_
          refine ev_aload_n (j := 0) (i := 0) (q := 1) rfl rfl d6_listChoices_77 ?_
          obtain ⟨b67, e68, hf⟩ := lt_some hf
          obtain ⟨h69, hf⟩ := gd_some hf
          refine ev_getRb cls6 (j := 1) (by decide) rfl w418 (mono_ob q65.1 (mono_ob q56.1 h45)) e68 (nz_ne h69) d6_listChoices_78 ?_
          refine ev_iload (i := 6) (q := 7) rfl d6_listChoices_81 ?_
          refine ev_iload (i := 10) (q := 0) rfl d6_listChoices_83 ?_
          refine ev_iload_n (j := 2) (i := 2) (q := 3) rfl rfl d6_listChoices_85 ?_
          refine ev_iload_n (j := 3) (i := 3) (q := 4) rfl rfl d6_listChoices_86 ?_
          obtain ⟨h70, hf⟩ := gd_some hf
          obtain ⟨r71, t72, k73, hf⟩ := bd_some hf
          have q74 := s4_standing _ _ _ _ _ _ _ _ k73
          refine ev_callV (vs := [.int v6, .int y43, .int v2, .int v3]) (sk := []) cls4 h70 q74 (by decide) (Nat.le_of_ble_eq_true rfl) w1044 w857 w858 w6 w859 k4_standing rfl (Nat.le_of_ble_eq_true rfl) d6_listChoices_87 ?_
          refine ev_iconst ci_3 d6_listChoices_90 ?_
          refine ev_iand d6_listChoices_91 ?_
          rcases ite_some hf with ⟨c75, hf⟩ | ⟨c75, hf⟩
          · refine ev_if_ne_P (tgt := 99) c75 (by decide) d6_listChoices_92 ?_
            refine ev_iconst ci_1 d6_listChoices_95 ?_
            refine ev_goto (tgt := 100) (by decide) d6_listChoices_96 ?_
            exact Ev.sub [1, 2, 3, 4, 5, 6, 7, 8, 9, 10, 0] rfl (s6_listChoices_p100 hK14 ih _ _ _ _ _ _ _ _ _ _ _ _ _ _ _ hf)
          · refine ev_if_ne_Q (tgt := 99) c75 (by decide) d6_listChoices_92 ?_
            exact Ev.sub [1, 2, 3, 4, 5, 6, 7, 8, 9, 10, 0] rfl (s6_listChoices_p99 hK14 ih _ _ _ _ _ _ _ _ _ _ _ _ _ _ hf)
      · refine ev_icmp_ne_Q (tgt := 99) c57 (by decide) d6_listChoices_56 ?_
        exact Ev.sub [1, 2, 3, 4, 5, 6, 7, 8, 9, 10, 0] rfl (s6_listChoices_p99 hK14 ih _ _ _ _ _ _ _ _ _ _ _ _ _ _ hf)
    · refine ev_icmp_gt_Q (tgt := 177) c42 (by decide) d6_listChoices_29 ?_
      obtain ⟨y76, e77, hf⟩ := lt_some hf
      refine ev_iinc (lv2 := [(8, .int y76), (0, .ref v0), (1, .int v1), (2, .int v2), (3, .int v3), (4, .int v4), (5, .int v5), (6, .int v6), (7, .int v7), (9, .int v9)]) (i := 8) (q := 8) (v := y76) (n := 1) rfl (by rw [ci_1]; exact e77.symm) (by decide) rfl d6_listChoices_177 ?_
      refine ev_goto (tgt := 14) (by decide) d6_listChoices_180 ?_
      exact Ev.sub [1, 2, 3, 4, 5, 6, 7, 8, 0] rfl (hK14 _ _ _ _ _ _ _ _ _ _ _ _ hf)
def f6_listChoices_p14 : Nat → St → Nat → Int32 → Int32 → Int32 → Int32 → Int32 → Int32 → Int32 → Int32 → Option (Unit × St)
  | 0, _, _, _, _, _, _, _, _, _, _ => none
  | n + 1, σ, v0, v1, v2, v3, v4, v5, v6, v7, v8 =>
  (if v8 < (6 : Int32) then
  f6_listChoices_p25 (f6_listChoices_p14 n) FU σ v0 v1 v2 v3 v4 v5 v6 v7 v8 v4
  else
  gd (ob σ v0 6) (
  lt (sR σ v0 5) fun b11 => (
  gd (nz b11) (
  gd (ob σ b11 21) (
  gd (inb σ b11 v1) (
  lt (sR σ b11 (ix v1)) fun b16 => (
  gd (nz b16) (
  gd (ob σ b16 14) (
  gd (inb σ b16 v7) (
  lt (wI σ b16 (ix v7) (-1 : Int32)) fun t21 => (
  lt (sR t21 v0 7) fun b23 => (
  gd (nz b23) (
  gd (ob t21 b23 21) (
  gd (inb t21 b23 v1) (
  lt (sR t21 b23 (ix v1)) fun b28 => (
  gd (nz b28) (
  gd (ob t21 b28 14) (
  gd (inb t21 b28 v7) (
  lt (wI t21 b28 (ix v7) (0 : Int32)) fun t33 => (
  lt (sR t33 v0 6) fun b35 => (
  gd (nz b35) (
  gd (ob t33 b35 14) (
  gd (inb t33 b35 v1) (
  lt (wI t33 b35 (ix v1) (v7 + (1 : Int32))) fun t40 => (
  some ((), t40))))))))))))))))))))))))))
set_option maxRecDepth 20000 in
theorem s6_listChoices_p14 : ∀ (n : Nat) (σ : St) (v0 : Nat) (v1 : Int32) (v2 : Int32) (v3 : Int32) (v4 : Int32) (v5 : Int32) (v6 : Int32) (v7 : Int32) (v8 : Int32) (r : Unit) (τ : St), f6_listChoices_p14 n σ v0 v1 v2 v3 v4 v5 v6 v7 v8 = some (r, τ) → Ev 7 m6_listChoices 14 [(0, .ref v0), (1, .int v1), (2, .int v2), (3, .int v3), (4, .int v4), (5, .int v5), (6, .int v6), (7, .int v7), (8, .int v8)] [] σ none τ := by
  intro n
  induction n with
  | zero =>
    intro σ v0 v1 v2 v3 v4 v5 v6 v7 v8 r τ hf
    cases hf
  | succ n ih =>
    intro σ v0 v1 v2 v3 v4 v5 v6 v7 v8 r τ hf
    rw [f6_listChoices_p14] at hf
    refine ev_iload (i := 8) (q := 8) rfl d6_listChoices_14 ?_
    refine ev_bipush cb_6 d6_listChoices_16 ?_
    rcases ite_some hf with ⟨c9, hf⟩ | ⟨c9, hf⟩
    · refine ev_icmp_ge_P (tgt := 183) c9 (by decide) d6_listChoices_18 ?_
      refine ev_iload (i := 4) (q := 4) rfl d6_listChoices_21 ?_
      refine ev_istore (lv2 := [(9, .int v4), (0, .ref v0), (1, .int v1), (2, .int v2), (3, .int v3), (4, .int v4), (5, .int v5), (6, .int v6), (7, .int v7), (8, .int v8)]) (i := 9) (by decide) rfl d6_listChoices_23 ?_
      exact Ev.sub [1, 2, 3, 4, 5, 6, 7, 8, 9, 0] rfl (s6_listChoices_p25 ih FU _ _ _ _ _ _ _ _ _ _ _ _ _ hf)
    · refine ev_icmp_ge_Q (tgt := 183) c9 (by decide) d6_listChoices_18 ?_
      refine ev_aload_n (j := 0) (i := 0) (q := 0) rfl rfl d6_listChoices_183 ?_
      obtain ⟨h10, hf⟩ := gd_some hf
      obtain ⟨b11, e12, hf⟩ := lt_some hf
      obtain ⟨h13, hf⟩ := gd_some hf
      refine ev_getRb cls6 (j := 5) (by decide) rfl w424 h10 e12 (nz_ne h13) d6_listChoices_184 ?_
      refine ev_iload_n (j := 1) (i := 1) (q := 1) rfl rfl d6_listChoices_187 ?_
      obtain ⟨h14, hf⟩ := gd_some hf
      obtain ⟨h15, hf⟩ := gd_some hf
      obtain ⟨b16, e17, hf⟩ := lt_some hf
      obtain ⟨h18, hf⟩ := gd_some hf
      refine ev_qaldb (kd := 21) (by decide) (by decide) rfl h14 h15 e17 (nz_ne h18) d6_listChoices_188 ?_
      refine ev_iload (i := 7) (q := 7) rfl d6_listChoices_189 ?_
      refine ev_iconst ci_m1 d6_listChoices_191 ?_
      obtain ⟨h19, hf⟩ := gd_some hf
      obtain ⟨h20, hf⟩ := gd_some hf
      obtain ⟨t21, e22, hf⟩ := lt_some hf
      refine ev_iast h19 h20 d6_listChoices_192 (ev_nmS e22 ?_)
      refine ev_aload_n (j := 0) (i := 0) (q := 0) rfl rfl d6_listChoices_193 ?_
      obtain ⟨b23, e24, hf⟩ := lt_some hf
      obtain ⟨h25, hf⟩ := gd_some hf
      refine ev_getRb cls6 (j := 7) (by decide) rfl w426 (mono_ob (mono_eI e22) h10) e24 (nz_ne h25) d6_listChoices_194 ?_
      refine ev_iload_n (j := 1) (i := 1) (q := 1) rfl rfl d6_listChoices_197 ?_
      obtain ⟨h26, hf⟩ := gd_some hf
      obtain ⟨h27, hf⟩ := gd_some hf
      obtain ⟨b28, e29, hf⟩ := lt_some hf
      obtain ⟨h30, hf⟩ := gd_some hf
      refine ev_qaldb (kd := 21) (by decide) (by decide) rfl h26 h27 e29 (nz_ne h30) d6_listChoices_198 ?_
      refine ev_iload (i := 7) (q := 7) rfl d6_listChoices_199 ?_
      refine ev_iconst ci_0 d6_listChoices_201 ?_
      obtain ⟨h31, hf⟩ := gd_some hf
      obtain ⟨h32, hf⟩ := gd_some hf
      obtain ⟨t33, e34, hf⟩ := lt_some hf
      refine ev_iast h31 h32 d6_listChoices_202 (ev_nmS e34 ?_)
      refine ev_aload_n (j := 0) (i := 0) (q := 0) rfl rfl d6_listChoices_203 ?_
      obtain ⟨b35, e36, hf⟩ := lt_some hf
      obtain ⟨h37, hf⟩ := gd_some hf
      refine ev_getRb cls6 (j := 6) (by decide) rfl w425 (mono_ob (mono_eI e34) (mono_ob (mono_eI e22) h10)) e36 (nz_ne h37) d6_listChoices_204 ?_
      refine ev_iload_n (j := 1) (i := 1) (q := 1) rfl rfl d6_listChoices_207 ?_
      refine ev_iload (i := 7) (q := 7) rfl d6_listChoices_208 ?_
      refine ev_iconst ci_1 d6_listChoices_210 ?_
      refine ev_iadd d6_listChoices_211 ?_
      obtain ⟨h38, hf⟩ := gd_some hf
      obtain ⟨h39, hf⟩ := gd_some hf
      obtain ⟨t40, e41, hf⟩ := lt_some hf
      refine ev_iast h38 h39 d6_listChoices_212 (ev_nmS e41 ?_)
      obtain ⟨-, rfl⟩ := ret_some hf
      exact ev_vret rfl d6_listChoices_213
def f6_listChoices (σ : St) (v0 : Nat) (v1 : Int32) (v2 : Int32) (v3 : Int32) (v4 : Int32) (v5 : Int32) : Option (Unit × St) :=
  gd (ob σ v0 6) (
  lt (sR σ v0 4) fun b2 => (
  gd (nz b2) (
  gd (ob σ b2 14) (
  gd (inb σ b2 v1) (
  lt (sI σ b2 (ix v1)) fun y7 => (
  f6_listChoices_p14 FU σ v0 v1 v2 v3 v4 v5 y7 (0 : Int32) (0 : Int32)))))))
set_option maxRecDepth 50000 in
theorem s6_listChoices : ∀ (σ : St) (v0 : Nat) (v1 : Int32) (v2 : Int32) (v3 : Int32) (v4 : Int32) (v5 : Int32) (r : Unit) (τ : St), f6_listChoices σ v0 v1 v2 v3 v4 v5 = some (r, τ) → Call 7 m6_listChoices [.ref v0, .int v1, .int v2, .int v3, .int v4, .int v5] σ none τ := by
  intro σ v0 v1 v2 v3 v4 v5 r τ hf
  unfold f6_listChoices at hf
  refine Call.of (by decide +kernel) rfl (Nat.le_of_ble_eq_true rfl) ?_
  refine ev_aload_n (j := 0) (i := 0) (q := 0) rfl rfl d6_listChoices_0 ?_
  obtain ⟨h1, hf⟩ := gd_some hf
  obtain ⟨b2, e3, hf⟩ := lt_some hf
  obtain ⟨h4, hf⟩ := gd_some hf
  refine ev_getRb cls6 (j := 4) (by decide) rfl w423 h1 e3 (nz_ne h4) d6_listChoices_1 ?_
  refine ev_iload_n (j := 1) (i := 1) (q := 1) rfl rfl d6_listChoices_4 ?_
  obtain ⟨h5, hf⟩ := gd_some hf
  obtain ⟨h6, hf⟩ := gd_some hf
  refine ev_iald h5 h6 d6_listChoices_5 ?_
  obtain ⟨y7, e8, hf⟩ := lt_some hf
  refine ev_nmI e8 ?_
  refine ev_istore (lv2 := [(6, .int y7), (0, .ref v0), (1, .int v1), (2, .int v2), (3, .int v3), (4, .int v4), (5, .int v5)]) (i := 6) (by decide) rfl d6_listChoices_6 ?_
  refine ev_iconst ci_0 d6_listChoices_8 ?_
  refine ev_istore (lv2 := [(7, .int (0 : Int32)), (6, .int y7), (0, .ref v0), (1, .int v1), (2, .int v2), (3, .int v3), (4, .int v4), (5, .int v5)]) (i := 7) (by decide) rfl d6_listChoices_9 ?_
  refine ev_iconst ci_0 d6_listChoices_11 ?_
  refine ev_istore (lv2 := [(8, .int (0 : Int32)), (7, .int (0 : Int32)), (6, .int y7), (0, .ref v0), (1, .int v1), (2, .int v2), (3, .int v3), (4, .int v4), (5, .int v5)]) (i := 8) (by decide) rfl d6_listChoices_12 ?_
  exact Ev.sub [3, 4, 5, 6, 7, 8, 2, 1, 0] rfl (s6_listChoices_p14 FU _ _ _ _ _ _ _ _ _ _ _ _ hf)
abbrev m6_sumTops : MD := ("MillBoats$Planner", ⟨"MillBoats$Planner", "sumTops", "()V"⟩, prog_8_method_7_code, 5, (none : Option Jvm.ClassFile.FieldType))
theorem k6_sumTops : okY m6_sumTops.2.1 0 := ⟨by decide +kernel, by decide +kernel, by decide +kernel⟩
def f6_sumTops_p59 (K11 : St → Nat → Int32 → Int32 → Option (Unit × St)) (σ : St) (v0 : Nat) (v1 : Int32) (v2 : Int32) (v3 : Int32) : Option (Unit × St) :=
  lt (v1 + v3) fun y34 => (
  gd (ob σ v0 6) (
  lt (sR σ v0 8) fun b37 => (
  gd (nz b37) (
  gd (ob σ b37 14) (
  gd (inb σ b37 v2) (
  lt (wI σ b37 (ix v2) y34) fun t42 => (
  lt (v2 + (-1 : Int32)) fun y44 => (
  K11 t42 v0 y34 y44))))))))
set_option maxRecDepth 20000 in
theorem s6_sumTops_p59 {K11 : St → Nat → Int32 → Int32 → Option (Unit × St)} (hK11 : ∀ (σ : St) (v0 : Nat) (v1 : Int32) (v2 : Int32) (r : Unit) (τ : St), K11 σ v0 v1 v2 = some (r, τ) → Ev 3 m6_sumTops 11 [(0, .ref v0), (1, .int v1), (2, .int v2)] [] σ none τ) : ∀ (σ : St) (v0 : Nat) (v1 : Int32) (v2 : Int32) (v3 : Int32) (r : Unit) (τ : St), f6_sumTops_p59 K11 σ v0 v1 v2 v3 = some (r, τ) → Ev 3 m6_sumTops 59 [(0, .ref v0), (1, .int v1), (2, .int v2), (3, .int v3)] [] σ none τ := by
  intro σ v0 v1 v2 v3 r τ hf
  unfold f6_sumTops_p59 at hf
  refine ev_iload_n (j := 1) (i := 1) (q := 1) rfl rfl d6_sumTops_59 ?_
  refine ev_iload_n (j := 3) (i := 3) (q := 3) rfl rfl d6_sumTops_60 ?_
  refine ev_iadd d6_sumTops_61 ?_
  obtain ⟨y34, e35, hf⟩ := lt_some hf
  refine ev_nmI e35 ?_
  refine ev_istore_n (lv2 := [(1, .int y34), (0, .ref v0), (2, .int v2), (3, .int v3)]) (j := 1) (i := 1) rfl (by decide) rfl d6_sumTops_62 ?_
  refine ev_aload_n (j := 0) (i := 0) (q := 1) rfl rfl d6_sumTops_63 ?_
  obtain ⟨h36, hf⟩ := gd_some hf
  obtain ⟨b37, e38, hf⟩ := lt_some hf
  obtain ⟨h39, hf⟩ := gd_some hf
  refine ev_getRb cls6 (j := 8) (by decide) rfl w427 h36 e38 (nz_ne h39) d6_sumTops_64 ?_
  refine ev_iload_n (j := 2) (i := 2) (q := 2) rfl rfl d6_sumTops_67 ?_
  refine ev_iload_n (j := 1) (i := 1) (q := 0) rfl rfl d6_sumTops_68 ?_
  obtain ⟨h40, hf⟩ := gd_some hf
  obtain ⟨h41, hf⟩ := gd_some hf
  obtain ⟨t42, e43, hf⟩ := lt_some hf
  refine ev_iast h40 h41 d6_sumTops_69 (ev_nmS e43 ?_)
  obtain ⟨y44, e45, hf⟩ := lt_some hf
  refine ev_iinc (lv2 := [(2, .int y44), (1, .int y34), (0, .ref v0), (3, .int v3)]) (i := 2) (q := 2) (v := y44) (n := -1) rfl (by rw [ci_m1]; exact e45.symm) (by decide) rfl d6_sumTops_70 ?_
  refine ev_goto (tgt := 11) (by decide) d6_sumTops_73 ?_
  exact Ev.sub [2, 1, 0] rfl (hK11 _ _ _ _ _ _ hf)
def f6_sumTops_p20 (K11 : St → Nat → Int32 → Int32 → Option (Unit × St)) : Nat → St → Nat → Int32 → Int32 → Int32 → Int32 → Option (Unit × St)
  | 0, _, _, _, _, _, _ => none
  | n + 1, σ, v0, v1, v2, v3, v4 =>
  gd (ob σ v0 6) (
  (if v2 < (sI σ v0 12) then
  lt (sR σ v0 6) fun b12 => (
  gd (nz b12) (
  gd (ob σ b12 14) (
  gd (inb σ b12 v2) (
  (if v4 < (sI σ b12 (ix v2)) then
  lt (sR σ v0 7) fun b18 => (
  gd (nz b18) (
  gd (ob σ b18 21) (
  gd (inb σ b18 v2) (
  lt (sR σ b18 (ix v2)) fun b23 => (
  gd (nz b23) (
  gd (ob σ b23 14) (
  gd (inb σ b23 v4) (
  bd (fJ9_max_7cf53 σ v3 (sI σ b23 (ix v4))) fun r28 t29 => (
  lt (v4 + (1 : Int32)) fun y32 => (
  (f6_sumTops_p20 K11 n) t29 v0 v1 v2 r28 y32))))))))))
  else
  f6_sumTops_p59 K11 σ v0 v1 v2 v3)))))
  else
  f6_sumTops_p59 K11 σ v0 v1 v2 v3))
set_option maxRecDepth 20000 in
theorem s6_sumTops_p20 {K11 : St → Nat → Int32 → Int32 → Option (Unit × St)} (hK11 : ∀ (σ : St) (v0 : Nat) (v1 : Int32) (v2 : Int32) (r : Unit) (τ : St), K11 σ v0 v1 v2 = some (r, τ) → Ev 3 m6_sumTops 11 [(0, .ref v0), (1, .int v1), (2, .int v2)] [] σ none τ) : ∀ (n : Nat) (σ : St) (v0 : Nat) (v1 : Int32) (v2 : Int32) (v3 : Int32) (v4 : Int32) (r : Unit) (τ : St), f6_sumTops_p20 K11 n σ v0 v1 v2 v3 v4 = some (r, τ) → Ev 3 m6_sumTops 20 [(0, .ref v0), (1, .int v1), (2, .int v2), (3, .int v3), (4, .int v4)] [] σ none τ := by
  intro n
  induction n with
  | zero =>
    intro σ v0 v1 v2 v3 v4 r τ hf
    cases hf
  | succ n ih =>
    intro σ v0 v1 v2 v3 v4 r τ hf
    rw [f6_sumTops_p20] at hf
    refine ev_iload_n (j := 2) (i := 2) (q := 2) rfl rfl d6_sumTops_20 ?_
    refine ev_aload_n (j := 0) (i := 0) (q := 0) rfl rfl d6_sumTops_21 ?_
    obtain ⟨h10, hf⟩ := gd_some hf
    refine ev_getI cls6 (j := 12) (by decide) rfl w431 h10 d6_sumTops_22 ?_
    rcases ite_some hf with ⟨c11, hf⟩ | ⟨c11, hf⟩
    · refine ev_icmp_ge_P (tgt := 59) c11 (by decide) d6_sumTops_25 ?_
      refine ev_iload (i := 4) (q := 4) rfl d6_sumTops_28 ?_
      refine ev_aload_n (j := 0) (i := 0) (q := 0) rfl rfl d6_sumTops_30 ?_
      obtain ⟨b12, e13, hf⟩ := lt_some hf
      obtain ⟨h14, hf⟩ := gd_some hf
      refine ev_getRb cls6 (j := 6) (by decide) rfl w425 h10 e13 (nz_ne h14) d6_sumTops_31 ?_
      refine ev_iload_n (j := 2) (i := 2) (q := 2) rfl rfl d6_sumTops_34 ?_
      obtain ⟨h15, hf⟩ := gd_some hf
      obtain ⟨h16, hf⟩ := gd_some hf
      refine ev_iald h15 h16 d6_sumTops_35 ?_
      rcases ite_some hf with ⟨c17, hf⟩ | ⟨c17, hf⟩
      · refine ev_icmp_ge_P (tgt := 59) c17 (by decide) d6_sumTops_36 ?_
        refine ev_iload_n (j := 3) (i := 3) (q := 3) rfl rfl d6_sumTops_39 ?_
        refine ev_aload_n (j := 0) (i := 0) (q := 0) rfl rfl d6_sumTops_40 ?_
        obtain ⟨b18, e19, hf⟩ := lt_some hf
        obtain ⟨h20, hf⟩ := gd_some hf
        refine ev_getRb cls6 (j := 7) (by decide) rfl w426 h10 e19 (nz_ne h20) d6_sumTops_41 ?_
        refine ev_iload_n (j := 2) (i := 2) (q := 2) rfl rfl d6_sumTops_44 ?_
        obtain ⟨h21, hf⟩ := gd_some hf
        obtain ⟨h22, hf⟩ := gd_some hf
        obtain ⟨b23, e24, hf⟩ := lt_some hf
        obtain ⟨h25, hf⟩ := gd_some hf
        refine ev_qaldb (kd := 21) (by decide) (by decide) rfl h21 h22 e24 (nz_ne h25) d6_sumTops_45 ?_
        refine ev_iload (i := 4) (q := 4) rfl d6_sumTops_46 ?_
        obtain ⟨h26, hf⟩ := gd_some hf
        obtain ⟨h27, hf⟩ := gd_some hf
        refine ev_iald h26 h27 d6_sumTops_48 ?_
        obtain ⟨r28, t29, k30, hf⟩ := bd_some hf
        have q31 := sJ9_max_7cf53 _ _ _ _ _ k30
        refine ev_callS (vs := [.int v3, .int (sI σ b23 (ix v4))]) (sk := []) q31 (by decide) (Nat.le_of_ble_eq_true rfl) w1059 w152 w8 w153 kJ9_max_7cf53 rfl (Nat.le_of_ble_eq_true rfl) d6_sumTops_49 ?_
        refine ev_istore_n (lv2 := [(3, .int r28), (0, .ref v0), (1, .int v1), (2, .int v2), (4, .int v4)]) (j := 3) (i := 3) rfl (by decide) rfl d6_sumTops_52 ?_
        obtain ⟨y32, e33, hf⟩ := lt_some hf
        refine ev_iinc (lv2 := [(4, .int y32), (3, .int r28), (0, .ref v0), (1, .int v1), (2, .int v2)]) (i := 4) (q := 4) (v := y32) (n := 1) rfl (by rw [ci_1]; exact e33.symm) (by decide) rfl d6_sumTops_53 ?_
        refine ev_goto (tgt := 20) (by decide) d6_sumTops_56 ?_
        exact Ev.sub [2, 3, 4, 1, 0] rfl (ih _ _ _ _ _ _ _ _ hf)
      · refine ev_icmp_ge_Q (tgt := 59) c17 (by decide) d6_sumTops_36 ?_
        exact Ev.sub [0, 1, 2, 3] rfl (s6_sumTops_p59 hK11 _ _ _ _ _ _ _ hf)
    · refine ev_icmp_ge_Q (tgt := 59) c11 (by decide) d6_sumTops_25 ?_
      exact Ev.sub [0, 1, 2, 3] rfl (s6_sumTops_p59 hK11 _ _ _ _ _ _ _ hf)
def f6_sumTops_p11 : Nat → St → Nat → Int32 → Int32 → Option (Unit × St)
  | 0, _, _, _, _ => none
  | n + 1, σ, v0, v1, v2 =>
  (if v2 < (0 : Int32) then
  some ((), σ)
  else
  f6_sumTops_p20 (f6_sumTops_p11 n) FU σ v0 v1 v2 (0 : Int32) (0 : Int32))
set_option maxRecDepth 20000 in
theorem s6_sumTops_p11 : ∀ (n : Nat) (σ : St) (v0 : Nat) (v1 : Int32) (v2 : Int32) (r : Unit) (τ : St), f6_sumTops_p11 n σ v0 v1 v2 = some (r, τ) → Ev 3 m6_sumTops 11 [(0, .ref v0), (1, .int v1), (2, .int v2)] [] σ none τ := by
  intro n
  induction n with
  | zero =>
    intro σ v0 v1 v2 r τ hf
    cases hf
  | succ n ih =>
    intro σ v0 v1 v2 r τ hf
    rw [f6_sumTops_p11] at hf
    refine ev_iload_n (j := 2) (i := 2) (q := 2) rfl rfl d6_sumTops_11 ?_
    rcases ite_some hf with ⟨c9, hf⟩ | ⟨c9, hf⟩
    · refine ev_if_lt_P (tgt := 76) c9 (by decide) d6_sumTops_12 ?_
      obtain ⟨-, rfl⟩ := ret_some hf
      exact ev_vret rfl d6_sumTops_76
    · refine ev_if_lt_Q (tgt := 76) c9 (by decide) d6_sumTops_12 ?_
      refine ev_iconst ci_0 d6_sumTops_15 ?_
      refine ev_istore_n (lv2 := [(3, .int (0 : Int32)), (0, .ref v0), (1, .int v1), (2, .int v2)]) (j := 3) (i := 3) rfl (by decide) rfl d6_sumTops_16 ?_
      refine ev_iconst ci_0 d6_sumTops_17 ?_
      refine ev_istore (lv2 := [(4, .int (0 : Int32)), (3, .int (0 : Int32)), (0, .ref v0), (1, .int v1), (2, .int v2)]) (i := 4) (by decide) rfl d6_sumTops_18 ?_
      exact Ev.sub [2, 3, 4, 1, 0] rfl (s6_sumTops_p20 ih FU _ _ _ _ _ _ _ _ hf)
def f6_sumTops (σ : St) (v0 : Nat) : Option (Unit × St) :=
  gd (ob σ v0 6) (
  lt (sR σ v0 8) fun b2 => (
  gd (nz b2) (
  gd (ob σ b2 14) (
  gd (inb σ b2 (3 : Int32)) (
  lt (wI σ b2 (ix (3 : Int32)) (0 : Int32)) fun t7 => (
  f6_sumTops_p11 FU t7 v0 (0 : Int32) (2 : Int32)))))))
set_option maxRecDepth 50000 in
theorem s6_sumTops : ∀ (σ : St) (v0 : Nat) (r : Unit) (τ : St), f6_sumTops σ v0 = some (r, τ) → Call 3 m6_sumTops [.ref v0] σ none τ := by
  intro σ v0 r τ hf
  unfold f6_sumTops at hf
  refine Call.of (by decide +kernel) rfl (Nat.le_of_ble_eq_true rfl) ?_
  refine ev_iconst ci_0 d6_sumTops_0 ?_
  refine ev_istore_n (lv2 := [(1, .int (0 : Int32)), (0, .ref v0)]) (j := 1) (i := 1) rfl (by decide) rfl d6_sumTops_1 ?_
  refine ev_aload_n (j := 0) (i := 0) (q := 1) rfl rfl d6_sumTops_2 ?_
  obtain ⟨h1, hf⟩ := gd_some hf
  obtain ⟨b2, e3, hf⟩ := lt_some hf
  obtain ⟨h4, hf⟩ := gd_some hf
  refine ev_getRb cls6 (j := 8) (by decide) rfl w427 h1 e3 (nz_ne h4) d6_sumTops_3 ?_
  refine ev_iconst ci_3 d6_sumTops_6 ?_
  refine ev_iconst ci_0 d6_sumTops_7 ?_
  obtain ⟨h5, hf⟩ := gd_some hf
  obtain ⟨h6, hf⟩ := gd_some hf
  obtain ⟨t7, e8, hf⟩ := lt_some hf
  refine ev_iast h5 h6 d6_sumTops_8 (ev_nmS e8 ?_)
  refine ev_iconst ci_2 d6_sumTops_9 ?_
  refine ev_istore_n (lv2 := [(2, .int (2 : Int32)), (1, .int (0 : Int32)), (0, .ref v0)]) (j := 2) (i := 2) rfl (by decide) rfl d6_sumTops_10 ?_
  exact Ev.sub [2, 1, 0] rfl (s6_sumTops_p11 FU _ _ _ _ _ _ hf)
