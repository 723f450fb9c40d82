theorem d7_init_0 : decode prog_9_method_1_code 0 = .ok (.aload_n 0, 1) := by decide +kernel
theorem d7_init_1 : decode prog_9_method_1_code 1 = .ok (.invokespecial 3, 3) := by decide +kernel
theorem d7_init_4 : decode prog_9_method_1_code 4 = .ok (.aload_n 0, 1) := by decide +kernel
theorem d7_init_5 : decode prog_9_method_1_code 5 = .ok (.sipush 401, 3) := by decide +kernel
theorem d7_init_8 : decode prog_9_method_1_code 8 = .ok (.newarray .int, 2) := by decide +kernel
theorem d7_init_10 : decode prog_9_method_1_code 10 = .ok (.putfield 9, 3) := by decide +kernel
theorem d7_init_13 : decode prog_9_method_1_code 13 = .ok (.aload_n 0, 1) := by decide +kernel
theorem d7_init_14 : decode prog_9_method_1_code 14 = .ok (.sipush 401, 3) := by decide +kernel
theorem d7_init_17 : decode prog_9_method_1_code 17 = .ok (.newarray .int, 2) := by decide +kernel
theorem d7_init_19 : decode prog_9_method_1_code 19 = .ok (.putfield 15, 3) := by decide +kernel
theorem d7_init_22 : decode prog_9_method_1_code 22 = .ok (.aload_n 0, 1) := by decide +kernel
theorem d7_init_23 : decode prog_9_method_1_code 23 = .ok (.sipush 401, 3) := by decide +kernel
theorem d7_init_26 : decode prog_9_method_1_code 26 = .ok (.newarray .long, 2) := by decide +kernel
theorem d7_init_28 : decode prog_9_method_1_code 28 = .ok (.putfield 18, 3) := by decide +kernel
theorem d7_init_31 : decode prog_9_method_1_code 31 = .ok (.aload_n 0, 1) := by decide +kernel
theorem d7_init_32 : decode prog_9_method_1_code 32 = .ok (.bipush 10, 2) := by decide +kernel
theorem d7_init_34 : decode prog_9_method_1_code 34 = .ok (.newarray .long, 2) := by decide +kernel
theorem d7_init_36 : decode prog_9_method_1_code 36 = .ok (.putfield 22, 3) := by decide +kernel
theorem d7_init_39 : decode prog_9_method_1_code 39 = .ok (.aload_n 0, 1) := by decide +kernel
theorem d7_init_40 : decode prog_9_method_1_code 40 = .ok (.bipush 15, 2) := by decide +kernel
theorem d7_init_42 : decode prog_9_method_1_code 42 = .ok (.newarray .long, 2) := by decide +kernel
theorem d7_init_44 : decode prog_9_method_1_code 44 = .ok (.putfield 25, 3) := by decide +kernel
theorem d7_init_47 : decode prog_9_method_1_code 47 = .ok (.aload_n 0, 1) := by decide +kernel
theorem d7_init_48 : decode prog_9_method_1_code 48 = .ok (.new 28, 3) := by decide +kernel
theorem d7_init_51 : decode prog_9_method_1_code 51 = .ok (.dup, 1) := by decide +kernel
theorem d7_init_52 : decode prog_9_method_1_code 52 = .ok (.sipush 400, 3) := by decide +kernel
theorem d7_init_55 : decode prog_9_method_1_code 55 = .ok (.bipush 20, 2) := by decide +kernel
theorem d7_init_57 : decode prog_9_method_1_code 57 = .ok (.invokespecial 30, 3) := by decide +kernel
theorem d7_init_60 : decode prog_9_method_1_code 60 = .ok (.putfield 33, 3) := by decide +kernel
theorem d7_init_63 : decode prog_9_method_1_code 63 = .ok (.aload_n 0, 1) := by decide +kernel
theorem d7_init_64 : decode prog_9_method_1_code 64 = .ok (.iconst (-1), 1) := by decide +kernel
theorem d7_init_65 : decode prog_9_method_1_code 65 = .ok (.putfield 37, 3) := by decide +kernel
theorem d7_init_68 : decode prog_9_method_1_code 68 = .ok (.ldc 41, 2) := by decide +kernel
theorem d7_init_70 : decode prog_9_method_1_code 70 = .ok (.aload_n 0, 1) := by decide +kernel
theorem d7_init_71 : decode prog_9_method_1_code 71 = .ok (.getfield 22, 3) := by decide +kernel
theorem d7_init_74 : decode prog_9_method_1_code 74 = .ok (.invokestatic 43, 3) := by decide +kernel
theorem d7_init_77 : decode prog_9_method_1_code 77 = .ok (.ldc 47, 2) := by decide +kernel
theorem d7_init_79 : decode prog_9_method_1_code 79 = .ok (.aload_n 0, 1) := by decide +kernel
theorem d7_init_80 : decode prog_9_method_1_code 80 = .ok (.getfield 25, 3) := by decide +kernel
theorem d7_init_83 : decode prog_9_method_1_code 83 = .ok (.invokestatic 43, 3) := by decide +kernel
theorem d7_init_86 : decode prog_9_method_1_code 86 = .ok (.return_, 1) := by decide +kernel
theorem d4_init_0 : decode prog_6_method_1_code 0 = .ok (.aload_n 0, 1) := by decide +kernel
theorem d4_init_1 : decode prog_6_method_1_code 1 = .ok (.invokespecial 3, 3) := by decide +kernel
theorem d4_init_4 : decode prog_6_method_1_code 4 = .ok (.aload_n 0, 1) := by decide +kernel
theorem d4_init_5 : decode prog_6_method_1_code 5 = .ok (.new 9, 3) := by decide +kernel
theorem d4_init_8 : decode prog_6_method_1_code 8 = .ok (.dup, 1) := by decide +kernel
theorem d4_init_9 : decode prog_6_method_1_code 9 = .ok (.sipush 200, 3) := by decide +kernel
theorem d4_init_12 : decode prog_6_method_1_code 12 = .ok (.invokespecial 13, 3) := by decide +kernel
theorem d4_init_15 : decode prog_6_method_1_code 15 = .ok (.putfield 16, 3) := by decide +kernel
theorem d4_init_18 : decode prog_6_method_1_code 18 = .ok (.aload_n 0, 1) := by decide +kernel
theorem d4_init_19 : decode prog_6_method_1_code 19 = .ok (.new 9, 3) := by decide +kernel
theorem d4_init_22 : decode prog_6_method_1_code 22 = .ok (.dup, 1) := by decide +kernel
theorem d4_init_23 : decode prog_6_method_1_code 23 = .ok (.sipush 200, 3) := by decide +kernel
theorem d4_init_26 : decode prog_6_method_1_code 26 = .ok (.invokespecial 13, 3) := by decide +kernel
theorem d4_init_29 : decode prog_6_method_1_code 29 = .ok (.putfield 20, 3) := by decide +kernel
theorem d4_init_32 : decode prog_6_method_1_code 32 = .ok (.aload_n 0, 1) := by decide +kernel
theorem d4_init_33 : decode prog_6_method_1_code 33 = .ok (.iconst 2, 1) := by decide +kernel
theorem d4_init_34 : decode prog_6_method_1_code 34 = .ok (.anewarray 9, 3) := by decide +kernel
theorem d4_init_37 : decode prog_6_method_1_code 37 = .ok (.putfield 23, 3) := by decide +kernel
theorem d4_init_40 : decode prog_6_method_1_code 40 = .ok (.aload_n 0, 1) := by decide +kernel
theorem d4_init_41 : decode prog_6_method_1_code 41 = .ok (.bipush 24, 2) := by decide +kernel
theorem d4_init_43 : decode prog_6_method_1_code 43 = .ok (.anewarray 27, 3) := by decide +kernel
theorem d4_init_46 : decode prog_6_method_1_code 46 = .ok (.putfield 29, 3) := by decide +kernel
theorem d4_init_49 : decode prog_6_method_1_code 49 = .ok (.aload_n 0, 1) := by decide +kernel
theorem d4_init_50 : decode prog_6_method_1_code 50 = .ok (.new 33, 3) := by decide +kernel
theorem d4_init_53 : decode prog_6_method_1_code 53 = .ok (.dup, 1) := by decide +kernel
theorem d4_init_54 : decode prog_6_method_1_code 54 = .ok (.invokespecial 35, 3) := by decide +kernel
theorem d4_init_57 : decode prog_6_method_1_code 57 = .ok (.putfield 36, 3) := by decide +kernel
theorem d4_init_60 : decode prog_6_method_1_code 60 = .ok (.aload_n 0, 1) := by decide +kernel
theorem d4_init_61 : decode prog_6_method_1_code 61 = .ok (.bipush 15, 2) := by decide +kernel
theorem d4_init_63 : decode prog_6_method_1_code 63 = .ok (.newarray .int, 2) := by decide +kernel
theorem d4_init_65 : decode prog_6_method_1_code 65 = .ok (.putfield 40, 3) := by decide +kernel
theorem d4_init_68 : decode prog_6_method_1_code 68 = .ok (.aload_n 0, 1) := by decide +kernel
theorem d4_init_69 : decode prog_6_method_1_code 69 = .ok (.bipush 64, 2) := by decide +kernel
theorem d4_init_71 : decode prog_6_method_1_code 71 = .ok (.newarray .int, 2) := by decide +kernel
theorem d4_init_73 : decode prog_6_method_1_code 73 = .ok (.putfield 44, 3) := by decide +kernel
theorem d4_init_76 : decode prog_6_method_1_code 76 = .ok (.aload_n 0, 1) := by decide +kernel
theorem d4_init_77 : decode prog_6_method_1_code 77 = .ok (.aload_n 1, 1) := by decide +kernel
theorem d4_init_78 : decode prog_6_method_1_code 78 = .ok (.putfield 47, 3) := by decide +kernel
theorem d4_init_81 : decode prog_6_method_1_code 81 = .ok (.iconst 0, 1) := by decide +kernel
theorem d4_init_82 : decode prog_6_method_1_code 82 = .ok (.istore_n 2, 1) := by decide +kernel
theorem d4_init_83 : decode prog_6_method_1_code 83 = .ok (.iload_n 2, 1) := by decide +kernel
theorem d4_init_84 : decode prog_6_method_1_code 84 = .ok (.iconst 2, 1) := by decide +kernel
theorem d4_init_85 : decode prog_6_method_1_code 85 = .ok (.if_icmp .ge 24, 3) := by decide +kernel
theorem d4_init_88 : decode prog_6_method_1_code 88 = .ok (.aload_n 0, 1) := by decide +kernel
theorem d4_init_89 : decode prog_6_method_1_code 89 = .ok (.getfield 23, 3) := by decide +kernel
theorem d4_init_92 : decode prog_6_method_1_code 92 = .ok (.iload_n 2, 1) := by decide +kernel
theorem d4_init_93 : decode prog_6_method_1_code 93 = .ok (.new 9, 3) := by decide +kernel
theorem d4_init_96 : decode prog_6_method_1_code 96 = .ok (.dup, 1) := by decide +kernel
theorem d4_init_97 : decode prog_6_method_1_code 97 = .ok (.bipush 12, 2) := by decide +kernel
theorem d4_init_99 : decode prog_6_method_1_code 99 = .ok (.invokespecial 13, 3) := by decide +kernel
theorem d4_init_102 : decode prog_6_method_1_code 102 = .ok (.aastore, 1) := by decide +kernel
theorem d4_init_103 : decode prog_6_method_1_code 103 = .ok (.iinc 2 1, 3) := by decide +kernel
theorem d4_init_106 : decode prog_6_method_1_code 106 = .ok (.goto (-23), 3) := by decide +kernel
theorem d4_init_109 : decode prog_6_method_1_code 109 = .ok (.return_, 1) := by decide +kernel
theorem d4_isFull_0 : decode prog_6_method_2_code 0 = .ok (.aload_n 0, 1) := by decide +kernel
theorem d4_isFull_1 : decode prog_6_method_2_code 1 = .ok (.getfield 23, 3) := by decide +kernel
theorem d4_isFull_4 : decode prog_6_method_2_code 4 = .ok (.iload_n 1, 1) := by decide +kernel
theorem d4_isFull_5 : decode prog_6_method_2_code 5 = .ok (.aaload, 1) := by decide +kernel
theorem d4_isFull_6 : decode prog_6_method_2_code 6 = .ok (.getfield 51, 3) := by decide +kernel
theorem d4_isFull_9 : decode prog_6_method_2_code 9 = .ok (.bipush 12, 2) := by decide +kernel
theorem d4_isFull_11 : decode prog_6_method_2_code 11 = .ok (.if_icmp .lt 7, 3) := by decide +kernel
theorem d4_isFull_14 : decode prog_6_method_2_code 14 = .ok (.iconst 1, 1) := by decide +kernel
theorem d4_isFull_15 : decode prog_6_method_2_code 15 = .ok (.goto 4, 3) := by decide +kernel
theorem d4_isFull_18 : decode prog_6_method_2_code 18 = .ok (.iconst 0, 1) := by decide +kernel
theorem d4_isFull_19 : decode prog_6_method_2_code 19 = .ok (.ireturn, 1) := by decide +kernel
theorem d4_textsOf_0 : decode prog_6_method_3_code 0 = .ok (.aload_n 0, 1) := by decide +kernel
theorem d4_textsOf_1 : decode prog_6_method_3_code 1 = .ok (.getfield 23, 3) := by decide +kernel
theorem d4_textsOf_4 : decode prog_6_method_3_code 4 = .ok (.iload_n 1, 1) := by decide +kernel
theorem d4_textsOf_5 : decode prog_6_method_3_code 5 = .ok (.aaload, 1) := by decide +kernel
theorem d4_textsOf_6 : decode prog_6_method_3_code 6 = .ok (.getfield 51, 3) := by decide +kernel
theorem d4_textsOf_9 : decode prog_6_method_3_code 9 = .ok (.ireturn, 1) := by decide +kernel
theorem d10_copy_0 : decode prog_12_method_5_code 0 = .ok (.new 14, 3) := by decide +kernel
theorem d10_copy_3 : decode prog_12_method_5_code 3 = .ok (.dup, 1) := by decide +kernel
theorem d10_copy_4 : decode prog_12_method_5_code 4 = .ok (.aload_n 0, 1) := by decide +kernel
theorem d10_copy_5 : decode prog_12_method_5_code 5 = .ok (.getfield 31, 3) := by decide +kernel
theorem d10_copy_8 : decode prog_12_method_5_code 8 = .ok (.aload_n 0, 1) := by decide +kernel
theorem d10_copy_9 : decode prog_12_method_5_code 9 = .ok (.getfield 35, 3) := by decide +kernel
theorem d10_copy_12 : decode prog_12_method_5_code 12 = .ok (.invokespecial 38, 3) := by decide +kernel
theorem d10_copy_15 : decode prog_12_method_5_code 15 = .ok (.astore_n 1, 1) := by decide +kernel
theorem d10_copy_16 : decode prog_12_method_5_code 16 = .ok (.aload_n 0, 1) := by decide +kernel
theorem d10_copy_17 : decode prog_12_method_5_code 17 = .ok (.getfield 13, 3) := by decide +kernel
theorem d10_copy_20 : decode prog_12_method_5_code 20 = .ok (.iconst 0, 1) := by decide +kernel
theorem d10_copy_21 : decode prog_12_method_5_code 21 = .ok (.aload_n 1, 1) := by decide +kernel
theorem d10_copy_22 : decode prog_12_method_5_code 22 = .ok (.getfield 13, 3) := by decide +kernel
theorem d10_copy_25 : decode prog_12_method_5_code 25 = .ok (.iconst 0, 1) := by decide +kernel
theorem d10_copy_26 : decode prog_12_method_5_code 26 = .ok (.aload_n 0, 1) := by decide +kernel
theorem d10_copy_27 : decode prog_12_method_5_code 27 = .ok (.getfield 31, 3) := by decide +kernel
theorem d10_copy_30 : decode prog_12_method_5_code 30 = .ok (.invokestatic 41, 3) := by decide +kernel
theorem d10_copy_33 : decode prog_12_method_5_code 33 = .ok (.aload_n 0, 1) := by decide +kernel
theorem d10_copy_34 : decode prog_12_method_5_code 34 = .ok (.getfield 19, 3) := by decide +kernel
theorem d10_copy_37 : decode prog_12_method_5_code 37 = .ok (.iconst 0, 1) := by decide +kernel
theorem d10_copy_38 : decode prog_12_method_5_code 38 = .ok (.aload_n 1, 1) := by decide +kernel
theorem d10_copy_39 : decode prog_12_method_5_code 39 = .ok (.getfield 19, 3) := by decide +kernel
theorem d10_copy_42 : decode prog_12_method_5_code 42 = .ok (.iconst 0, 1) := by decide +kernel
theorem d10_copy_43 : decode prog_12_method_5_code 43 = .ok (.aload_n 0, 1) := by decide +kernel
theorem d10_copy_44 : decode prog_12_method_5_code 44 = .ok (.getfield 35, 3) := by decide +kernel
theorem d10_copy_47 : decode prog_12_method_5_code 47 = .ok (.invokestatic 41, 3) := by decide +kernel
theorem d10_copy_50 : decode prog_12_method_5_code 50 = .ok (.aload_n 0, 1) := by decide +kernel
theorem d10_copy_51 : decode prog_12_method_5_code 51 = .ok (.getfield 22, 3) := by decide +kernel
theorem d10_copy_54 : decode prog_12_method_5_code 54 = .ok (.iconst 0, 1) := by decide +kernel
theorem d10_copy_55 : decode prog_12_method_5_code 55 = .ok (.aload_n 1, 1) := by decide +kernel
theorem d10_copy_56 : decode prog_12_method_5_code 56 = .ok (.getfield 22, 3) := by decide +kernel
theorem d10_copy_59 : decode prog_12_method_5_code 59 = .ok (.iconst 0, 1) := by decide +kernel
theorem d10_copy_60 : decode prog_12_method_5_code 60 = .ok (.aload_n 0, 1) := by decide +kernel
theorem d10_copy_61 : decode prog_12_method_5_code 61 = .ok (.getfield 35, 3) := by decide +kernel
theorem d10_copy_64 : decode prog_12_method_5_code 64 = .ok (.invokestatic 41, 3) := by decide +kernel
theorem d10_copy_67 : decode prog_12_method_5_code 67 = .ok (.aload_n 0, 1) := by decide +kernel
theorem d10_copy_68 : decode prog_12_method_5_code 68 = .ok (.getfield 25, 3) := by decide +kernel
theorem d10_copy_71 : decode prog_12_method_5_code 71 = .ok (.iconst 0, 1) := by decide +kernel
theorem d10_copy_72 : decode prog_12_method_5_code 72 = .ok (.aload_n 1, 1) := by decide +kernel
theorem d10_copy_73 : decode prog_12_method_5_code 73 = .ok (.getfield 25, 3) := by decide +kernel
theorem d10_copy_76 : decode prog_12_method_5_code 76 = .ok (.iconst 0, 1) := by decide +kernel
theorem d10_copy_77 : decode prog_12_method_5_code 77 = .ok (.aload_n 0, 1) := by decide +kernel
theorem d10_copy_78 : decode prog_12_method_5_code 78 = .ok (.getfield 35, 3) := by decide +kernel
theorem d10_copy_81 : decode prog_12_method_5_code 81 = .ok (.invokestatic 41, 3) := by decide +kernel
theorem d10_copy_84 : decode prog_12_method_5_code 84 = .ok (.aload_n 0, 1) := by decide +kernel
theorem d10_copy_85 : decode prog_12_method_5_code 85 = .ok (.getfield 28, 3) := by decide +kernel
theorem d10_copy_88 : decode prog_12_method_5_code 88 = .ok (.iconst 0, 1) := by decide +kernel
theorem d10_copy_89 : decode prog_12_method_5_code 89 = .ok (.aload_n 1, 1) := by decide +kernel
theorem d10_copy_90 : decode prog_12_method_5_code 90 = .ok (.getfield 28, 3) := by decide +kernel
theorem d10_copy_93 : decode prog_12_method_5_code 93 = .ok (.iconst 0, 1) := by decide +kernel
theorem d10_copy_94 : decode prog_12_method_5_code 94 = .ok (.aload_n 0, 1) := by decide +kernel
theorem d10_copy_95 : decode prog_12_method_5_code 95 = .ok (.getfield 35, 3) := by decide +kernel
theorem d10_copy_98 : decode prog_12_method_5_code 98 = .ok (.invokestatic 41, 3) := by decide +kernel
theorem d10_copy_101 : decode prog_12_method_5_code 101 = .ok (.aload_n 1, 1) := by decide +kernel
theorem d10_copy_102 : decode prog_12_method_5_code 102 = .ok (.aload_n 0, 1) := by decide +kernel
theorem d10_copy_103 : decode prog_12_method_5_code 103 = .ok (.getfield 31, 3) := by decide +kernel
theorem d10_copy_106 : decode prog_12_method_5_code 106 = .ok (.putfield 31, 3) := by decide +kernel
theorem d10_copy_109 : decode prog_12_method_5_code 109 = .ok (.aload_n 1, 1) := by decide +kernel
theorem d10_copy_110 : decode prog_12_method_5_code 110 = .ok (.aload_n 0, 1) := by decide +kernel
theorem d10_copy_111 : decode prog_12_method_5_code 111 = .ok (.getfield 35, 3) := by decide +kernel
theorem d10_copy_114 : decode prog_12_method_5_code 114 = .ok (.putfield 35, 3) := by decide +kernel
theorem d10_copy_117 : decode prog_12_method_5_code 117 = .ok (.aload_n 1, 1) := by decide +kernel
theorem d10_copy_118 : decode prog_12_method_5_code 118 = .ok (.areturn, 1) := by decide +kernel
theorem d4_keep_0 : decode prog_6_method_4_code 0 = .ok (.iload_n 1, 1) := by decide +kernel
theorem d4_keep_1 : decode prog_6_method_4_code 1 = .ok (.bipush 12, 2) := by decide +kernel
theorem d4_keep_3 : decode prog_6_method_4_code 3 = .ok (.imul, 1) := by decide +kernel
theorem d4_keep_4 : decode prog_6_method_4_code 4 = .ok (.aload_n 0, 1) := by decide +kernel
theorem d4_keep_5 : decode prog_6_method_4_code 5 = .ok (.getfield 23, 3) := by decide +kernel
theorem d4_keep_8 : decode prog_6_method_4_code 8 = .ok (.iload_n 1, 1) := by decide +kernel
theorem d4_keep_9 : decode prog_6_method_4_code 9 = .ok (.aaload, 1) := by decide +kernel
theorem d4_keep_10 : decode prog_6_method_4_code 10 = .ok (.getfield 51, 3) := by decide +kernel
theorem d4_keep_13 : decode prog_6_method_4_code 13 = .ok (.iadd, 1) := by decide +kernel
theorem d4_keep_14 : decode prog_6_method_4_code 14 = .ok (.istore 4, 2) := by decide +kernel
theorem d4_keep_16 : decode prog_6_method_4_code 16 = .ok (.iload 4, 2) := by decide +kernel
theorem d4_keep_18 : decode prog_6_method_4_code 18 = .ok (.aload_n 0, 1) := by decide +kernel
theorem d4_keep_19 : decode prog_6_method_4_code 19 = .ok (.getfield 29, 3) := by decide +kernel
theorem d4_keep_22 : decode prog_6_method_4_code 22 = .ok (.arraylength, 1) := by decide +kernel
theorem d4_keep_23 : decode prog_6_method_4_code 23 = .ok (.if_icmp .ge 36, 3) := by decide +kernel
theorem d4_keep_26 : decode prog_6_method_4_code 26 = .ok (.aload_n 0, 1) := by decide +kernel
theorem d4_keep_27 : decode prog_6_method_4_code 27 = .ok (.getfield 23, 3) := by decide +kernel
theorem d4_keep_30 : decode prog_6_method_4_code 30 = .ok (.iload_n 1, 1) := by decide +kernel
theorem d4_keep_31 : decode prog_6_method_4_code 31 = .ok (.aaload, 1) := by decide +kernel
theorem d4_keep_32 : decode prog_6_method_4_code 32 = .ok (.iload_n 2, 1) := by decide +kernel
theorem d4_keep_33 : decode prog_6_method_4_code 33 = .ok (.iload 4, 2) := by decide +kernel
theorem d4_keep_35 : decode prog_6_method_4_code 35 = .ok (.iload_n 3, 1) := by decide +kernel
theorem d4_keep_36 : decode prog_6_method_4_code 36 = .ok (.invokevirtual 55, 3) := by decide +kernel
theorem d4_keep_39 : decode prog_6_method_4_code 39 = .ok (.ifCond .eq 20, 3) := by decide +kernel
theorem d4_keep_42 : decode prog_6_method_4_code 42 = .ok (.aload_n 0, 1) := by decide +kernel
theorem d4_keep_43 : decode prog_6_method_4_code 43 = .ok (.getfield 29, 3) := by decide +kernel
theorem d4_keep_46 : decode prog_6_method_4_code 46 = .ok (.iload 4, 2) := by decide +kernel
theorem d4_keep_48 : decode prog_6_method_4_code 48 = .ok (.aload_n 0, 1) := by decide +kernel
theorem d4_keep_49 : decode prog_6_method_4_code 49 = .ok (.getfield 36, 3) := by decide +kernel
theorem d4_keep_52 : decode prog_6_method_4_code 52 = .ok (.getfield 59, 3) := by decide +kernel
theorem d4_keep_55 : decode prog_6_method_4_code 55 = .ok (.invokevirtual 63, 3) := by decide +kernel
theorem d4_keep_58 : decode prog_6_method_4_code 58 = .ok (.aastore, 1) := by decide +kernel
theorem d4_keep_59 : decode prog_6_method_4_code 59 = .ok (.aload_n 0, 1) := by decide +kernel
theorem d4_keep_60 : decode prog_6_method_4_code 60 = .ok (.getfield 36, 3) := by decide +kernel
theorem d4_keep_63 : decode prog_6_method_4_code 63 = .ok (.getfield 59, 3) := by decide +kernel
theorem d4_keep_66 : decode prog_6_method_4_code 66 = .ok (.getfield 67, 3) := by decide +kernel
theorem d4_keep_69 : decode prog_6_method_4_code 69 = .ok (.ireturn, 1) := by decide +kernel
theorem dJ7_fill_53178_0 : decode prog_29_method_103_code 0 = .ok (.iconst 0, 1) := by decide +kernel
theorem dJ7_fill_53178_1 : decode prog_29_method_103_code 1 = .ok (.istore_n 2, 1) := by decide +kernel
theorem dJ7_fill_53178_2 : decode prog_29_method_103_code 2 = .ok (.aload_n 0, 1) := by decide +kernel
theorem dJ7_fill_53178_3 : decode prog_29_method_103_code 3 = .ok (.arraylength, 1) := by decide +kernel
theorem dJ7_fill_53178_4 : decode prog_29_method_103_code 4 = .ok (.istore_n 3, 1) := by decide +kernel
theorem dJ7_fill_53178_5 : decode prog_29_method_103_code 5 = .ok (.iload_n 2, 1) := by decide +kernel
theorem dJ7_fill_53178_6 : decode prog_29_method_103_code 6 = .ok (.iload_n 3, 1) := by decide +kernel
theorem dJ7_fill_53178_7 : decode prog_29_method_103_code 7 = .ok (.if_icmp .ge 13, 3) := by decide +kernel
theorem dJ7_fill_53178_10 : decode prog_29_method_103_code 10 = .ok (.aload_n 0, 1) := by decide +kernel
theorem dJ7_fill_53178_11 : decode prog_29_method_103_code 11 = .ok (.iload_n 2, 1) := by decide +kernel
theorem dJ7_fill_53178_12 : decode prog_29_method_103_code 12 = .ok (.iload_n 1, 1) := by decide +kernel
theorem dJ7_fill_53178_13 : decode prog_29_method_103_code 13 = .ok (.iastore, 1) := by decide +kernel
theorem dJ7_fill_53178_14 : decode prog_29_method_103_code 14 = .ok (.iinc 2 1, 3) := by decide +kernel
theorem dJ7_fill_53178_17 : decode prog_29_method_103_code 17 = .ok (.goto (-12), 3) := by decide +kernel
theorem dJ7_fill_53178_20 : decode prog_29_method_103_code 20 = .ok (.return_, 1) := by decide +kernel
theorem d4_giveStretch_0 : decode prog_6_method_7_code 0 = .ok (.aload_n 0, 1) := by decide +kernel
theorem d4_giveStretch_1 : decode prog_6_method_7_code 1 = .ok (.getfield 40, 3) := by decide +kernel
theorem d4_giveStretch_4 : decode prog_6_method_7_code 4 = .ok (.iconst 0, 1) := by decide +kernel
theorem d4_giveStretch_5 : decode prog_6_method_7_code 5 = .ok (.invokestatic 97, 3) := by decide +kernel
theorem d4_giveStretch_8 : decode prog_6_method_7_code 8 = .ok (.aload_n 0, 1) := by decide +kernel
theorem d4_giveStretch_9 : decode prog_6_method_7_code 9 = .ok (.getfield 40, 3) := by decide +kernel
theorem d4_giveStretch_12 : decode prog_6_method_7_code 12 = .ok (.iconst 1, 1) := by decide +kernel
theorem d4_giveStretch_13 : decode prog_6_method_7_code 13 = .ok (.iload_n 1, 1) := by decide +kernel
theorem d4_giveStretch_14 : decode prog_6_method_7_code 14 = .ok (.iastore, 1) := by decide +kernel
theorem d4_giveStretch_15 : decode prog_6_method_7_code 15 = .ok (.aload_n 0, 1) := by decide +kernel
theorem d4_giveStretch_16 : decode prog_6_method_7_code 16 = .ok (.getfield 40, 3) := by decide +kernel
theorem d4_giveStretch_19 : decode prog_6_method_7_code 19 = .ok (.iconst 2, 1) := by decide +kernel
theorem d4_giveStretch_20 : decode prog_6_method_7_code 20 = .ok (.aload_n 0, 1) := by decide +kernel
theorem d4_giveStretch_21 : decode prog_6_method_7_code 21 = .ok (.getfield 16, 3) := by decide +kernel
theorem d4_giveStretch_24 : decode prog_6_method_7_code 24 = .ok (.iload_n 2, 1) := by decide +kernel
theorem d4_giveStretch_25 : decode prog_6_method_7_code 25 = .ok (.iload_n 3, 1) := by decide +kernel
theorem d4_giveStretch_26 : decode prog_6_method_7_code 26 = .ok (.iconst 5, 1) := by decide +kernel
theorem d4_giveStretch_27 : decode prog_6_method_7_code 27 = .ok (.invokevirtual 68, 3) := by decide +kernel
theorem d4_giveStretch_30 : decode prog_6_method_7_code 30 = .ok (.iastore, 1) := by decide +kernel
theorem d4_giveStretch_31 : decode prog_6_method_7_code 31 = .ok (.aload_n 0, 1) := by decide +kernel
theorem d4_giveStretch_32 : decode prog_6_method_7_code 32 = .ok (.getfield 40, 3) := by decide +kernel
theorem d4_giveStretch_35 : decode prog_6_method_7_code 35 = .ok (.iconst 4, 1) := by decide +kernel
theorem d4_giveStretch_36 : decode prog_6_method_7_code 36 = .ok (.iload_n 2, 1) := by decide +kernel
theorem d4_giveStretch_37 : decode prog_6_method_7_code 37 = .ok (.iastore, 1) := by decide +kernel
theorem d4_giveStretch_38 : decode prog_6_method_7_code 38 = .ok (.return_, 1) := by decide +kernel
theorem d4_wordRule_0 : decode prog_6_method_8_code 0 = .ok (.aload_n 0, 1) := by decide +kernel
theorem d4_wordRule_1 : decode prog_6_method_8_code 1 = .ok (.iload_n 2, 1) := by decide +kernel
theorem d4_wordRule_2 : decode prog_6_method_8_code 2 = .ok (.iload_n 3, 1) := by decide +kernel
theorem d4_wordRule_3 : decode prog_6_method_8_code 3 = .ok (.iload 4, 2) := by decide +kernel
theorem d4_wordRule_5 : decode prog_6_method_8_code 5 = .ok (.iload 5, 2) := by decide +kernel
theorem d4_wordRule_7 : decode prog_6_method_8_code 7 = .ok (.invokevirtual 103, 3) := by decide +kernel
theorem d4_wordRule_10 : decode prog_6_method_8_code 10 = .ok (.aload_n 0, 1) := by decide +kernel
theorem d4_wordRule_11 : decode prog_6_method_8_code 11 = .ok (.aload_n 0, 1) := by decide +kernel
theorem d4_wordRule_12 : decode prog_6_method_8_code 12 = .ok (.iload_n 1, 1) := by decide +kernel
theorem d4_wordRule_13 : decode prog_6_method_8_code 13 = .ok (.iload 4, 2) := by decide +kernel
theorem d4_wordRule_15 : decode prog_6_method_8_code 15 = .ok (.iload 5, 2) := by decide +kernel
theorem d4_wordRule_17 : decode prog_6_method_8_code 17 = .ok (.invokevirtual 107, 3) := by decide +kernel
theorem d4_wordRule_20 : decode prog_6_method_8_code 20 = .ok (.sipush 257, 3) := by decide +kernel
theorem d4_wordRule_23 : decode prog_6_method_8_code 23 = .ok (.sipush 258, 3) := by decide +kernel
theorem d4_wordRule_26 : decode prog_6_method_8_code 26 = .ok (.invokevirtual 111, 3) := by decide +kernel
theorem d4_wordRule_29 : decode prog_6_method_8_code 29 = .ok (.ireturn, 1) := by decide +kernel
theorem d4_wayOn_0 : decode prog_6_method_11_code 0 = .ok (.aload_n 0, 1) := by decide +kernel
theorem d4_wayOn_1 : decode prog_6_method_11_code 1 = .ok (.iload_n 1, 1) := by decide +kernel
theorem d4_wayOn_2 : decode prog_6_method_11_code 2 = .ok (.iload_n 2, 1) := by decide +kernel
theorem d4_wayOn_3 : decode prog_6_method_11_code 3 = .ok (.iload_n 3, 1) := by decide +kernel
theorem d4_wayOn_4 : decode prog_6_method_11_code 4 = .ok (.invokevirtual 122, 3) := by decide +kernel
theorem d4_wayOn_7 : decode prog_6_method_11_code 7 = .ok (.iconst 0, 1) := by decide +kernel
theorem d4_wayOn_8 : decode prog_6_method_11_code 8 = .ok (.istore 4, 2) := by decide +kernel
theorem d4_wayOn_10 : decode prog_6_method_11_code 10 = .ok (.iconst 0, 1) := by decide +kernel
theorem d4_wayOn_11 : decode prog_6_method_11_code 11 = .ok (.istore 5, 2) := by decide +kernel
theorem d4_wayOn_13 : decode prog_6_method_11_code 13 = .ok (.iload 5, 2) := by decide +kernel
theorem d4_wayOn_15 : decode prog_6_method_11_code 15 = .ok (.iconst 2, 1) := by decide +kernel
theorem d4_wayOn_16 : decode prog_6_method_11_code 16 = .ok (.if_icmp .ge 58, 3) := by decide +kernel
theorem d4_wayOn_19 : decode prog_6_method_11_code 19 = .ok (.aload_n 0, 1) := by decide +kernel
theorem d4_wayOn_20 : decode prog_6_method_11_code 20 = .ok (.iload 5, 2) := by decide +kernel
theorem d4_wayOn_22 : decode prog_6_method_11_code 22 = .ok (.iload_n 2, 1) := by decide +kernel
theorem d4_wayOn_23 : decode prog_6_method_11_code 23 = .ok (.iload_n 3, 1) := by decide +kernel
theorem d4_wayOn_24 : decode prog_6_method_11_code 24 = .ok (.invokevirtual 107, 3) := by decide +kernel
theorem d4_wayOn_27 : decode prog_6_method_11_code 27 = .ok (.astore 6, 2) := by decide +kernel
theorem d4_wayOn_29 : decode prog_6_method_11_code 29 = .ok (.aload_n 0, 1) := by decide +kernel
theorem d4_wayOn_30 : decode prog_6_method_11_code 30 = .ok (.aload 6, 2) := by decide +kernel
theorem d4_wayOn_32 : decode prog_6_method_11_code 32 = .ok (.sipush 261, 3) := by decide +kernel
theorem d4_wayOn_35 : decode prog_6_method_11_code 35 = .ok (.sipush 261, 3) := by decide +kernel
theorem d4_wayOn_38 : decode prog_6_method_11_code 38 = .ok (.invokevirtual 111, 3) := by decide +kernel
theorem d4_wayOn_41 : decode prog_6_method_11_code 41 = .ok (.istore 7, 2) := by decide +kernel
theorem d4_wayOn_43 : decode prog_6_method_11_code 43 = .ok (.aload 6, 2) := by decide +kernel
theorem d4_wayOn_45 : decode prog_6_method_11_code 45 = .ok (.ifnull 23, 3) := by decide +kernel
theorem d4_wayOn_48 : decode prog_6_method_11_code 48 = .ok (.iload 7, 2) := by decide +kernel
theorem d4_wayOn_50 : decode prog_6_method_11_code 50 = .ok (.ifCond .lt 18, 3) := by decide +kernel
theorem d4_wayOn_53 : decode prog_6_method_11_code 53 = .ok (.iload 4, 2) := by decide +kernel
theorem d4_wayOn_55 : decode prog_6_method_11_code 55 = .ok (.aload 6, 2) := by decide +kernel
theorem d4_wayOn_57 : decode prog_6_method_11_code 57 = .ok (.getfield 126, 3) := by decide +kernel
theorem d4_wayOn_60 : decode prog_6_method_11_code 60 = .ok (.iload 7, 2) := by decide +kernel
theorem d4_wayOn_62 : decode prog_6_method_11_code 62 = .ok (.iaload, 1) := by decide +kernel
theorem d4_wayOn_63 : decode prog_6_method_11_code 63 = .ok (.invokestatic 129, 3) := by decide +kernel
theorem d4_wayOn_66 : decode prog_6_method_11_code 66 = .ok (.istore 4, 2) := by decide +kernel
theorem d4_wayOn_68 : decode prog_6_method_11_code 68 = .ok (.iinc 5 1, 3) := by decide +kernel
theorem d4_wayOn_71 : decode prog_6_method_11_code 71 = .ok (.goto (-58), 3) := by decide +kernel
theorem d4_wayOn_74 : decode prog_6_method_11_code 74 = .ok (.iload 4, 2) := by decide +kernel
theorem d4_wayOn_76 : decode prog_6_method_11_code 76 = .ok (.ireturn, 1) := by decide +kernel
theorem d5_init_0 : decode prog_7_method_1_code 0 = .ok (.aload_n 0, 1) := by decide +kernel
theorem d5_init_1 : decode prog_7_method_1_code 1 = .ok (.invokespecial 3, 3) := by decide +kernel
theorem d5_init_4 : decode prog_7_method_1_code 4 = .ok (.aload_n 0, 1) := by decide +kernel
theorem d5_init_5 : decode prog_7_method_1_code 5 = .ok (.iconst 3, 1) := by decide +kernel
theorem d5_init_6 : decode prog_7_method_1_code 6 = .ok (.newarray .int, 2) := by decide +kernel
theorem d5_init_8 : decode prog_7_method_1_code 8 = .ok (.putfield 9, 3) := by decide +kernel
theorem d5_init_11 : decode prog_7_method_1_code 11 = .ok (.aload_n 0, 1) := by decide +kernel
theorem d5_init_12 : decode prog_7_method_1_code 12 = .ok (.iconst 3, 1) := by decide +kernel
theorem d5_init_13 : decode prog_7_method_1_code 13 = .ok (.newarray .int, 2) := by decide +kernel
theorem d5_init_15 : decode prog_7_method_1_code 15 = .ok (.putfield 15, 3) := by decide +kernel
theorem d5_init_18 : decode prog_7_method_1_code 18 = .ok (.aload_n 0, 1) := by decide +kernel
theorem d5_init_19 : decode prog_7_method_1_code 19 = .ok (.bipush 6, 2) := by decide +kernel
theorem d5_init_21 : decode prog_7_method_1_code 21 = .ok (.newarray .int, 2) := by decide +kernel
theorem d5_init_23 : decode prog_7_method_1_code 23 = .ok (.putfield 18, 3) := by decide +kernel
theorem d5_init_26 : decode prog_7_method_1_code 26 = .ok (.aload_n 0, 1) := by decide +kernel
theorem d5_init_27 : decode prog_7_method_1_code 27 = .ok (.bipush 72, 2) := by decide +kernel
theorem d5_init_29 : decode prog_7_method_1_code 29 = .ok (.newarray .int, 2) := by decide +kernel
theorem d5_init_31 : decode prog_7_method_1_code 31 = .ok (.putfield 21, 3) := by decide +kernel
theorem d5_init_34 : decode prog_7_method_1_code 34 = .ok (.aload_n 0, 1) := by decide +kernel
theorem d5_init_35 : decode prog_7_method_1_code 35 = .ok (.bipush 72, 2) := by decide +kernel
theorem d5_init_37 : decode prog_7_method_1_code 37 = .ok (.newarray .int, 2) := by decide +kernel
theorem d5_init_39 : decode prog_7_method_1_code 39 = .ok (.putfield 24, 3) := by decide +kernel
theorem d5_init_42 : decode prog_7_method_1_code 42 = .ok (.aload_n 0, 1) := by decide +kernel
theorem d5_init_43 : decode prog_7_method_1_code 43 = .ok (.aload_n 1, 1) := by decide +kernel
theorem d5_init_44 : decode prog_7_method_1_code 44 = .ok (.putfield 27, 3) := by decide +kernel
theorem d5_init_47 : decode prog_7_method_1_code 47 = .ok (.aload_n 0, 1) := by decide +kernel
theorem d5_init_48 : decode prog_7_method_1_code 48 = .ok (.aload_n 2, 1) := by decide +kernel
theorem d5_init_49 : decode prog_7_method_1_code 49 = .ok (.putfield 31, 3) := by decide +kernel
theorem d5_init_52 : decode prog_7_method_1_code 52 = .ok (.return_, 1) := by decide +kernel
theorem d5_reach_0 : decode prog_7_method_7_code 0 = .ok (.iload_n 2, 1) := by decide +kernel
theorem d5_reach_1 : decode prog_7_method_7_code 1 = .ok (.ifCond .lt 19, 3) := by decide +kernel
theorem d5_reach_4 : decode prog_7_method_7_code 4 = .ok (.iload_n 2, 1) := by decide +kernel
theorem d5_reach_5 : decode prog_7_method_7_code 5 = .ok (.bipush 6, 2) := by decide +kernel
theorem d5_reach_7 : decode prog_7_method_7_code 7 = .ok (.if_icmp .ge 13, 3) := by decide +kernel
theorem d5_reach_10 : decode prog_7_method_7_code 10 = .ok (.iload_n 3, 1) := by decide +kernel
theorem d5_reach_11 : decode prog_7_method_7_code 11 = .ok (.ifCond .lt 9, 3) := by decide +kernel
theorem d5_reach_14 : decode prog_7_method_7_code 14 = .ok (.iload_n 3, 1) := by decide +kernel
theorem d5_reach_15 : decode prog_7_method_7_code 15 = .ok (.bipush 12, 2) := by decide +kernel
theorem d5_reach_17 : decode prog_7_method_7_code 17 = .ok (.if_icmp .lt 4, 3) := by decide +kernel
theorem d5_reach_20 : decode prog_7_method_7_code 20 = .ok (.return_, 1) := by decide +kernel
theorem d5_reach_21 : decode prog_7_method_7_code 21 = .ok (.iload_n 2, 1) := by decide +kernel
theorem d5_reach_22 : decode prog_7_method_7_code 22 = .ok (.bipush 12, 2) := by decide +kernel
theorem d5_reach_24 : decode prog_7_method_7_code 24 = .ok (.imul, 1) := by decide +kernel
theorem d5_reach_25 : decode prog_7_method_7_code 25 = .ok (.iload_n 3, 1) := by decide +kernel
theorem d5_reach_26 : decode prog_7_method_7_code 26 = .ok (.iadd, 1) := by decide +kernel
theorem d5_reach_27 : decode prog_7_method_7_code 27 = .ok (.istore 5, 2) := by decide +kernel
theorem d5_reach_29 : decode prog_7_method_7_code 29 = .ok (.aload_n 0, 1) := by decide +kernel
theorem d5_reach_30 : decode prog_7_method_7_code 30 = .ok (.getfield 21, 3) := by decide +kernel
theorem d5_reach_33 : decode prog_7_method_7_code 33 = .ok (.iload 5, 2) := by decide +kernel
theorem d5_reach_35 : decode prog_7_method_7_code 35 = .ok (.iaload, 1) := by decide +kernel
theorem d5_reach_36 : decode prog_7_method_7_code 36 = .ok (.iconst (-1), 1) := by decide +kernel
theorem d5_reach_37 : decode prog_7_method_7_code 37 = .ok (.if_icmp .ne 12, 3) := by decide +kernel
theorem d5_reach_40 : decode prog_7_method_7_code 40 = .ok (.aload_n 0, 1) := by decide +kernel
theorem d5_reach_41 : decode prog_7_method_7_code 41 = .ok (.getfield 77, 3) := by decide +kernel
theorem d5_reach_44 : decode prog_7_method_7_code 44 = .ok (.bipush 72, 2) := by decide +kernel
theorem d5_reach_46 : decode prog_7_method_7_code 46 = .ok (.if_icmp .lt 4, 3) := by decide +kernel
theorem d5_reach_49 : decode prog_7_method_7_code 49 = .ok (.return_, 1) := by decide +kernel
theorem d5_reach_50 : decode prog_7_method_7_code 50 = .ok (.aload_n 0, 1) := by decide +kernel
theorem d5_reach_51 : decode prog_7_method_7_code 51 = .ok (.getfield 27, 3) := by decide +kernel
theorem d5_reach_54 : decode prog_7_method_7_code 54 = .ok (.iload 5, 2) := by decide +kernel
theorem d5_reach_56 : decode prog_7_method_7_code 56 = .ok (.aload_n 0, 1) := by decide +kernel
theorem d5_reach_57 : decode prog_7_method_7_code 57 = .ok (.getfield 18, 3) := by decide +kernel
theorem d5_reach_60 : decode prog_7_method_7_code 60 = .ok (.invokevirtual 98, 3) := by decide +kernel
theorem d5_reach_63 : decode prog_7_method_7_code 63 = .ok (.iconst (-1), 1) := by decide +kernel
theorem d5_reach_64 : decode prog_7_method_7_code 64 = .ok (.if_icmp .ne 50, 3) := by decide +kernel
theorem d5_reach_67 : decode prog_7_method_7_code 67 = .ok (.aload_n 0, 1) := by decide +kernel
theorem d5_reach_68 : decode prog_7_method_7_code 68 = .ok (.getfield 27, 3) := by decide +kernel
theorem d5_reach_71 : decode prog_7_method_7_code 71 = .ok (.iload 5, 2) := by decide +kernel
theorem d5_reach_73 : decode prog_7_method_7_code 73 = .ok (.iload_n 1, 1) := by decide +kernel
theorem d5_reach_74 : decode prog_7_method_7_code 74 = .ok (.aload_n 0, 1) := by decide +kernel
theorem d5_reach_75 : decode prog_7_method_7_code 75 = .ok (.getfield 41, 3) := by decide +kernel
theorem d5_reach_78 : decode prog_7_method_7_code 78 = .ok (.invokevirtual 102, 3) := by decide +kernel
theorem d5_reach_81 : decode prog_7_method_7_code 81 = .ok (.ifCond .eq 33, 3) := by decide +kernel
theorem d5_reach_84 : decode prog_7_method_7_code 84 = .ok (.aload_n 0, 1) := by decide +kernel
theorem d5_reach_85 : decode prog_7_method_7_code 85 = .ok (.getfield 21, 3) := by decide +kernel
theorem d5_reach_88 : decode prog_7_method_7_code 88 = .ok (.iload 5, 2) := by decide +kernel
theorem d5_reach_90 : decode prog_7_method_7_code 90 = .ok (.iload 4, 2) := by decide +kernel
theorem d5_reach_92 : decode prog_7_method_7_code 92 = .ok (.iastore, 1) := by decide +kernel
theorem d5_reach_93 : decode prog_7_method_7_code 93 = .ok (.aload_n 0, 1) := by decide +kernel
theorem d5_reach_94 : decode prog_7_method_7_code 94 = .ok (.getfield 24, 3) := by decide +kernel
theorem d5_reach_97 : decode prog_7_method_7_code 97 = .ok (.aload_n 0, 1) := by decide +kernel
theorem d5_reach_98 : decode prog_7_method_7_code 98 = .ok (.getfield 77, 3) := by decide +kernel
theorem d5_reach_101 : decode prog_7_method_7_code 101 = .ok (.iload 5, 2) := by decide +kernel
theorem d5_reach_103 : decode prog_7_method_7_code 103 = .ok (.iastore, 1) := by decide +kernel
theorem d5_reach_104 : decode prog_7_method_7_code 104 = .ok (.aload_n 0, 1) := by decide +kernel
theorem d5_reach_105 : decode prog_7_method_7_code 105 = .ok (.dup, 1) := by decide +kernel
theorem d5_reach_106 : decode prog_7_method_7_code 106 = .ok (.getfield 77, 3) := by decide +kernel
theorem d5_reach_109 : decode prog_7_method_7_code 109 = .ok (.iconst 1, 1) := by decide +kernel
theorem d5_reach_110 : decode prog_7_method_7_code 110 = .ok (.iadd, 1) := by decide +kernel
theorem d5_reach_111 : decode prog_7_method_7_code 111 = .ok (.putfield 77, 3) := by decide +kernel
theorem d5_reach_114 : decode prog_7_method_7_code 114 = .ok (.return_, 1) := by decide +kernel
theorem d5_begin_0 : decode prog_7_method_6_code 0 = .ok (.aload_n 0, 1) := by decide +kernel
theorem d5_begin_1 : decode prog_7_method_6_code 1 = .ok (.getfield 18, 3) := by decide +kernel
theorem d5_begin_4 : decode prog_7_method_6_code 4 = .ok (.iload_n 1, 1) := by decide +kernel
theorem d5_begin_5 : decode prog_7_method_6_code 5 = .ok (.iaload, 1) := by decide +kernel
theorem d5_begin_6 : decode prog_7_method_6_code 6 = .ok (.invokestatic 95, 3) := by decide +kernel
theorem d5_begin_9 : decode prog_7_method_6_code 9 = .ok (.ifCond .eq 33, 3) := by decide +kernel
theorem d5_begin_12 : decode prog_7_method_6_code 12 = .ok (.aload_n 0, 1) := by decide +kernel
theorem d5_begin_13 : decode prog_7_method_6_code 13 = .ok (.getfield 21, 3) := by decide +kernel
theorem d5_begin_16 : decode prog_7_method_6_code 16 = .ok (.aload_n 0, 1) := by decide +kernel
theorem d5_begin_17 : decode prog_7_method_6_code 17 = .ok (.getfield 18, 3) := by decide +kernel
theorem d5_begin_20 : decode prog_7_method_6_code 20 = .ok (.iload_n 1, 1) := by decide +kernel
theorem d5_begin_21 : decode prog_7_method_6_code 21 = .ok (.iaload, 1) := by decide +kernel
theorem d5_begin_22 : decode prog_7_method_6_code 22 = .ok (.iconst 0, 1) := by decide +kernel
theorem d5_begin_23 : decode prog_7_method_6_code 23 = .ok (.iastore, 1) := by decide +kernel
theorem d5_begin_24 : decode prog_7_method_6_code 24 = .ok (.aload_n 0, 1) := by decide +kernel
theorem d5_begin_25 : decode prog_7_method_6_code 25 = .ok (.getfield 24, 3) := by decide +kernel
theorem d5_begin_28 : decode prog_7_method_6_code 28 = .ok (.iconst 0, 1) := by decide +kernel
theorem d5_begin_29 : decode prog_7_method_6_code 29 = .ok (.aload_n 0, 1) := by decide +kernel
theorem d5_begin_30 : decode prog_7_method_6_code 30 = .ok (.getfield 18, 3) := by decide +kernel
theorem d5_begin_33 : decode prog_7_method_6_code 33 = .ok (.iload_n 1, 1) := by decide +kernel
theorem d5_begin_34 : decode prog_7_method_6_code 34 = .ok (.iaload, 1) := by decide +kernel
theorem d5_begin_35 : decode prog_7_method_6_code 35 = .ok (.iastore, 1) := by decide +kernel
theorem d5_begin_36 : decode prog_7_method_6_code 36 = .ok (.aload_n 0, 1) := by decide +kernel
theorem d5_begin_37 : decode prog_7_method_6_code 37 = .ok (.iconst 1, 1) := by decide +kernel
theorem d5_begin_38 : decode prog_7_method_6_code 38 = .ok (.putfield 77, 3) := by decide +kernel
theorem d5_begin_41 : decode prog_7_method_6_code 41 = .ok (.return_, 1) := by decide +kernel
theorem d5_begin_42 : decode prog_7_method_6_code 42 = .ok (.iconst 0, 1) := by decide +kernel
theorem d5_begin_43 : decode prog_7_method_6_code 43 = .ok (.istore_n 2, 1) := by decide +kernel
theorem d5_begin_44 : decode prog_7_method_6_code 44 = .ok (.iload_n 2, 1) := by decide +kernel
theorem d5_begin_45 : decode prog_7_method_6_code 45 = .ok (.bipush 12, 2) := by decide +kernel
theorem d5_begin_47 : decode prog_7_method_6_code 47 = .ok (.if_icmp .ge 25, 3) := by decide +kernel
theorem d5_begin_50 : decode prog_7_method_6_code 50 = .ok (.aload_n 0, 1) := by decide +kernel
theorem d5_begin_51 : decode prog_7_method_6_code 51 = .ok (.iload_n 1, 1) := by decide +kernel
theorem d5_begin_52 : decode prog_7_method_6_code 52 = .ok (.iconst 0, 1) := by decide +kernel
theorem d5_begin_53 : decode prog_7_method_6_code 53 = .ok (.iload_n 2, 1) := by decide +kernel
theorem d5_begin_54 : decode prog_7_method_6_code 54 = .ok (.iconst 1, 1) := by decide +kernel
theorem d5_begin_55 : decode prog_7_method_6_code 55 = .ok (.invokevirtual 91, 3) := by decide +kernel
theorem d5_begin_58 : decode prog_7_method_6_code 58 = .ok (.aload_n 0, 1) := by decide +kernel
theorem d5_begin_59 : decode prog_7_method_6_code 59 = .ok (.iload_n 1, 1) := by decide +kernel
theorem d5_begin_60 : decode prog_7_method_6_code 60 = .ok (.iconst 5, 1) := by decide +kernel
theorem d5_begin_61 : decode prog_7_method_6_code 61 = .ok (.iload_n 2, 1) := by decide +kernel
theorem d5_begin_62 : decode prog_7_method_6_code 62 = .ok (.iconst 1, 1) := by decide +kernel
theorem d5_begin_63 : decode prog_7_method_6_code 63 = .ok (.invokevirtual 91, 3) := by decide +kernel
theorem d5_begin_66 : decode prog_7_method_6_code 66 = .ok (.iinc 2 1, 3) := by decide +kernel
theorem d5_begin_69 : decode prog_7_method_6_code 69 = .ok (.goto (-25), 3) := by decide +kernel
theorem d5_begin_72 : decode prog_7_method_6_code 72 = .ok (.return_, 1) := by decide +kernel
theorem d5_fewestSteps_0 : decode prog_7_method_5_code 0 = .ok (.aload_n 0, 1) := by decide +kernel
theorem d5_fewestSteps_1 : decode prog_7_method_5_code 1 = .ok (.getfield 21, 3) := by decide +kernel
theorem d5_fewestSteps_4 : decode prog_7_method_5_code 4 = .ok (.iconst (-1), 1) := by decide +kernel
theorem d5_fewestSteps_5 : decode prog_7_method_5_code 5 = .ok (.invokestatic 71, 3) := by decide +kernel
theorem d5_fewestSteps_8 : decode prog_7_method_5_code 8 = .ok (.aload_n 0, 1) := by decide +kernel
theorem d5_fewestSteps_9 : decode prog_7_method_5_code 9 = .ok (.iconst 0, 1) := by decide +kernel
theorem d5_fewestSteps_10 : decode prog_7_method_5_code 10 = .ok (.putfield 77, 3) := by decide +kernel
theorem d5_fewestSteps_13 : decode prog_7_method_5_code 13 = .ok (.aload_n 0, 1) := by decide +kernel
theorem d5_fewestSteps_14 : decode prog_7_method_5_code 14 = .ok (.iload_n 1, 1) := by decide +kernel
theorem d5_fewestSteps_15 : decode prog_7_method_5_code 15 = .ok (.invokevirtual 80, 3) := by decide +kernel
theorem d5_fewestSteps_18 : decode prog_7_method_5_code 18 = .ok (.iconst 0, 1) := by decide +kernel
theorem d5_fewestSteps_19 : decode prog_7_method_5_code 19 = .ok (.istore_n 3, 1) := by decide +kernel
theorem d5_fewestSteps_20 : decode prog_7_method_5_code 20 = .ok (.iload_n 3, 1) := by decide +kernel
theorem d5_fewestSteps_21 : decode prog_7_method_5_code 21 = .ok (.aload_n 0, 1) := by decide +kernel
theorem d5_fewestSteps_22 : decode prog_7_method_5_code 22 = .ok (.getfield 77, 3) := by decide +kernel
theorem d5_fewestSteps_25 : decode prog_7_method_5_code 25 = .ok (.if_icmp .ge 140, 3) := by decide +kernel
theorem d5_fewestSteps_28 : decode prog_7_method_5_code 28 = .ok (.iload_n 3, 1) := by decide +kernel
theorem d5_fewestSteps_29 : decode prog_7_method_5_code 29 = .ok (.bipush 72, 2) := by decide +kernel
theorem d5_fewestSteps_31 : decode prog_7_method_5_code 31 = .ok (.if_icmp .ge 134, 3) := by decide +kernel
theorem d5_fewestSteps_34 : decode prog_7_method_5_code 34 = .ok (.aload_n 0, 1) := by decide +kernel
theorem d5_fewestSteps_35 : decode prog_7_method_5_code 35 = .ok (.getfield 24, 3) := by decide +kernel
theorem d5_fewestSteps_38 : decode prog_7_method_5_code 38 = .ok (.iload_n 3, 1) := by decide +kernel
theorem d5_fewestSteps_39 : decode prog_7_method_5_code 39 = .ok (.iaload, 1) := by decide +kernel
theorem d5_fewestSteps_40 : decode prog_7_method_5_code 40 = .ok (.istore 4, 2) := by decide +kernel
theorem d5_fewestSteps_42 : decode prog_7_method_5_code 42 = .ok (.iload 4, 2) := by decide +kernel
theorem d5_fewestSteps_44 : decode prog_7_method_5_code 44 = .ok (.invokestatic 84, 3) := by decide +kernel
theorem d5_fewestSteps_47 : decode prog_7_method_5_code 47 = .ok (.istore 5, 2) := by decide +kernel
theorem d5_fewestSteps_49 : decode prog_7_method_5_code 49 = .ok (.iload 4, 2) := by decide +kernel
theorem d5_fewestSteps_51 : decode prog_7_method_5_code 51 = .ok (.invokestatic 88, 3) := by decide +kernel
theorem d5_fewestSteps_54 : decode prog_7_method_5_code 54 = .ok (.istore 6, 2) := by decide +kernel
theorem d5_fewestSteps_56 : decode prog_7_method_5_code 56 = .ok (.iload 4, 2) := by decide +kernel
theorem d5_fewestSteps_58 : decode prog_7_method_5_code 58 = .ok (.iload_n 2, 1) := by decide +kernel
theorem d5_fewestSteps_59 : decode prog_7_method_5_code 59 = .ok (.if_icmp .ne 11, 3) := by decide +kernel
theorem d5_fewestSteps_62 : decode prog_7_method_5_code 62 = .ok (.aload_n 0, 1) := by decide +kernel
theorem d5_fewestSteps_63 : decode prog_7_method_5_code 63 = .ok (.getfield 21, 3) := by decide +kernel
theorem d5_fewestSteps_66 : decode prog_7_method_5_code 66 = .ok (.iload 4, 2) := by decide +kernel
theorem d5_fewestSteps_68 : decode prog_7_method_5_code 68 = .ok (.iaload, 1) := by decide +kernel
theorem d5_fewestSteps_69 : decode prog_7_method_5_code 69 = .ok (.ireturn, 1) := by decide +kernel
theorem d5_fewestSteps_70 : decode prog_7_method_5_code 70 = .ok (.iload_n 2, 1) := by decide +kernel
theorem d5_fewestSteps_71 : decode prog_7_method_5_code 71 = .ok (.iconst (-1), 1) := by decide +kernel
theorem d5_fewestSteps_72 : decode prog_7_method_5_code 72 = .ok (.if_icmp .ne 24, 3) := by decide +kernel
theorem d5_fewestSteps_75 : decode prog_7_method_5_code 75 = .ok (.iload 5, 2) := by decide +kernel
theorem d5_fewestSteps_77 : decode prog_7_method_5_code 77 = .ok (.ifCond .eq 9, 3) := by decide +kernel
theorem d5_fewestSteps_80 : decode prog_7_method_5_code 80 = .ok (.iload 5, 2) := by decide +kernel
theorem d5_fewestSteps_82 : decode prog_7_method_5_code 82 = .ok (.iconst 5, 1) := by decide +kernel
theorem d5_fewestSteps_83 : decode prog_7_method_5_code 83 = .ok (.if_icmp .ne 13, 3) := by decide +kernel
theorem d5_fewestSteps_86 : decode prog_7_method_5_code 86 = .ok (.aload_n 0, 1) := by decide +kernel
theorem d5_fewestSteps_87 : decode prog_7_method_5_code 87 = .ok (.getfield 21, 3) := by decide +kernel
theorem d5_fewestSteps_90 : decode prog_7_method_5_code 90 = .ok (.iload 4, 2) := by decide +kernel
theorem d5_fewestSteps_92 : decode prog_7_method_5_code 92 = .ok (.iaload, 1) := by decide +kernel
theorem d5_fewestSteps_93 : decode prog_7_method_5_code 93 = .ok (.iconst 1, 1) := by decide +kernel
theorem d5_fewestSteps_94 : decode prog_7_method_5_code 94 = .ok (.iadd, 1) := by decide +kernel
theorem d5_fewestSteps_95 : decode prog_7_method_5_code 95 = .ok (.ireturn, 1) := by decide +kernel
theorem d5_fewestSteps_96 : decode prog_7_method_5_code 96 = .ok (.aload_n 0, 1) := by decide +kernel
theorem d5_fewestSteps_97 : decode prog_7_method_5_code 97 = .ok (.getfield 21, 3) := by decide +kernel
theorem d5_fewestSteps_100 : decode prog_7_method_5_code 100 = .ok (.iload 4, 2) := by decide +kernel
theorem d5_fewestSteps_102 : decode prog_7_method_5_code 102 = .ok (.iaload, 1) := by decide +kernel
theorem d5_fewestSteps_103 : decode prog_7_method_5_code 103 = .ok (.iconst 1, 1) := by decide +kernel
theorem d5_fewestSteps_104 : decode prog_7_method_5_code 104 = .ok (.iadd, 1) := by decide +kernel
theorem d5_fewestSteps_105 : decode prog_7_method_5_code 105 = .ok (.istore 7, 2) := by decide +kernel
theorem d5_fewestSteps_107 : decode prog_7_method_5_code 107 = .ok (.aload_n 0, 1) := by decide +kernel
theorem d5_fewestSteps_108 : decode prog_7_method_5_code 108 = .ok (.iload_n 1, 1) := by decide +kernel
theorem d5_fewestSteps_109 : decode prog_7_method_5_code 109 = .ok (.iload 5, 2) := by decide +kernel
theorem d5_fewestSteps_111 : decode prog_7_method_5_code 111 = .ok (.iconst 1, 1) := by decide +kernel
theorem d5_fewestSteps_112 : decode prog_7_method_5_code 112 = .ok (.isub, 1) := by decide +kernel
theorem d5_fewestSteps_113 : decode prog_7_method_5_code 113 = .ok (.iload 6, 2) := by decide +kernel
theorem d5_fewestSteps_115 : decode prog_7_method_5_code 115 = .ok (.iload 7, 2) := by decide +kernel
theorem d5_fewestSteps_117 : decode prog_7_method_5_code 117 = .ok (.invokevirtual 91, 3) := by decide +kernel
theorem d5_fewestSteps_120 : decode prog_7_method_5_code 120 = .ok (.aload_n 0, 1) := by decide +kernel
theorem d5_fewestSteps_121 : decode prog_7_method_5_code 121 = .ok (.iload_n 1, 1) := by decide +kernel
theorem d5_fewestSteps_122 : decode prog_7_method_5_code 122 = .ok (.iload 5, 2) := by decide +kernel
theorem d5_fewestSteps_124 : decode prog_7_method_5_code 124 = .ok (.iconst 1, 1) := by decide +kernel
theorem d5_fewestSteps_125 : decode prog_7_method_5_code 125 = .ok (.iadd, 1) := by decide +kernel
theorem d5_fewestSteps_126 : decode prog_7_method_5_code 126 = .ok (.iload 6, 2) := by decide +kernel
theorem d5_fewestSteps_128 : decode prog_7_method_5_code 128 = .ok (.iload 7, 2) := by decide +kernel
theorem d5_fewestSteps_130 : decode prog_7_method_5_code 130 = .ok (.invokevirtual 91, 3) := by decide +kernel
theorem d5_fewestSteps_133 : decode prog_7_method_5_code 133 = .ok (.aload_n 0, 1) := by decide +kernel
theorem d5_fewestSteps_134 : decode prog_7_method_5_code 134 = .ok (.iload_n 1, 1) := by decide +kernel
theorem d5_fewestSteps_135 : decode prog_7_method_5_code 135 = .ok (.iload 5, 2) := by decide +kernel
theorem d5_fewestSteps_137 : decode prog_7_method_5_code 137 = .ok (.iload 6, 2) := by decide +kernel
theorem d5_fewestSteps_139 : decode prog_7_method_5_code 139 = .ok (.iconst 1, 1) := by decide +kernel
theorem d5_fewestSteps_140 : decode prog_7_method_5_code 140 = .ok (.isub, 1) := by decide +kernel
theorem d5_fewestSteps_141 : decode prog_7_method_5_code 141 = .ok (.iload 7, 2) := by decide +kernel
theorem d5_fewestSteps_143 : decode prog_7_method_5_code 143 = .ok (.invokevirtual 91, 3) := by decide +kernel
theorem d5_fewestSteps_146 : decode prog_7_method_5_code 146 = .ok (.aload_n 0, 1) := by decide +kernel
theorem d5_fewestSteps_147 : decode prog_7_method_5_code 147 = .ok (.iload_n 1, 1) := by decide +kernel
theorem d5_fewestSteps_148 : decode prog_7_method_5_code 148 = .ok (.iload 5, 2) := by decide +kernel
theorem d5_fewestSteps_150 : decode prog_7_method_5_code 150 = .ok (.iload 6, 2) := by decide +kernel
theorem d5_fewestSteps_152 : decode prog_7_method_5_code 152 = .ok (.iconst 1, 1) := by decide +kernel
theorem d5_fewestSteps_153 : decode prog_7_method_5_code 153 = .ok (.iadd, 1) := by decide +kernel
theorem d5_fewestSteps_154 : decode prog_7_method_5_code 154 = .ok (.iload 7, 2) := by decide +kernel
theorem d5_fewestSteps_156 : decode prog_7_method_5_code 156 = .ok (.invokevirtual 91, 3) := by decide +kernel
theorem d5_fewestSteps_159 : decode prog_7_method_5_code 159 = .ok (.iinc 3 1, 3) := by decide +kernel
theorem d5_fewestSteps_162 : decode prog_7_method_5_code 162 = .ok (.goto (-142), 3) := by decide +kernel
theorem d5_fewestSteps_165 : decode prog_7_method_5_code 165 = .ok (.iconst (-1), 1) := by decide +kernel
theorem d5_fewestSteps_166 : decode prog_7_method_5_code 166 = .ok (.ireturn, 1) := by decide +kernel
theorem d6_has_0 : decode prog_8_method_3_code 0 = .ok (.iload_n 1, 1) := by decide +kernel
theorem d6_has_1 : decode prog_8_method_3_code 1 = .ok (.ifCond .lt 25, 3) := by decide +kernel
theorem d6_has_4 : decode prog_8_method_3_code 4 = .ok (.iload_n 1, 1) := by decide +kernel
theorem d6_has_5 : decode prog_8_method_3_code 5 = .ok (.bipush 6, 2) := by decide +kernel
theorem d6_has_7 : decode prog_8_method_3_code 7 = .ok (.if_icmp .ge 19, 3) := by decide +kernel
theorem d6_has_10 : decode prog_8_method_3_code 10 = .ok (.aload_n 0, 1) := by decide +kernel
theorem d6_has_11 : decode prog_8_method_3_code 11 = .ok (.getfield 49, 3) := by decide +kernel
theorem d6_has_14 : decode prog_8_method_3_code 14 = .ok (.iload_n 1, 1) := by decide +kernel
theorem d6_has_15 : decode prog_8_method_3_code 15 = .ok (.ishr, 1) := by decide +kernel
theorem d6_has_16 : decode prog_8_method_3_code 16 = .ok (.iconst 1, 1) := by decide +kernel
theorem d6_has_17 : decode prog_8_method_3_code 17 = .ok (.iand, 1) := by decide +kernel
theorem d6_has_18 : decode prog_8_method_3_code 18 = .ok (.iconst 1, 1) := by decide +kernel
theorem d6_has_19 : decode prog_8_method_3_code 19 = .ok (.if_icmp .ne 7, 3) := by decide +kernel
theorem d6_has_22 : decode prog_8_method_3_code 22 = .ok (.iconst 1, 1) := by decide +kernel
theorem d6_has_23 : decode prog_8_method_3_code 23 = .ok (.goto 4, 3) := by decide +kernel
theorem d6_has_26 : decode prog_8_method_3_code 26 = .ok (.iconst 0, 1) := by decide +kernel
theorem d6_has_27 : decode prog_8_method_3_code 27 = .ok (.ireturn, 1) := by decide +kernel
abbrev m7_init : MD := ("MillBoats$Reader", ⟨"MillBoats$Reader", "<init>", "()V"⟩, prog_9_method_1_code, 1, (none : Option Jvm.ClassFile.FieldType))
theorem k7_init : okY m7_init.2.1 0 := ⟨by decide +kernel, by decide +kernel, by decide +kernel⟩
def f7_init (σ : St) (v0 : Nat) : Option (Unit × St) :=
  lt (sN σ + 1) fun b1 => (
  gd (szOk (401 : Int32)) (
  lt (wN σ 14 (ix (401 : Int32))) fun t4 => (
  gd (ob t4 v0 7) (
  lt (wR t4 v0 0 b1) fun t7 => (
  lt (sN t7 + 1) fun b9 => (
  gd (szOk (401 : Int32)) (
  lt (wN t7 14 (ix (401 : Int32))) fun t12 => (
  lt (wR t12 v0 1 b9) fun t14 => (
  lt (sN t14 + 1) fun b16 => (
  gd (szOk (401 : Int32)) (
  lt (wN t14 15 (ix (401 : Int32))) fun t19 => (
  lt (wR t19 v0 2 b16) fun t21 => (
  lt (sN t21 + 1) fun b23 => (
  gd (szOk (10 : Int32)) (
  lt (wN t21 15 (ix (10 : Int32))) fun t26 => (
  lt (wR t26 v0 3 b23) fun t28 => (
  lt (sN t28 + 1) fun b30 => (
  gd (szOk (15 : Int32)) (
  lt (wN t28 15 (ix (15 : Int32))) fun t33 => (
  lt (wR t33 v0 4 b30) fun t35 => (
  lt (sN t35 + 1) fun b37 => (
  lt (wN t35 10 7) fun t39 => (
  bd (f10_init t39 b37 (400 : Int32) (20 : Int32)) fun r41 t42 => (
  lt (wR t42 v0 5 b37) fun t45 => (
  lt (wI t45 v0 12 (-1 : Int32)) fun t47 => (
  lt (sR t47 v0 3) fun b49 => (
  gd (nz b49) (
  bd (f7_spell t47 0 b49) fun r52 t53 => (
  lt (sR t53 v0 4) fun b56 => (
  gd (nz b56) (
  bd (f7_spell t53 1 b56) fun r59 t60 => (
  some ((), t60)))))))))))))))))))))))))))))))))
set_option maxRecDepth 50000 in
theorem s7_init : ∀ (σ : St) (v0 : Nat) (r : Unit) (τ : St), f7_init σ v0 = some (r, τ) → Call 9 m7_init [.ref v0] σ none τ := by
  intro σ v0 r τ hf
  unfold f7_init at hf
  refine Call.of (by decide +kernel) rfl (Nat.le_of_ble_eq_true rfl) ?_
  refine ev_aload_n (j := 0) (i := 0) (q := 0) rfl rfl d7_init_0 ?_
  refine ev_objInit w176 w32 w33 (by decide) (Nat.le_of_ble_eq_true rfl) d7_init_1 ?_
  refine ev_aload_n (j := 0) (i := 0) (q := 0) rfl rfl d7_init_4 ?_
  refine ev_sipush cs_401 d7_init_5 ?_
  obtain ⟨b1, e2, hf⟩ := lt_some hf
  obtain ⟨h3, hf⟩ := gd_some hf
  obtain ⟨t4, e5, hf⟩ := lt_some hf
  refine ev_newa_int w59 h3 d7_init_8 (ev_nmR e2 (ev_nmS e5 ?_))
  obtain ⟨h6, hf⟩ := gd_some hf
  obtain ⟨t7, e8, hf⟩ := lt_some hf
  refine ev_putRF cls7 (j := 0) (by decide) rfl (ne_new e2) rfl w271 rfl rfl h6 (fun _ => ⟨rfl, rfl⟩) d7_init_10 (ev_nmS e8 ?_)
  refine ev_aload_n (j := 0) (i := 0) (q := 0) rfl rfl d7_init_13 ?_
  refine ev_sipush cs_401 d7_init_14 ?_
  obtain ⟨b9, e10, hf⟩ := lt_some hf
  obtain ⟨h11, hf⟩ := gd_some hf
  obtain ⟨t12, e13, hf⟩ := lt_some hf
  refine ev_newa_int w59 h11 d7_init_17 (ev_nmR e10 (ev_nmS e13 ?_))
  obtain ⟨t14, e15, hf⟩ := lt_some hf
  refine ev_putRF cls7 (j := 1) (by decide) rfl (ne_new e10) rfl w272 rfl rfl (mono_ob (mono_eN e13) (mono_ob (mono_eR e8) h6)) (fun _ => ⟨rfl, rfl⟩) d7_init_19 (ev_nmS e15 ?_)
  refine ev_aload_n (j := 0) (i := 0) (q := 0) rfl rfl d7_init_22 ?_
  refine ev_sipush cs_401 d7_init_23 ?_
  obtain ⟨b16, e17, hf⟩ := lt_some hf
  obtain ⟨h18, hf⟩ := gd_some hf
  obtain ⟨t19, e20, hf⟩ := lt_some hf
  refine ev_newa_long w213 h18 d7_init_26 (ev_nmR e17 (ev_nmS e20 ?_))
  obtain ⟨t21, e22, hf⟩ := lt_some hf
  refine ev_putRF cls7 (j := 2) (by decide) rfl (ne_new e17) rfl w273 rfl rfl (mono_ob (mono_eN e20) (mono_ob (mono_eR e15) (mono_ob (mono_eN e13) (mono_ob (mono_eR e8) h6)))) (fun _ => ⟨rfl, rfl⟩) d7_init_28 (ev_nmS e22 ?_)
  refine ev_aload_n (j := 0) (i := 0) (q := 0) rfl rfl d7_init_31 ?_
  refine ev_bipush cb_10 d7_init_32 ?_
  obtain ⟨b23, e24, hf⟩ := lt_some hf
  obtain ⟨h25, hf⟩ := gd_some hf
  obtain ⟨t26, e27, hf⟩ := lt_some hf
  refine ev_newa_long w213 h25 d7_init_34 (ev_nmR e24 (ev_nmS e27 ?_))
  obtain ⟨t28, e29, hf⟩ := lt_some hf
  refine ev_putRF cls7 (j := 3) (by decide) rfl (ne_new e24) rfl w274 rfl rfl (mono_ob (mono_eN e27) (mono_ob (mono_eR e22) (mono_ob (mono_eN e20) (mono_ob (mono_eR e15) (mono_ob (mono_eN e13) (mono_ob (mono_eR e8) h6)))))) (fun _ => ⟨rfl, rfl⟩) d7_init_36 (ev_nmS e29 ?_)
  refine ev_aload_n (j := 0) (i := 0) (q := 0) rfl rfl d7_init_39 ?_
  refine ev_bipush cb_15 d7_init_40 ?_
  obtain ⟨b30, e31, hf⟩ := lt_some hf
  obtain ⟨h32, hf⟩ := gd_some hf
  obtain ⟨t33, e34, hf⟩ := lt_some hf
  refine ev_newa_long w213 h32 d7_init_42 (ev_nmR e31 (ev_nmS e34 ?_))
  obtain ⟨t35, e36, hf⟩ := lt_some hf
  refine ev_putRF cls7 (j := 4) (by decide) rfl (ne_new e31) rfl w275 rfl rfl (mono_ob (mono_eN e34) (mono_ob (mono_eR e29) (mono_ob (mono_eN e27) (mono_ob (mono_eR e22) (mono_ob (mono_eN e20) (mono_ob (mono_eR e15) (mono_ob (mono_eN e13) (mono_ob (mono_eR e8) h6)))))))) (fun _ => ⟨rfl, rfl⟩) d7_init_44 (ev_nmS e36 ?_)
  refine ev_aload_n (j := 0) (i := 0) (q := 0) rfl rfl d7_init_47 ?_
  obtain ⟨b37, e38, hf⟩ := lt_some hf
  obtain ⟨t39, e40, hf⟩ := lt_some hf
  refine ev_new cls10 (by decide) w177 w178 w10 d7_init_48 (ev_nmR e38 (ev_nmS e40 ?_))
  refine ev_dup rfl d7_init_51 ?_
  refine ev_sipush cs_400 d7_init_52 ?_
  refine ev_bipush cb_20 d7_init_55 ?_
  obtain ⟨r41, t42, k43, hf⟩ := bd_some hf
  have q44 := s10_init _ _ _ _ _ _ k43
  refine ev_callI (vs := [.int (400 : Int32), .int (20 : Int32)]) (sk := [.ref b37, .ref v0]) q44 (by decide) (Nat.le_of_ble_eq_true rfl) w179 w180 rfl w10 w181 rfl k10_init rfl (Nat.le_of_ble_eq_true rfl) d7_init_57 ?_
  obtain ⟨t45, e46, hf⟩ := lt_some hf
  refine ev_putRF cls7 (j := 5) (by decide) rfl (ne_new e38) rfl w276 rfl rfl (mono_ob q44.1 (mono_ob (mono_eN e40) (mono_ob (mono_eR e36) (mono_ob (mono_eN e34) (mono_ob (mono_eR e29) (mono_ob (mono_eN e27) (mono_ob (mono_eR e22) (mono_ob (mono_eN e20) (mono_ob (mono_eR e15) (mono_ob (mono_eN e13) (mono_ob (mono_eR e8) h6))))))))))) (fun _ => ⟨rfl, rfl⟩) d7_init_60 (ev_nmS e46 ?_)
  refine ev_aload_n (j := 0) (i := 0) (q := 0) rfl rfl d7_init_63 ?_
  refine ev_iconst ci_m1 d7_init_64 ?_
  obtain ⟨t47, e48, hf⟩ := lt_some hf
  refine ev_putI cls7 (j := 12) (by decide) rfl rfl w284 (mono_ob (mono_eR e46) (mono_ob q44.1 (mono_ob (mono_eN e40) (mono_ob (mono_eR e36) (mono_ob (mono_eN e34) (mono_ob (mono_eR e29) (mono_ob (mono_eN e27) (mono_ob (mono_eR e22) (mono_ob (mono_eN e20) (mono_ob (mono_eR e15) (mono_ob (mono_eN e13) (mono_ob (mono_eR e8) h6)))))))))))) (fun _ => ⟨rfl, rfl⟩) d7_init_65 (ev_nmS e48 ?_)
  refine ev_ldcS (i := 0) rfl d7_init_68 ?_
  refine ev_aload_n (j := 0) (i := 0) (q := 0) rfl rfl d7_init_70 ?_
  obtain ⟨b49, e50, hf⟩ := lt_some hf
  obtain ⟨h51, hf⟩ := gd_some hf
  refine ev_getRb cls7 (j := 3) (by decide) rfl w274 (mono_ob (mono_eI e48) (mono_ob (mono_eR e46) (mono_ob q44.1 (mono_ob (mono_eN e40) (mono_ob (mono_eR e36) (mono_ob (mono_eN e34) (mono_ob (mono_eR e29) (mono_ob (mono_eN e27) (mono_ob (mono_eR e22) (mono_ob (mono_eN e20) (mono_ob (mono_eR e15) (mono_ob (mono_eN e13) (mono_ob (mono_eR e8) h6))))))))))))) e50 (nz_ne h51) d7_init_71 ?_
  obtain ⟨r52, t53, k54, hf⟩ := bd_some hf
  have q55 := s7_spell _ _ _ _ _ k54
  refine ev_callS (vs := [.ref (STR + 0), .ref b49]) (sk := []) q55 (by decide) (Nat.le_of_ble_eq_true rfl) w215 w216 w9 w217 k7_spell rfl (Nat.le_of_ble_eq_true rfl) d7_init_74 ?_
  refine ev_ldcS (i := 1) rfl d7_init_77 ?_
  refine ev_aload_n (j := 0) (i := 0) (q := 0) rfl rfl d7_init_79 ?_
  obtain ⟨b56, e57, hf⟩ := lt_some hf
  obtain ⟨h58, hf⟩ := gd_some hf
  refine ev_getRb cls7 (j := 4) (by decide) rfl w275 (mono_ob q55.1 (mono_ob (mono_eI e48) (mono_ob (mono_eR e46) (mono_ob q44.1 (mono_ob (mono_eN e40) (mono_ob (mono_eR e36) (mono_ob (mono_eN e34) (mono_ob (mono_eR e29) (mono_ob (mono_eN e27) (mono_ob (mono_eR e22) (mono_ob (mono_eN e20) (mono_ob (mono_eR e15) (mono_ob (mono_eN e13) (mono_ob (mono_eR e8) h6)))))))))))))) e57 (nz_ne h58) d7_init_80 ?_
  obtain ⟨r59, t60, k61, hf⟩ := bd_some hf
  have q62 := s7_spell _ _ _ _ _ k61
  refine ev_callS (vs := [.ref (STR + 1), .ref b56]) (sk := []) q62 (by decide) (Nat.le_of_ble_eq_true rfl) w215 w216 w9 w217 k7_spell rfl (Nat.le_of_ble_eq_true rfl) d7_init_83 ?_
  obtain ⟨-, rfl⟩ := ret_some hf
  exact ev_vret rfl d7_init_86
abbrev m4_init : MD := ("MillBoats$Law", ⟨"MillBoats$Law", "<init>", "(LMillBoats$River;)V"⟩, prog_6_method_1_code, 3, (none : Option Jvm.ClassFile.FieldType))
theorem k4_init : okY m4_init.2.1 1 := ⟨by decide +kernel, by decide +kernel, by decide +kernel⟩
def f4_init_p83 : Nat → St → Nat → Int32 → Option (Unit × St)
  | 0, _, _, _ => none
  | n + 1, σ, v0, v2 =>
  (if v2 < (2 : Int32) then
  gd (ob σ v0 4) (
  lt (sR σ v0 3) fun b65 => (
  gd (nz b65) (
  lt (sN σ + 1) fun b68 => (
  lt (wN σ 1 4) fun t70 => (
  bd (f1_init t70 b68 (12 : Int32)) fun r72 t73 => (
  gd (ob t73 b65 18) (
  gd (inb t73 b65 v2) (
  gd (ob t73 b68 1) (
  lt (wR t73 b65 (ix v2) b68) fun t79 => (
  lt (v2 + (1 : Int32)) fun y81 => (
  (f4_init_p83 n) t79 v0 y81)))))))))))
  else
  some ((), σ))
set_option maxRecDepth 20000 in
theorem s4_init_p83 : ∀ (n : Nat) (σ : St) (v0 : Nat) (v2 : Int32) (r : Unit) (τ : St), f4_init_p83 n σ v0 v2 = some (r, τ) → Ev 10 m4_init 83 [(0, .ref v0), (2, .int v2)] [] σ none τ := by
  intro n
  induction n with
  | zero =>
    intro σ v0 v2 r τ hf
    cases hf
  | succ n ih =>
    intro σ v0 v2 r τ hf
    rw [f4_init_p83] at hf
    refine ev_iload_n (j := 2) (i := 2) (q := 1) rfl rfl d4_init_83 ?_
    refine ev_iconst ci_2 d4_init_84 ?_
    rcases ite_some hf with ⟨c63, hf⟩ | ⟨c63, hf⟩
    · refine ev_icmp_ge_P (tgt := 109) c63 (by decide) d4_init_85 ?_
      refine ev_aload_n (j := 0) (i := 0) (q := 0) rfl rfl d4_init_88 ?_
      obtain ⟨h64, hf⟩ := gd_some hf
      obtain ⟨b65, e66, hf⟩ := lt_some hf
      obtain ⟨h67, hf⟩ := gd_some hf
      refine ev_getRb cls4 (j := 3) (by decide) rfl w321 h64 e66 (nz_ne h67) d4_init_89 ?_
      refine ev_iload_n (j := 2) (i := 2) (q := 1) rfl rfl d4_init_92 ?_
      obtain ⟨b68, e69, hf⟩ := lt_some hf
      obtain ⟨t70, e71, hf⟩ := lt_some hf
      refine ev_new cls1 (by decide) w145 w146 w7 d4_init_93 (ev_nmR e69 (ev_nmS e71 ?_))
      refine ev_dup rfl d4_init_96 ?_
      refine ev_bipush cb_12 d4_init_97 ?_
      obtain ⟨r72, t73, k74, hf⟩ := bd_some hf
      have q75 := s1_init _ _ _ _ _ k74
      refine ev_callI (vs := [.int (12 : Int32)]) (sk := [.ref b68, .int v2, .ref b65]) q75 (by decide) (Nat.le_of_ble_eq_true rfl) w147 w148 rfl w7 w149 rfl k1_init rfl (Nat.le_of_ble_eq_true rfl) d4_init_99 ?_
      obtain ⟨h76, hf⟩ := gd_some hf
      obtain ⟨h77, hf⟩ := gd_some hf
      obtain ⟨h78, hf⟩ := gd_some hf
      obtain ⟨t79, e80, hf⟩ := lt_some hf
      refine ev_qast cls1 (kd := 18) (by decide) (by decide) rfl h76 h77 h78 d4_init_102 (ev_nmS e80 ?_)
      obtain ⟨y81, e82, hf⟩ := lt_some hf
      refine ev_iinc (lv2 := [(2, .int y81), (0, .ref v0)]) (i := 2) (q := 1) (v := y81) (n := 1) rfl (by rw [ci_1]; exact e82.symm) (by decide) rfl d4_init_103 ?_
      refine ev_goto (tgt := 83) (by decide) d4_init_106 ?_
      exact Ev.sub [1, 0] rfl (ih _ _ _ _ _ hf)
    · refine ev_icmp_ge_Q (tgt := 109) c63 (by decide) d4_init_85 ?_
      obtain ⟨-, rfl⟩ := ret_some hf
      exact ev_vret rfl d4_init_109
def f4_init (σ : St) (v0 : Nat) (v1 : Nat) : Option (Unit × St) :=
  lt (sN σ + 1) fun b1 => (
  lt (wN σ 1 4) fun t3 => (
  bd (f1_init t3 b1 (200 : Int32)) fun r5 t6 => (
  gd (ob t6 v0 4) (
  lt (wR t6 v0 1 b1) fun t10 => (
  lt (sN t10 + 1) fun b12 => (
  lt (wN t10 1 4) fun t14 => (
  bd (f1_init t14 b12 (200 : Int32)) fun r16 t17 => (
  lt (wR t17 v0 2 b12) fun t20 => (
  lt (sN t20 + 1) fun b22 => (
  gd (szOk (2 : Int32)) (
  lt (wN t20 18 (ix (2 : Int32))) fun t25 => (
  lt (wR t25 v0 3 b22) fun t27 => (
  lt (sN t27 + 1) fun b29 => (
  gd (szOk (24 : Int32)) (
  lt (wN t27 20 (ix (24 : Int32))) fun t32 => (
  lt (wR t32 v0 4 b29) fun t34 => (
  lt (sN t34 + 1) fun b36 => (
  lt (wN t34 7 13) fun t38 => (
  bd (f7_init t38 b36) fun r40 t41 => (
  lt (wR t41 v0 5 b36) fun t44 => (
  lt (sN t44 + 1) fun b46 => (
  gd (szOk (15 : Int32)) (
  lt (wN t44 14 (ix (15 : Int32))) fun t49 => (
  lt (wR t49 v0 6 b46) fun t51 => (
  lt (sN t51 + 1) fun b53 => (
  gd (szOk (64 : Int32)) (
  lt (wN t51 14 (ix (64 : Int32))) fun t56 => (
  lt (wR t56 v0 7 b53) fun t58 => (
  gd (nz v1) (
  lt (wR t58 v0 0 v1) fun t61 => (
  f4_init_p83 FU t61 v0 (0 : Int32))))))))))))))))))))))))))))))))
set_option maxRecDepth 50000 in
theorem s4_init : ∀ (σ : St) (v0 : Nat) (v1 : Nat) (r : Unit) (τ : St), f4_init σ v0 v1 = some (r, τ) → Call 10 m4_init [.ref v0, .ref v1] σ none τ := by
  intro σ v0 v1 r τ hf
  unfold f4_init at hf
  refine Call.of (by decide +kernel) rfl (Nat.le_of_ble_eq_true rfl) ?_
  refine ev_aload_n (j := 0) (i := 0) (q := 0) rfl rfl d4_init_0 ?_
  refine ev_objInit w144 w32 w33 (by decide) (Nat.le_of_ble_eq_true rfl) d4_init_1 ?_
  refine ev_aload_n (j := 0) (i := 0) (q := 0) rfl rfl d4_init_4 ?_
  obtain ⟨b1, e2, hf⟩ := lt_some hf
  obtain ⟨t3, e4, hf⟩ := lt_some hf
  refine ev_new cls1 (by decide) w145 w146 w7 d4_init_5 (ev_nmR e2 (ev_nmS e4 ?_))
  refine ev_dup rfl d4_init_8 ?_
  refine ev_sipush cs_200 d4_init_9 ?_
  obtain ⟨r5, t6, k7, hf⟩ := bd_some hf
  have q8 := s1_init _ _ _ _ _ k7
  refine ev_callI (vs := [.int (200 : Int32)]) (sk := [.ref b1, .ref v0]) q8 (by decide) (Nat.le_of_ble_eq_true rfl) w147 w148 rfl w7 w149 rfl k1_init rfl (Nat.le_of_ble_eq_true rfl) d4_init_12 ?_
  obtain ⟨h9, hf⟩ := gd_some hf
  obtain ⟨t10, e11, hf⟩ := lt_some hf
  refine ev_putRF cls4 (j := 1) (by decide) rfl (ne_new e2) rfl w315 rfl rfl h9 (fun _ => ⟨rfl, rfl⟩) d4_init_15 (ev_nmS e11 ?_)
  refine ev_aload_n (j := 0) (i := 0) (q := 0) rfl rfl d4_init_18 ?_
  obtain ⟨b12, e13, hf⟩ := lt_some hf
  obtain ⟨t14, e15, hf⟩ := lt_some hf
  refine ev_new cls1 (by decide) w145 w146 w7 d4_init_19 (ev_nmR e13 (ev_nmS e15 ?_))
  refine ev_dup rfl d4_init_22 ?_
  refine ev_sipush cs_200 d4_init_23 ?_
  obtain ⟨r16, t17, k18, hf⟩ := bd_some hf
  have q19 := s1_init _ _ _ _ _ k18
  refine ev_callI (vs := [.int (200 : Int32)]) (sk := [.ref b12, .ref v0]) q19 (by decide) (Nat.le_of_ble_eq_true rfl) w147 w148 rfl w7 w149 rfl k1_init rfl (Nat.le_of_ble_eq_true rfl) d4_init_26 ?_
  obtain ⟨t20, e21, hf⟩ := lt_some hf
  refine ev_putRF cls4 (j := 2) (by decide) rfl (ne_new e13) rfl w318 rfl rfl (mono_ob q19.1 (mono_ob (mono_eN e15) (mono_ob (mono_eR e11) h9))) (fun _ => ⟨rfl, rfl⟩) d4_init_29 (ev_nmS e21 ?_)
  refine ev_aload_n (j := 0) (i := 0) (q := 0) rfl rfl d4_init_32 ?_
  refine ev_iconst ci_2 d4_init_33 ?_
  obtain ⟨b22, e23, hf⟩ := lt_some hf
  obtain ⟨h24, hf⟩ := gd_some hf
  obtain ⟨t25, e26, hf⟩ := lt_some hf
  refine ev_anew (kd := 18) (by decide) (by decide) rfl w145 ao18 h24 d4_init_34 (ev_nmR e23 (ev_nmS e26 ?_))
  obtain ⟨t27, e28, hf⟩ := lt_some hf
  refine ev_putRF cls4 (j := 3) (by decide) rfl (ne_new e23) rfl w321 rfl rfl (mono_ob (mono_eN e26) (mono_ob (mono_eR e21) (mono_ob q19.1 (mono_ob (mono_eN e15) (mono_ob (mono_eR e11) h9))))) (fun _ => ⟨rfl, rfl⟩) d4_init_37 (ev_nmS e28 ?_)
  refine ev_aload_n (j := 0) (i := 0) (q := 0) rfl rfl d4_init_40 ?_
  refine ev_bipush cb_24 d4_init_41 ?_
  obtain ⟨b29, e30, hf⟩ := lt_some hf
  obtain ⟨h31, hf⟩ := gd_some hf
  obtain ⟨t32, e33, hf⟩ := lt_some hf
  refine ev_anew (kd := 20) (by decide) (by decide) rfl w169 ao20 h31 d4_init_43 (ev_nmR e30 (ev_nmS e33 ?_))
  obtain ⟨t34, e35, hf⟩ := lt_some hf
  refine ev_putRF cls4 (j := 4) (by decide) rfl (ne_new e30) rfl w322 rfl rfl (mono_ob (mono_eN e33) (mono_ob (mono_eR e28) (mono_ob (mono_eN e26) (mono_ob (mono_eR e21) (mono_ob q19.1 (mono_ob (mono_eN e15) (mono_ob (mono_eR e11) h9))))))) (fun _ => ⟨rfl, rfl⟩) d4_init_46 (ev_nmS e35 ?_)
  refine ev_aload_n (j := 0) (i := 0) (q := 0) rfl rfl d4_init_49 ?_
  obtain ⟨b36, e37, hf⟩ := lt_some hf
  obtain ⟨t38, e39, hf⟩ := lt_some hf
  refine ev_new cls7 (by decide) w171 w172 w9 d4_init_50 (ev_nmR e37 (ev_nmS e39 ?_))
  refine ev_dup rfl d4_init_53 ?_
  obtain ⟨r40, t41, k42, hf⟩ := bd_some hf
  have q43 := s7_init _ _ _ _ k42
  refine ev_callI (vs := []) (sk := [.ref b36, .ref v0]) q43 (by decide) (Nat.le_of_ble_eq_true rfl) w173 w174 rfl w9 w175 rfl k7_init rfl (Nat.le_of_ble_eq_true rfl) d4_init_54 ?_
  obtain ⟨t44, e45, hf⟩ := lt_some hf
  refine ev_putRF cls4 (j := 5) (by decide) rfl (ne_new e37) rfl w323 rfl rfl (mono_ob q43.1 (mono_ob (mono_eN e39) (mono_ob (mono_eR e35) (mono_ob (mono_eN e33) (mono_ob (mono_eR e28) (mono_ob (mono_eN e26) (mono_ob (mono_eR e21) (mono_ob q19.1 (mono_ob (mono_eN e15) (mono_ob (mono_eR e11) h9)))))))))) (fun _ => ⟨rfl, rfl⟩) d4_init_57 (ev_nmS e45 ?_)
  refine ev_aload_n (j := 0) (i := 0) (q := 0) rfl rfl d4_init_60 ?_
  refine ev_bipush cb_15 d4_init_61 ?_
  obtain ⟨b46, e47, hf⟩ := lt_some hf
  obtain ⟨h48, hf⟩ := gd_some hf
  obtain ⟨t49, e50, hf⟩ := lt_some hf
  refine ev_newa_int w59 h48 d4_init_63 (ev_nmR e47 (ev_nmS e50 ?_))
  obtain ⟨t51, e52, hf⟩ := lt_some hf
  refine ev_putRF cls4 (j := 6) (by decide) rfl (ne_new e47) rfl w325 rfl rfl (mono_ob (mono_eN e50) (mono_ob (mono_eR e45) (mono_ob q43.1 (mono_ob (mono_eN e39) (mono_ob (mono_eR e35) (mono_ob (mono_eN e33) (mono_ob (mono_eR e28) (mono_ob (mono_eN e26) (mono_ob (mono_eR e21) (mono_ob q19.1 (mono_ob (mono_eN e15) (mono_ob (mono_eR e11) h9)))))))))))) (fun _ => ⟨rfl, rfl⟩) d4_init_65 (ev_nmS e52 ?_)
  refine ev_aload_n (j := 0) (i := 0) (q := 0) rfl rfl d4_init_68 ?_
  refine ev_bipush cb_64 d4_init_69 ?_
  obtain ⟨b53, e54, hf⟩ := lt_some hf
  obtain ⟨h55, hf⟩ := gd_some hf
  obtain ⟨t56, e57, hf⟩ := lt_some hf
  refine ev_newa_int w59 h55 d4_init_71 (ev_nmR e54 (ev_nmS e57 ?_))
  obtain ⟨t58, e59, hf⟩ := lt_some hf
  refine ev_putRF cls4 (j := 7) (by decide) rfl (ne_new e54) rfl w326 rfl rfl (mono_ob (mono_eN e57) (mono_ob (mono_eR e52) (mono_ob (mono_eN e50) (mono_ob (mono_eR e45) (mono_ob q43.1 (mono_ob (mono_eN e39) (mono_ob (mono_eR e35) (mono_ob (mono_eN e33) (mono_ob (mono_eR e28) (mono_ob (mono_eN e26) (mono_ob (mono_eR e21) (mono_ob q19.1 (mono_ob (mono_eN e15) (mono_ob (mono_eR e11) h9)))))))))))))) (fun _ => ⟨rfl, rfl⟩) d4_init_73 (ev_nmS e59 ?_)
  refine ev_aload_n (j := 0) (i := 0) (q := 0) rfl rfl d4_init_76 ?_
  refine ev_aload_n (j := 1) (i := 1) (q := 1) rfl rfl d4_init_77 ?_
  obtain ⟨h60, hf⟩ := gd_some hf
  obtain ⟨t61, e62, hf⟩ := lt_some hf
  refine ev_putRF cls4 (j := 0) (by decide) rfl (nz_ne h60) rfl w314 rfl rfl (mono_ob (mono_eR e59) (mono_ob (mono_eN e57) (mono_ob (mono_eR e52) (mono_ob (mono_eN e50) (mono_ob (mono_eR e45) (mono_ob q43.1 (mono_ob (mono_eN e39) (mono_ob (mono_eR e35) (mono_ob (mono_eN e33) (mono_ob (mono_eR e28) (mono_ob (mono_eN e26) (mono_ob (mono_eR e21) (mono_ob q19.1 (mono_ob (mono_eN e15) (mono_ob (mono_eR e11) h9))))))))))))))) (fun _ => ⟨rfl, rfl⟩) d4_init_78 (ev_nmS e62 ?_)
  refine ev_iconst ci_0 d4_init_81 ?_
  refine ev_istore_n (lv2 := [(2, .int (0 : Int32)), (0, .ref v0), (1, .ref v1)]) (j := 2) (i := 2) rfl (by decide) rfl d4_init_82 ?_
  exact Ev.sub [1, 0] rfl (s4_init_p83 FU _ _ _ _ _ hf)
abbrev m4_isFull : MD := ("MillBoats$Law", ⟨"MillBoats$Law", "isFull", "(I)Z"⟩, prog_6_method_2_code, 2, (some Jvm.ClassFile.FieldType.boolean))
theorem k4_isFull : okY m4_isFull.2.1 1 := ⟨by decide +kernel, by decide +kernel, by decide +kernel⟩
def f4_isFull (σ : St) (v0 : Nat) (v1 : Int32) : Option (Int32 × St) :=
  gd (ob σ v0 4) (
  lt (sR σ v0 3) fun b2 => (
  gd (nz b2) (
  gd (ob σ b2 18) (
  gd (inb σ b2 v1) (
  lt (sR σ b2 (ix v1)) fun b7 => (
  gd (nz b7) (
  gd (ob σ b7 1) (
  (if (sI σ b7 3) < (12 : Int32) then
  some ((0 : Int32), σ)
  else
  some ((1 : Int32), σ))))))))))
set_option maxRecDepth 50000 in
theorem s4_isFull : ∀ (σ : St) (v0 : Nat) (v1 : Int32) (r : Int32) (τ : St), f4_isFull σ v0 v1 = some (r, τ) → Call 2 m4_isFull [.ref v0, .int v1] σ (some (.int r)) τ := by
  intro σ v0 v1 r τ hf
  unfold f4_isFull at hf
  refine Call.of (by decide +kernel) rfl (Nat.le_of_ble_eq_true rfl) ?_
  refine ev_aload_n (j := 0) (i := 0) (q := 0) rfl rfl d4_isFull_0 ?_
  obtain ⟨h1, hf⟩ := gd_some hf
  obtain ⟨b2, e3, hf⟩ := lt_some hf
  obtain ⟨h4, hf⟩ := gd_some hf
  refine ev_getRb cls4 (j := 3) (by decide) rfl w321 h1 e3 (nz_ne h4) d4_isFull_1 ?_
  refine ev_iload_n (j := 1) (i := 1) (q := 1) rfl rfl d4_isFull_4 ?_
  obtain ⟨h5, hf⟩ := gd_some hf
  obtain ⟨h6, hf⟩ := gd_some hf
  obtain ⟨b7, e8, hf⟩ := lt_some hf
  obtain ⟨h9, hf⟩ := gd_some hf
  refine ev_qaldb (kd := 18) (by decide) (by decide) rfl h5 h6 e8 (nz_ne h9) d4_isFull_5 ?_
  obtain ⟨h10, hf⟩ := gd_some hf
  refine ev_getIN cls1 (j := 3) (by decide) rfl w158 h10 d4_isFull_6 ?_
  refine ev_bipush cb_12 d4_isFull_9 ?_
  rcases ite_some hf with ⟨c11, hf⟩ | ⟨c11, hf⟩
  · refine ev_icmp_lt_P (tgt := 18) c11 (by decide) d4_isFull_11 ?_
    refine ev_iconst ci_0 d4_isFull_18 ?_
    obtain ⟨rfl, rfl⟩ := ret_some hf
    exact ev_zret rfl (by decide) d4_isFull_19
  · refine ev_icmp_lt_Q (tgt := 18) c11 (by decide) d4_isFull_11 ?_
    refine ev_iconst ci_1 d4_isFull_14 ?_
    refine ev_goto (tgt := 19) (by decide) d4_isFull_15 ?_
    obtain ⟨rfl, rfl⟩ := ret_some hf
    exact ev_zret rfl (by decide) d4_isFull_19
abbrev m4_textsOf : MD := ("MillBoats$Law", ⟨"MillBoats$Law", "textsOf", "(I)I"⟩, prog_6_method_3_code, 2, (some Jvm.ClassFile.FieldType.int))
theorem k4_textsOf : okY m4_textsOf.2.1 1 := ⟨by decide +kernel, by decide +kernel, by decide +kernel⟩
def f4_textsOf (σ : St) (v0 : Nat) (v1 : Int32) : Option (Int32 × St) :=
  gd (ob σ v0 4) (
  lt (sR σ v0 3) fun b2 => (
  gd (nz b2) (
  gd (ob σ b2 18) (
  gd (inb σ b2 v1) (
  lt (sR σ b2 (ix v1)) fun b7 => (
  gd (nz b7) (
  gd (ob σ b7 1) (
  some (sI σ b7 3, σ)))))))))
set_option maxRecDepth 50000 in
theorem s4_textsOf : ∀ (σ : St) (v0 : Nat) (v1 : Int32) (r : Int32) (τ : St), f4_textsOf σ v0 v1 = some (r, τ) → Call 2 m4_textsOf [.ref v0, .int v1] σ (some (.int r)) τ := by
  intro σ v0 v1 r τ hf
  unfold f4_textsOf at hf
  refine Call.of (by decide +kernel) rfl (Nat.le_of_ble_eq_true rfl) ?_
  refine ev_aload_n (j := 0) (i := 0) (q := 0) rfl rfl d4_textsOf_0 ?_
  obtain ⟨h1, hf⟩ := gd_some hf
  obtain ⟨b2, e3, hf⟩ := lt_some hf
  obtain ⟨h4, hf⟩ := gd_some hf
  refine ev_getRb cls4 (j := 3) (by decide) rfl w321 h1 e3 (nz_ne h4) d4_textsOf_1 ?_
  refine ev_iload_n (j := 1) (i := 1) (q := 1) rfl rfl d4_textsOf_4 ?_
  obtain ⟨h5, hf⟩ := gd_some hf
  obtain ⟨h6, hf⟩ := gd_some hf
  obtain ⟨b7, e8, hf⟩ := lt_some hf
  obtain ⟨h9, hf⟩ := gd_some hf
  refine ev_qaldb (kd := 18) (by decide) (by decide) rfl h5 h6 e8 (nz_ne h9) d4_textsOf_5 ?_
  obtain ⟨h10, hf⟩ := gd_some hf
  refine ev_getIN cls1 (j := 3) (by decide) rfl w158 h10 d4_textsOf_6 ?_
  obtain ⟨rfl, rfl⟩ := ret_some hf
  exact ev_iret rfl d4_textsOf_9
abbrev m10_copy : MD := ("MillBoats$Text", ⟨"MillBoats$Text", "copy", "()LMillBoats$Text;"⟩, prog_12_method_5_code, 2, (some (Jvm.ClassFile.FieldType.object "MillBoats$Text")))
theorem k10_copy : okY m10_copy.2.1 0 := ⟨by decide +kernel, by decide +kernel, by decide +kernel⟩
def f10_copy (σ : St) (v0 : Nat) : Option (Nat × St) :=
  lt (sN σ + 1) fun b1 => (
  lt (wN σ 10 7) fun t3 => (
  gd (ob t3 v0 10) (
  bd (f10_init t3 b1 (sI t3 v0 5) (sI t3 v0 6)) fun r6 t7 => (
  lt (sR t7 v0 0) fun b10 => (
  gd (nz b10) (
  gd (ob t7 b1 10) (
  lt (sR t7 b1 0) fun b14 => (
  gd (nz b14) (
  gd (ob t7 b10 14) (
  gd (ob t7 b14 14) (
  gd (cpOk t7 b10 (0 : Int32) b14 (0 : Int32) (sI t7 v0 5)) (
  lt (wCp t7 b10 (ix (0 : Int32)) b14 (ix (0 : Int32)) (ix (sI t7 v0 5))) fun t20 => (
  lt (sR t20 v0 1) fun b22 => (
  gd (nz b22) (
  lt (sR t20 b1 1) fun b25 => (
  gd (nz b25) (
  gd (ob t20 b22 14) (
  gd (ob t20 b25 14) (
  gd (cpOk t20 b22 (0 : Int32) b25 (0 : Int32) (sI t20 v0 6)) (
  lt (wCp t20 b22 (ix (0 : Int32)) b25 (ix (0 : Int32)) (ix (sI t20 v0 6))) fun t31 => (
  lt (sR t31 v0 2) fun b33 => (
  gd (nz b33) (
  lt (sR t31 b1 2) fun b36 => (
  gd (nz b36) (
  gd (ob t31 b33 14) (
  gd (ob t31 b36 14) (
  gd (cpOk t31 b33 (0 : Int32) b36 (0 : Int32) (sI t31 v0 6)) (
  lt (wCp t31 b33 (ix (0 : Int32)) b36 (ix (0 : Int32)) (ix (sI t31 v0 6))) fun t42 => (
  lt (sR t42 v0 3) fun b44 => (
  gd (nz b44) (
  lt (sR t42 b1 3) fun b47 => (
  gd (nz b47) (
  gd (ob t42 b44 14) (
  gd (ob t42 b47 14) (
  gd (cpOk t42 b44 (0 : Int32) b47 (0 : Int32) (sI t42 v0 6)) (
  lt (wCp t42 b44 (ix (0 : Int32)) b47 (ix (0 : Int32)) (ix (sI t42 v0 6))) fun t53 => (
  lt (sR t53 v0 4) fun b55 => (
  gd (nz b55) (
  lt (sR t53 b1 4) fun b58 => (
  gd (nz b58) (
  gd (ob t53 b55 14) (
  gd (ob t53 b58 14) (
  gd (cpOk t53 b55 (0 : Int32) b58 (0 : Int32) (sI t53 v0 6)) (
  lt (wCp t53 b55 (ix (0 : Int32)) b58 (ix (0 : Int32)) (ix (sI t53 v0 6))) fun t64 => (
  lt (wI t64 b1 5 (sI t64 v0 5)) fun t66 => (
  lt (wI t66 b1 6 (sI t66 v0 6)) fun t68 => (
  some (b1, t68))))))))))))))))))))))))))))))))))))))))))))))))
set_option maxRecDepth 50000 in
theorem s10_copy : ∀ (σ : St) (v0 : Nat) (r : Nat) (τ : St), f10_copy σ v0 = some (r, τ) → Call 4 m10_copy [.ref v0] σ (some (.ref r)) τ := by
  intro σ v0 r τ hf
  unfold f10_copy at hf
  refine Call.of (by decide +kernel) rfl (Nat.le_of_ble_eq_true rfl) ?_
  obtain ⟨b1, e2, hf⟩ := lt_some hf
  obtain ⟨t3, e4, hf⟩ := lt_some hf
  refine ev_new cls10 (by decide) w845 w178 w10 d10_copy_0 (ev_nmR e2 (ev_nmS e4 ?_))
  refine ev_dup rfl d10_copy_3 ?_
  refine ev_aload_n (j := 0) (i := 0) (q := 0) rfl rfl d10_copy_4 ?_
  obtain ⟨h5, hf⟩ := gd_some hf
  refine ev_getI cls10 (j := 5) (by decide) rfl w194 h5 d10_copy_5 ?_
  refine ev_aload_n (j := 0) (i := 0) (q := 0) rfl rfl d10_copy_8 ?_
  refine ev_getI cls10 (j := 6) (by decide) rfl w195 h5 d10_copy_9 ?_
  obtain ⟨r6, t7, k8, hf⟩ := bd_some hf
  have q9 := s10_init _ _ _ _ _ _ k8
  refine ev_callI (vs := [.int (sI t3 v0 5), .int (sI t3 v0 6)]) (sk := [.ref b1]) q9 (by decide) (Nat.le_of_ble_eq_true rfl) w846 w180 rfl w10 w181 rfl k10_init rfl (Nat.le_of_ble_eq_true rfl) d10_copy_12 ?_
  refine ev_astore_n (lv2 := [(1, .ref b1), (0, .ref v0)]) (j := 1) (i := 1) rfl (by decide) rfl d10_copy_15 ?_
  refine ev_aload_n (j := 0) (i := 0) (q := 1) rfl rfl d10_copy_16 ?_
  obtain ⟨b10, e11, hf⟩ := lt_some hf
  obtain ⟨h12, hf⟩ := gd_some hf
  refine ev_getRb cls10 (j := 0) (by decide) rfl w184 (mono_ob q9.1 h5) e11 (nz_ne h12) d10_copy_17 ?_
  refine ev_iconst ci_0 d10_copy_20 ?_
  refine ev_aload_n (j := 1) (i := 1) (q := 0) rfl rfl d10_copy_21 ?_
  obtain ⟨h13, hf⟩ := gd_some hf
  obtain ⟨b14, e15, hf⟩ := lt_some hf
  obtain ⟨h16, hf⟩ := gd_some hf
  refine ev_getRb cls10 (j := 0) (by decide) rfl w184 h13 e15 (nz_ne h16) d10_copy_22 ?_
  refine ev_iconst ci_0 d10_copy_25 ?_
  refine ev_aload_n (j := 0) (i := 0) (q := 1) rfl rfl d10_copy_26 ?_
  refine ev_getI cls10 (j := 5) (by decide) rfl w194 (mono_ob q9.1 h5) d10_copy_27 ?_
  obtain ⟨h17, hf⟩ := gd_some hf
  obtain ⟨h18, hf⟩ := gd_some hf
  obtain ⟨h19, hf⟩ := gd_some hf
  obtain ⟨t20, e21, hf⟩ := lt_some hf
  refine ev_copyi w847 w656 w655 w20 h17 h18 h19 (by decide) (Nat.le_of_ble_eq_true rfl) d10_copy_30 (ev_nmS e21 ?_)
  refine ev_aload_n (j := 0) (i := 0) (q := 1) rfl rfl d10_copy_33 ?_
  obtain ⟨b22, e23, hf⟩ := lt_some hf
  obtain ⟨h24, hf⟩ := gd_some hf
  refine ev_getRb cls10 (j := 1) (by decide) rfl w186 (mono_ob (mono_eC e21) (mono_ob q9.1 h5)) e23 (nz_ne h24) d10_copy_34 ?_
  refine ev_iconst ci_0 d10_copy_37 ?_
  refine ev_aload_n (j := 1) (i := 1) (q := 0) rfl rfl d10_copy_38 ?_
  obtain ⟨b25, e26, hf⟩ := lt_some hf
  obtain ⟨h27, hf⟩ := gd_some hf
  refine ev_getRb cls10 (j := 1) (by decide) rfl w186 (mono_ob (mono_eC e21) h13) e26 (nz_ne h27) d10_copy_39 ?_
  refine ev_iconst ci_0 d10_copy_42 ?_
  refine ev_aload_n (j := 0) (i := 0) (q := 1) rfl rfl d10_copy_43 ?_
  refine ev_getI cls10 (j := 6) (by decide) rfl w195 (mono_ob (mono_eC e21) (mono_ob q9.1 h5)) d10_copy_44 ?_
  obtain ⟨h28, hf⟩ := gd_some hf
  obtain ⟨h29, hf⟩ := gd_some hf
  obtain ⟨h30, hf⟩ := gd_some hf
  obtain ⟨t31, e32, hf⟩ := lt_some hf
  refine ev_copyi w847 w656 w655 w20 h28 h29 h30 (by decide) (Nat.le_of_ble_eq_true rfl) d10_copy_47 (ev_nmS e32 ?_)
  refine ev_aload_n (j := 0) (i := 0) (q := 1) rfl rfl d10_copy_50 ?_
  obtain ⟨b33, e34, hf⟩ := lt_some hf
  obtain ⟨h35, hf⟩ := gd_some hf
  refine ev_getRb cls10 (j := 2) (by decide) rfl w188 (mono_ob (mono_eC e32) (mono_ob (mono_eC e21) (mono_ob q9.1 h5))) e34 (nz_ne h35) d10_copy_51 ?_
  refine ev_iconst ci_0 d10_copy_54 ?_
  refine ev_aload_n (j := 1) (i := 1) (q := 0) rfl rfl d10_copy_55 ?_
  obtain ⟨b36, e37, hf⟩ := lt_some hf
  obtain ⟨h38, hf⟩ := gd_some hf
  refine ev_getRb cls10 (j := 2) (by decide) rfl w188 (mono_ob (mono_eC e32) (mono_ob (mono_eC e21) h13)) e37 (nz_ne h38) d10_copy_56 ?_
  refine ev_iconst ci_0 d10_copy_59 ?_
  refine ev_aload_n (j := 0) (i := 0) (q := 1) rfl rfl d10_copy_60 ?_
  refine ev_getI cls10 (j := 6) (by decide) rfl w195 (mono_ob (mono_eC e32) (mono_ob (mono_eC e21) (mono_ob q9.1 h5))) d10_copy_61 ?_
  obtain ⟨h39, hf⟩ := gd_some hf
  obtain ⟨h40, hf⟩ := gd_some hf
  obtain ⟨h41, hf⟩ := gd_some hf
  obtain ⟨t42, e43, hf⟩ := lt_some hf
  refine ev_copyi w847 w656 w655 w20 h39 h40 h41 (by decide) (Nat.le_of_ble_eq_true rfl) d10_copy_64 (ev_nmS e43 ?_)
  refine ev_aload_n (j := 0) (i := 0) (q := 1) rfl rfl d10_copy_67 ?_
  obtain ⟨b44, e45, hf⟩ := lt_some hf
  obtain ⟨h46, hf⟩ := gd_some hf
  refine ev_getRb cls10 (j := 3) (by decide) rfl w190 (mono_ob (mono_eC e43) (mono_ob (mono_eC e32) (mono_ob (mono_eC e21) (mono_ob q9.1 h5)))) e45 (nz_ne h46) d10_copy_68 ?_
  refine ev_iconst ci_0 d10_copy_71 ?_
  refine ev_aload_n (j := 1) (i := 1) (q := 0) rfl rfl d10_copy_72 ?_
  obtain ⟨b47, e48, hf⟩ := lt_some hf
  obtain ⟨h49, hf⟩ := gd_some hf
  refine ev_getRb cls10 (j := 3) (by decide) rfl w190 (mono_ob (mono_eC e43) (mono_ob (mono_eC e32) (mono_ob (mono_eC e21) h13))) e48 (nz_ne h49) d10_copy_73 ?_
  refine ev_iconst ci_0 d10_copy_76 ?_
  refine ev_aload_n (j := 0) (i := 0) (q := 1) rfl rfl d10_copy_77 ?_
  refine ev_getI cls10 (j := 6) (by decide) rfl w195 (mono_ob (mono_eC e43) (mono_ob (mono_eC e32) (mono_ob (mono_eC e21) (mono_ob q9.1 h5)))) d10_copy_78 ?_
  obtain ⟨h50, hf⟩ := gd_some hf
  obtain ⟨h51, hf⟩ := gd_some hf
  obtain ⟨h52, hf⟩ := gd_some hf
  obtain ⟨t53, e54, hf⟩ := lt_some hf
  refine ev_copyi w847 w656 w655 w20 h50 h51 h52 (by decide) (Nat.le_of_ble_eq_true rfl) d10_copy_81 (ev_nmS e54 ?_)
  refine ev_aload_n (j := 0) (i := 0) (q := 1) rfl rfl d10_copy_84 ?_
  obtain ⟨b55, e56, hf⟩ := lt_some hf
  obtain ⟨h57, hf⟩ := gd_some hf
  refine ev_getRb cls10 (j := 4) (by decide) rfl w192 (mono_ob (mono_eC e54) (mono_ob (mono_eC e43) (mono_ob (mono_eC e32) (mono_ob (mono_eC e21) (mono_ob q9.1 h5))))) e56 (nz_ne h57) d10_copy_85 ?_
  refine ev_iconst ci_0 d10_copy_88 ?_
  refine ev_aload_n (j := 1) (i := 1) (q := 0) rfl rfl d10_copy_89 ?_
  obtain ⟨b58, e59, hf⟩ := lt_some hf
  obtain ⟨h60, hf⟩ := gd_some hf
  refine ev_getRb cls10 (j := 4) (by decide) rfl w192 (mono_ob (mono_eC e54) (mono_ob (mono_eC e43) (mono_ob (mono_eC e32) (mono_ob (mono_eC e21) h13)))) e59 (nz_ne h60) d10_copy_90 ?_
  refine ev_iconst ci_0 d10_copy_93 ?_
  refine ev_aload_n (j := 0) (i := 0) (q := 1) rfl rfl d10_copy_94 ?_
  refine ev_getI cls10 (j := 6) (by decide) rfl w195 (mono_ob (mono_eC e54) (mono_ob (mono_eC e43) (mono_ob (mono_eC e32) (mono_ob (mono_eC e21) (mono_ob q9.1 h5))))) d10_copy_95 ?_
  obtain ⟨h61, hf⟩ := gd_some hf
  obtain ⟨h62, hf⟩ := gd_some hf
  obtain ⟨h63, hf⟩ := gd_some hf
  obtain ⟨t64, e65, hf⟩ := lt_some hf
  refine ev_copyi w847 w656 w655 w20 h61 h62 h63 (by decide) (Nat.le_of_ble_eq_true rfl) d10_copy_98 (ev_nmS e65 ?_)
  refine ev_aload_n (j := 1) (i := 1) (q := 0) rfl rfl d10_copy_101 ?_
  refine ev_aload_n (j := 0) (i := 0) (q := 1) rfl rfl d10_copy_102 ?_
  refine ev_getI cls10 (j := 5) (by decide) rfl w194 (mono_ob (mono_eC e65) (mono_ob (mono_eC e54) (mono_ob (mono_eC e43) (mono_ob (mono_eC e32) (mono_ob (mono_eC e21) (mono_ob q9.1 h5)))))) d10_copy_103 ?_
  obtain ⟨t66, e67, hf⟩ := lt_some hf
  refine ev_putI cls10 (j := 5) (by decide) rfl rfl w194 (mono_ob (mono_eC e65) (mono_ob (mono_eC e54) (mono_ob (mono_eC e43) (mono_ob (mono_eC e32) (mono_ob (mono_eC e21) h13))))) (fun _ => ⟨rfl, rfl⟩) d10_copy_106 (ev_nmS e67 ?_)
  refine ev_aload_n (j := 1) (i := 1) (q := 0) rfl rfl d10_copy_109 ?_
  refine ev_aload_n (j := 0) (i := 0) (q := 1) rfl rfl d10_copy_110 ?_
  refine ev_getI cls10 (j := 6) (by decide) rfl w195 (mono_ob (mono_eI e67) (mono_ob (mono_eC e65) (mono_ob (mono_eC e54) (mono_ob (mono_eC e43) (mono_ob (mono_eC e32) (mono_ob (mono_eC e21) (mono_ob q9.1 h5))))))) d10_copy_111 ?_
  obtain ⟨t68, e69, hf⟩ := lt_some hf
  refine ev_putI cls10 (j := 6) (by decide) rfl rfl w195 (mono_ob (mono_eI e67) (mono_ob (mono_eC e65) (mono_ob (mono_eC e54) (mono_ob (mono_eC e43) (mono_ob (mono_eC e32) (mono_ob (mono_eC e21) h13)))))) (fun _ => ⟨rfl, rfl⟩) d10_copy_114 (ev_nmS e69 ?_)
  refine ev_aload_n (j := 1) (i := 1) (q := 0) rfl rfl d10_copy_117 ?_
  obtain ⟨rfl, rfl⟩ := ret_some hf
  exact ev_aret rfl (Or.inl ⟨_, rfl⟩) d10_copy_118
abbrev m4_keep : MD := ("MillBoats$Law", ⟨"MillBoats$Law", "keep", "(III)I"⟩, prog_6_method_4_code, 5, (some Jvm.ClassFile.FieldType.int))
theorem k4_keep : okY m4_keep.2.1 3 := ⟨by decide +kernel, by decide +kernel, by decide +kernel⟩
def f4_keep_p59 (σ : St) (v0 : Nat) : Option (Int32 × St) :=
  gd (ob σ v0 4) (
  lt (sR σ v0 5) fun b44 => (
  gd (nz b44) (
  gd (ob σ b44 7) (
  lt (sR σ b44 5) fun b48 => (
  gd (nz b48) (
  gd (ob σ b48 10) (
  some (sI σ b48 6, σ))))))))
set_option maxRecDepth 20000 in
theorem s4_keep_p59 : ∀ (σ : St) (v0 : Nat) (r : Int32) (τ : St), f4_keep_p59 σ v0 = some (r, τ) → Ev 5 m4_keep 59 [(0, .ref v0)] [] σ (some (.int r)) τ := by
  intro σ v0 r τ hf
  unfold f4_keep_p59 at hf
  refine ev_aload_n (j := 0) (i := 0) (q := 0) rfl rfl d4_keep_59 ?_
  obtain ⟨h43, hf⟩ := gd_some hf
  obtain ⟨b44, e45, hf⟩ := lt_some hf
  obtain ⟨h46, hf⟩ := gd_some hf
  refine ev_getRb cls4 (j := 5) (by decide) rfl w323 h43 e45 (nz_ne h46) d4_keep_60 ?_
  obtain ⟨h47, hf⟩ := gd_some hf
  obtain ⟨b48, e49, hf⟩ := lt_some hf
  obtain ⟨h50, hf⟩ := gd_some hf
  refine ev_getRNb cls7 (j := 5) (by decide) rfl w277 h47 e49 (nz_ne h50) d4_keep_63 ?_
  obtain ⟨h51, hf⟩ := gd_some hf
  refine ev_getIN cls10 (j := 6) (by decide) rfl w196 h51 d4_keep_66 ?_
  obtain ⟨rfl, rfl⟩ := ret_some hf
  exact ev_iret rfl d4_keep_69
def f4_keep (σ : St) (v0 : Nat) (v1 : Int32) (v2 : Int32) (v3 : Int32) : Option (Int32 × St) :=
  gd (ob σ v0 4) (
  lt (sR σ v0 3) fun b2 => (
  gd (nz b2) (
  gd (ob σ b2 18) (
  gd (inb σ b2 v1) (
  lt (sR σ b2 (ix v1)) fun b7 => (
  gd (nz b7) (
  gd (ob σ b7 1) (
  lt ((v1 * (12 : Int32)) + (sI σ b7 3)) fun y11 => (
  lt (sR σ v0 4) fun b13 => (
  gd (nz b13) (
  gd (ob σ b13 20) (
  (if y11 < (Int32.ofNat (sK σ b13).2) then
  bd (f1_tell σ b7 v2 y11 v3) fun r18 t19 => (
  (if r18 = (0 : Int32) then
  f4_keep_p59 t19 v0
  else
  lt (sR t19 v0 4) fun b23 => (
  gd (nz b23) (
  lt (sR t19 v0 5) fun b26 => (
  gd (nz b26) (
  gd (ob t19 b26 7) (
  lt (sR t19 b26 5) fun b30 => (
  gd (nz b30) (
  gd (ob t19 b30 10) (
  bd (f10_copy t19 b30) fun r34 t35 => (
  gd (ob t35 b23 20) (
  gd (inb t35 b23 y11) (
  gd (ob t35 r34 10) (
  lt (wR t35 b23 (ix y11) r34) fun t41 => (
  f4_keep_p59 t41 v0)))))))))))))))
  else
  f4_keep_p59 σ v0)))))))))))))
set_option maxRecDepth 50000 in
theorem s4_keep : ∀ (σ : St) (v0 : Nat) (v1 : Int32) (v2 : Int32) (v3 : Int32) (r : Int32) (τ : St), f4_keep σ v0 v1 v2 v3 = some (r, τ) → Call 5 m4_keep [.ref v0, .int v1, .int v2, .int v3] σ (some (.int r)) τ := by
  intro σ v0 v1 v2 v3 r τ hf
  unfold f4_keep at hf
  refine Call.of (by decide +kernel) rfl (Nat.le_of_ble_eq_true rfl) ?_
  refine ev_iload_n (j := 1) (i := 1) (q := 1) rfl rfl d4_keep_0 ?_
  refine ev_bipush cb_12 d4_keep_1 ?_
  refine ev_imul d4_keep_3 ?_
  refine ev_aload_n (j := 0) (i := 0) (q := 0) rfl rfl d4_keep_4 ?_
  obtain ⟨h1, hf⟩ := gd_some hf
  obtain ⟨b2, e3, hf⟩ := lt_some hf
  obtain ⟨h4, hf⟩ := gd_some hf
  refine ev_getRb cls4 (j := 3) (by decide) rfl w321 h1 e3 (nz_ne h4) d4_keep_5 ?_
  refine ev_iload_n (j := 1) (i := 1) (q := 1) rfl rfl d4_keep_8 ?_
  obtain ⟨h5, hf⟩ := gd_some hf
  obtain ⟨h6, hf⟩ := gd_some hf
  obtain ⟨b7, e8, hf⟩ := lt_some hf
  obtain ⟨h9, hf⟩ := gd_some hf
  refine ev_qaldb (kd := 18) (by decide) (by decide) rfl h5 h6 e8 (nz_ne h9) d4_keep_9 ?_
  obtain ⟨h10, hf⟩ := gd_some hf
  refine ev_getIN cls1 (j := 3) (by decide) rfl w158 h10 d4_keep_10 ?_
  refine ev_iadd d4_keep_13 ?_
  obtain ⟨y11, e12, hf⟩ := lt_some hf
  refine ev_nmI e12 ?_
  refine ev_istore (lv2 := [(4, .int y11), (0, .ref v0), (1, .int v1), (2, .int v2), (3, .int v3)]) (i := 4) (by decide) rfl d4_keep_14 ?_
  refine ev_iload (i := 4) (q := 0) rfl d4_keep_16 ?_
  refine ev_aload_n (j := 0) (i := 0) (q := 1) rfl rfl d4_keep_18 ?_
  obtain ⟨b13, e14, hf⟩ := lt_some hf
  obtain ⟨h15, hf⟩ := gd_some hf
  refine ev_getRb cls4 (j := 4) (by decide) rfl w322 h1 e14 (nz_ne h15) d4_keep_19 ?_
  obtain ⟨h16, hf⟩ := gd_some hf
  refine ev_alen (kd := 20) (by decide) (by decide) h16 d4_keep_22 ?_
  rcases ite_some hf with ⟨c17, hf⟩ | ⟨c17, hf⟩
  · refine ev_icmp_ge_P (tgt := 59) c17 (by decide) d4_keep_23 ?_
    refine ev_aload_n (j := 0) (i := 0) (q := 1) rfl rfl d4_keep_26 ?_
    refine ev_getRb cls4 (j := 3) (by decide) rfl w321 h1 e3 (nz_ne h4) d4_keep_27 ?_
    refine ev_iload_n (j := 1) (i := 1) (q := 2) rfl rfl d4_keep_30 ?_
    refine ev_qaldb (kd := 18) (by decide) (by decide) rfl h5 h6 e8 (nz_ne h9) d4_keep_31 ?_
    refine ev_iload_n (j := 2) (i := 2) (q := 3) rfl rfl d4_keep_32 ?_
    refine ev_iload (i := 4) (q := 0) rfl d4_keep_33 ?_
    refine ev_iload_n (j := 3) (i := 3) (q := 4) rfl rfl d4_keep_35 ?_
    obtain ⟨r18, t19, k20, hf⟩ := bd_some hf
    have q21 := s1_tell _ _ _ _ _ _ _ k20
    refine ev_callV (vs := [.int v2, .int y11, .int v3]) (sk := []) cls1 h10 q21 (by decide) (Nat.le_of_ble_eq_true rfl) w840 w666 w667 w7 w668 k1_tell rfl (Nat.le_of_ble_eq_true rfl) d4_keep_36 ?_
    rcases ite_some hf with ⟨c22, hf⟩ | ⟨c22, hf⟩
    · refine ev_if_eq_P (tgt := 59) c22 (by decide) d4_keep_39 ?_
      exact Ev.sub [1] rfl (s4_keep_p59 _ _ _ _ hf)
    · refine ev_if_eq_Q (tgt := 59) c22 (by decide) d4_keep_39 ?_
      refine ev_aload_n (j := 0) (i := 0) (q := 1) rfl rfl d4_keep_42 ?_
      obtain ⟨b23, e24, hf⟩ := lt_some hf
      obtain ⟨h25, hf⟩ := gd_some hf
      refine ev_getRb cls4 (j := 4) (by decide) rfl w322 (mono_ob q21.1 h1) e24 (nz_ne h25) d4_keep_43 ?_
      refine ev_iload (i := 4) (q := 0) rfl d4_keep_46 ?_
      refine ev_aload_n (j := 0) (i := 0) (q := 1) rfl rfl d4_keep_48 ?_
      obtain ⟨b26, e27, hf⟩ := lt_some hf
      obtain ⟨h28, hf⟩ := gd_some hf
      refine ev_getRb cls4 (j := 5) (by decide) rfl w323 (mono_ob q21.1 h1) e27 (nz_ne h28) d4_keep_49 ?_
      obtain ⟨h29, hf⟩ := gd_some hf
      obtain ⟨b30, e31, hf⟩ := lt_some hf
      obtain ⟨h32, hf⟩ := gd_some hf
      refine ev_getRNb cls7 (j := 5) (by decide) rfl w277 h29 e31 (nz_ne h32) d4_keep_52 ?_
      obtain ⟨h33, hf⟩ := gd_some hf
      obtain ⟨r34, t35, k36, hf⟩ := bd_some hf
      have q37 := s10_copy _ _ _ _ k36
      refine ev_callV (vs := []) (sk := [.int y11, .ref b23]) cls10 h33 q37 (by decide) (Nat.le_of_ble_eq_true rfl) w841 w842 w843 w10 w844 k10_copy rfl (Nat.le_of_ble_eq_true rfl) d4_keep_55 ?_
      obtain ⟨h38, hf⟩ := gd_some hf
      obtain ⟨h39, hf⟩ := gd_some hf
      obtain ⟨h40, hf⟩ := gd_some hf
      obtain ⟨t41, e42, hf⟩ := lt_some hf
      refine ev_qast cls10 (kd := 20) (by decide) (by decide) rfl h38 h39 h40 d4_keep_58 (ev_nmS e42 ?_)
      exact Ev.sub [1] rfl (s4_keep_p59 _ _ _ _ hf)
  · refine ev_icmp_ge_Q (tgt := 59) c17 (by decide) d4_keep_23 ?_
    exact Ev.sub [1] rfl (s4_keep_p59 _ _ _ _ hf)
abbrev mJ7_fill_53178 : MD := ("java/util/Arrays", ⟨"java/util/Arrays", "fill", "([II)V"⟩, prog_29_method_103_code, 4, (none : Option Jvm.ClassFile.FieldType))
theorem kJ7_fill_53178 : okY mJ7_fill_53178.2.1 2 := ⟨by decide +kernel, by decide +kernel, by decide +kernel⟩
def fJ7_fill_53178_p5 : Nat → St → Nat → Int32 → Int32 → Int32 → Option (Unit × St)
  | 0, _, _, _, _, _ => none
  | n + 1, σ, v0, v1, v2, v3 =>
  (if v2 < v3 then
  gd (ob σ v0 14) (
  gd (inb σ v0 v2) (
  lt (wI σ v0 (ix v2) v1) fun t7 => (
  lt (v2 + (1 : Int32)) fun y9 => (
  (fJ7_fill_53178_p5 n) t7 v0 v1 y9 v3))))
  else
  some ((), σ))
set_option maxRecDepth 20000 in
theorem sJ7_fill_53178_p5 : ∀ (n : Nat) (σ : St) (v0 : Nat) (v1 : Int32) (v2 : Int32) (v3 : Int32) (r : Unit) (τ : St), fJ7_fill_53178_p5 n σ v0 v1 v2 v3 = some (r, τ) → Ev 2 mJ7_fill_53178 5 [(0, .ref v0), (1, .int v1), (2, .int v2), (3, .int v3)] [] σ none τ := by
  intro n
  induction n with
  | zero =>
    intro σ v0 v1 v2 v3 r τ hf
    cases hf
  | succ n ih =>
    intro σ v0 v1 v2 v3 r τ hf
    rw [fJ7_fill_53178_p5] at hf
    refine ev_iload_n (j := 2) (i := 2) (q := 2) rfl rfl dJ7_fill_53178_5 ?_
    refine ev_iload_n (j := 3) (i := 3) (q := 3) rfl rfl dJ7_fill_53178_6 ?_
    rcases ite_some hf with ⟨c4, hf⟩ | ⟨c4, hf⟩
    · refine ev_icmp_ge_P (tgt := 20) c4 (by decide) dJ7_fill_53178_7 ?_
      refine ev_aload_n (j := 0) (i := 0) (q := 0) rfl rfl dJ7_fill_53178_10 ?_
      refine ev_iload_n (j := 2) (i := 2) (q := 2) rfl rfl dJ7_fill_53178_11 ?_
      refine ev_iload_n (j := 1) (i := 1) (q := 1) rfl rfl dJ7_fill_53178_12 ?_
      obtain ⟨h5, hf⟩ := gd_some hf
      obtain ⟨h6, hf⟩ := gd_some hf
      obtain ⟨t7, e8, hf⟩ := lt_some hf
      refine ev_iast h5 h6 dJ7_fill_53178_13 (ev_nmS e8 ?_)
      obtain ⟨y9, e10, hf⟩ := lt_some hf
      refine ev_iinc (lv2 := [(2, .int y9), (0, .ref v0), (1, .int v1), (3, .int v3)]) (i := 2) (q := 2) (v := y9) (n := 1) rfl (by rw [ci_1]; exact e10.symm) (by decide) rfl dJ7_fill_53178_14 ?_
      refine ev_goto (tgt := 5) (by decide) dJ7_fill_53178_17 ?_
      exact Ev.sub [1, 2, 0, 3] rfl (ih _ _ _ _ _ _ _ hf)
    · refine ev_icmp_ge_Q (tgt := 20) c4 (by decide) dJ7_fill_53178_7 ?_
      obtain ⟨-, rfl⟩ := ret_some hf
      exact ev_vret rfl dJ7_fill_53178_20
def fJ7_fill_53178 (σ : St) (v0 : Nat) (v1 : Int32) : Option (Unit × St) :=
  gd (ob σ v0 14) (
  lt (Int32.ofNat (sK σ v0).2) fun y2 => (
  fJ7_fill_53178_p5 FU σ v0 v1 (0 : Int32) y2))
set_option maxRecDepth 50000 in
theorem sJ7_fill_53178 : ∀ (σ : St) (v0 : Nat) (v1 : Int32) (r : Unit) (τ : St), fJ7_fill_53178 σ v0 v1 = some (r, τ) → Call 2 mJ7_fill_53178 [.ref v0, .int v1] σ none τ := by
  intro σ v0 v1 r τ hf
  unfold fJ7_fill_53178 at hf
  refine Call.of (by decide +kernel) rfl (Nat.le_of_ble_eq_true rfl) ?_
  refine ev_iconst ci_0 dJ7_fill_53178_0 ?_
  refine ev_istore_n (lv2 := [(2, .int (0 : Int32)), (0, .ref v0), (1, .int v1)]) (j := 2) (i := 2) rfl (by decide) rfl dJ7_fill_53178_1 ?_
  refine ev_aload_n (j := 0) (i := 0) (q := 1) rfl rfl dJ7_fill_53178_2 ?_
  obtain ⟨h1, hf⟩ := gd_some hf
  refine ev_alen (kd := 14) (by decide) (by decide) h1 dJ7_fill_53178_3 ?_
  obtain ⟨y2, e3, hf⟩ := lt_some hf
  refine ev_nmI e3 ?_
  refine ev_istore_n (lv2 := [(3, .int y2), (2, .int (0 : Int32)), (0, .ref v0), (1, .int v1)]) (j := 3) (i := 3) rfl (by decide) rfl dJ7_fill_53178_4 ?_
  exact Ev.sub [2, 3, 1, 0] rfl (sJ7_fill_53178_p5 FU _ _ _ _ _ _ _ hf)
abbrev m4_giveStretch : MD := ("MillBoats$Law", ⟨"MillBoats$Law", "giveStretch", "(III)V"⟩, prog_6_method_7_code, 4, (none : Option Jvm.ClassFile.FieldType))
theorem k4_giveStretch : okY m4_giveStretch.2.1 3 := ⟨by decide +kernel, by decide +kernel, by decide +kernel⟩
def f4_giveStretch (σ : St) (v0 : Nat) (v1 : Int32) (v2 : Int32) (v3 : Int32) : Option (Unit × St) :=
  gd (ob σ v0 4) (
  lt (sR σ v0 6) fun b2 => (
  gd (nz b2) (
  bd (fJ7_fill_53178 σ b2 (0 : Int32)) fun r5 t6 => (
  lt (sR t6 v0 6) fun b9 => (
  gd (nz b9) (
  gd (ob t6 b9 14) (
  gd (inb t6 b9 (1 : Int32)) (
  lt (wI t6 b9 (ix (1 : Int32)) v1) fun t14 => (
  lt (sR t14 v0 1) fun b16 => (
  gd (nz b16) (
  gd (ob t14 b16 1) (
  bd (f1_latestOr t14 b16 v2 v3 (5 : Int32)) fun r20 t21 => (
  gd (inb t21 b9 (2 : Int32)) (
  lt (wI t21 b9 (ix (2 : Int32)) r20) fun t25 => (
  lt (sR t25 v0 6) fun b27 => (
  gd (nz b27) (
  gd (ob t25 b27 14) (
  gd (inb t25 b27 (4 : Int32)) (
  lt (wI t25 b27 (ix (4 : Int32)) v2) fun t32 => (
  some ((), t32)))))))))))))))))))))
set_option maxRecDepth 50000 in
theorem s4_giveStretch : ∀ (σ : St) (v0 : Nat) (v1 : Int32) (v2 : Int32) (v3 : Int32) (r : Unit) (τ : St), f4_giveStretch σ v0 v1 v2 v3 = some (r, τ) → Call 4 m4_giveStretch [.ref v0, .int v1, .int v2, .int v3] σ none τ := by
  intro σ v0 v1 v2 v3 r τ hf
  unfold f4_giveStretch at hf
  refine Call.of (by decide +kernel) rfl (Nat.le_of_ble_eq_true rfl) ?_
  refine ev_aload_n (j := 0) (i := 0) (q := 0) rfl rfl d4_giveStretch_0 ?_
  obtain ⟨h1, hf⟩ := gd_some hf
  obtain ⟨b2, e3, hf⟩ := lt_some hf
  obtain ⟨h4, hf⟩ := gd_some hf
  refine ev_getRb cls4 (j := 6) (by decide) rfl w325 h1 e3 (nz_ne h4) d4_giveStretch_1 ?_
  refine ev_iconst ci_0 d4_giveStretch_4 ?_
  obtain ⟨r5, t6, k7, hf⟩ := bd_some hf
  have q8 := sJ7_fill_53178 _ _ _ _ _ k7
  refine ev_callS (vs := [.ref b2, .int (0 : Int32)]) (sk := []) q8 (by decide) (Nat.le_of_ble_eq_true rfl) w921 w101 w5 w102 kJ7_fill_53178 rfl (Nat.le_of_ble_eq_true rfl) d4_giveStretch_5 ?_
  refine ev_aload_n (j := 0) (i := 0) (q := 0) rfl rfl d4_giveStretch_8 ?_
  obtain ⟨b9, e10, hf⟩ := lt_some hf
  obtain ⟨h11, hf⟩ := gd_some hf
  refine ev_getRb cls4 (j := 6) (by decide) rfl w325 (mono_ob q8.1 h1) e10 (nz_ne h11) d4_giveStretch_9 ?_
  refine ev_iconst ci_1 d4_giveStretch_12 ?_
  refine ev_iload_n (j := 1) (i := 1) (q := 1) rfl rfl d4_giveStretch_13 ?_
  obtain ⟨h12, hf⟩ := gd_some hf
  obtain ⟨h13, hf⟩ := gd_some hf
  obtain ⟨t14, e15, hf⟩ := lt_some hf
  refine ev_iast h12 h13 d4_giveStretch_14 (ev_nmS e15 ?_)
  refine ev_aload_n (j := 0) (i := 0) (q := 0) rfl rfl d4_giveStretch_15 ?_
  refine ev_getRb cls4 (j := 6) (by decide) rfl w325 (mono_ob (mono_eI e15) (mono_ob q8.1 h1)) (tr_I e15 e10) (nz_ne h11) d4_giveStretch_16 ?_
  refine ev_iconst ci_2 d4_giveStretch_19 ?_
  refine ev_aload_n (j := 0) (i := 0) (q := 0) rfl rfl d4_giveStretch_20 ?_
  obtain ⟨b16, e17, hf⟩ := lt_some hf
  obtain ⟨h18, hf⟩ := gd_some hf
  refine ev_getRb cls4 (j := 1) (by decide) rfl w315 (mono_ob (mono_eI e15) (mono_ob q8.1 h1)) e17 (nz_ne h18) d4_giveStretch_21 ?_
  refine ev_iload_n (j := 2) (i := 2) (q := 2) rfl rfl d4_giveStretch_24 ?_
  refine ev_iload_n (j := 3) (i := 3) (q := 3) rfl rfl d4_giveStretch_25 ?_
  refine ev_iconst ci_5 d4_giveStretch_26 ?_
  obtain ⟨h19, hf⟩ := gd_some hf
  obtain ⟨r20, t21, k22, hf⟩ := bd_some hf
  have q23 := s1_latestOr _ _ _ _ _ _ _ k22
  refine ev_callV (vs := [.int v2, .int v3, .int (5 : Int32)]) (sk := [.int (2 : Int32), .ref b9]) cls1 h19 q23 (by decide) (Nat.le_of_ble_eq_true rfl) w864 w682 w683 w7 w684 k1_latestOr rfl (Nat.le_of_ble_eq_true rfl) d4_giveStretch_27 ?_
  obtain ⟨h24, hf⟩ := gd_some hf
  obtain ⟨t25, e26, hf⟩ := lt_some hf
  refine ev_iast (mono_ob q23.1 (mono_ob (mono_eI e15) h12)) h24 d4_giveStretch_30 (ev_nmS e26 ?_)
  refine ev_aload_n (j := 0) (i := 0) (q := 0) rfl rfl d4_giveStretch_31 ?_
  obtain ⟨b27, e28, hf⟩ := lt_some hf
  obtain ⟨h29, hf⟩ := gd_some hf
  refine ev_getRb cls4 (j := 6) (by decide) rfl w325 (mono_ob (mono_eI e26) (mono_ob q23.1 (mono_ob (mono_eI e15) (mono_ob q8.1 h1)))) e28 (nz_ne h29) d4_giveStretch_32 ?_
  refine ev_iconst ci_4 d4_giveStretch_35 ?_
  refine ev_iload_n (j := 2) (i := 2) (q := 2) rfl rfl d4_giveStretch_36 ?_
  obtain ⟨h30, hf⟩ := gd_some hf
  obtain ⟨h31, hf⟩ := gd_some hf
  obtain ⟨t32, e33, hf⟩ := lt_some hf
  refine ev_iast h30 h31 d4_giveStretch_37 (ev_nmS e33 ?_)
  obtain ⟨-, rfl⟩ := ret_some hf
  exact ev_vret rfl d4_giveStretch_38
abbrev m4_wordRule : MD := ("MillBoats$Law", ⟨"MillBoats$Law", "wordRule", "(IIIII)I"⟩, prog_6_method_8_code, 6, (some Jvm.ClassFile.FieldType.int))
theorem k4_wordRule : okY m4_wordRule.2.1 5 := ⟨by decide +kernel, by decide +kernel, by decide +kernel⟩
def f4_wordRule (σ : St) (v0 : Nat) (v1 : Int32) (v2 : Int32) (v3 : Int32) (v4 : Int32) (v5 : Int32) : Option (Int32 × St) :=
  gd (ob σ v0 4) (
  bd (f4_giveBoat σ v0 v2 v3 v4 v5) fun r2 t3 => (
  bd (f4_inForce t3 v0 v1 v4 v5) fun r6 t7 => (
  (if r6 = 0 then
  bd (f4_lastHolding t7 v0 0 (257 : Int32) (258 : Int32)) fun r11 t12 => (
  some (r11, t12))
  else
  bd (f4_lastHolding t7 v0 r6 (257 : Int32) (258 : Int32)) fun r15 t16 => (
  some (r15, t16))))))
set_option maxRecDepth 50000 in
theorem s4_wordRule : ∀ (σ : St) (v0 : Nat) (v1 : Int32) (v2 : Int32) (v3 : Int32) (v4 : Int32) (v5 : Int32) (r : Int32) (τ : St), f4_wordRule σ v0 v1 v2 v3 v4 v5 = some (r, τ) → Call 5 m4_wordRule [.ref v0, .int v1, .int v2, .int v3, .int v4, .int v5] σ (some (.int r)) τ := by
  intro σ v0 v1 v2 v3 v4 v5 r τ hf
  unfold f4_wordRule at hf
  refine Call.of (by decide +kernel) rfl (Nat.le_of_ble_eq_true rfl) ?_
  refine ev_aload_n (j := 0) (i := 0) (q := 0) rfl rfl d4_wordRule_0 ?_
  refine ev_iload_n (j := 2) (i := 2) (q := 2) rfl rfl d4_wordRule_1 ?_
  refine ev_iload_n (j := 3) (i := 3) (q := 3) rfl rfl d4_wordRule_2 ?_
  refine ev_iload (i := 4) (q := 4) rfl d4_wordRule_3 ?_
  refine ev_iload (i := 5) (q := 5) rfl d4_wordRule_5 ?_
  obtain ⟨h1, hf⟩ := gd_some hf
  obtain ⟨r2, t3, k4, hf⟩ := bd_some hf
  have q5 := s4_giveBoat _ _ _ _ _ _ _ _ k4
  refine ev_callV (vs := [.int v2, .int v3, .int v4, .int v5]) (sk := []) cls4 h1 q5 (by decide) (Nat.le_of_ble_eq_true rfl) w860 w862 ws25 w6 w863 k4_giveBoat rfl (Nat.le_of_ble_eq_true rfl) d4_wordRule_7 ?_
  refine ev_aload_n (j := 0) (i := 0) (q := 0) rfl rfl d4_wordRule_10 ?_
  refine ev_aload_n (j := 0) (i := 0) (q := 0) rfl rfl d4_wordRule_11 ?_
  refine ev_iload_n (j := 1) (i := 1) (q := 1) rfl rfl d4_wordRule_12 ?_
  refine ev_iload (i := 4) (q := 4) rfl d4_wordRule_13 ?_
  refine ev_iload (i := 5) (q := 5) rfl d4_wordRule_15 ?_
  obtain ⟨r6, t7, k8, hf⟩ := bd_some hf
  have q9 := s4_inForce _ _ _ _ _ _ _ k8
  refine ev_callV (vs := [.int v1, .int v4, .int v5]) (sk := [.ref v0]) cls4 (mono_ob q5.1 h1) q9 (by decide) (Nat.le_of_ble_eq_true rfl) w870 w872 ws26 w6 w873 k4_inForce rfl (Nat.le_of_ble_eq_true rfl) d4_wordRule_17 ?_
  rcases ite_some hf with ⟨c10, hf⟩ | ⟨c10, hf⟩
  · refine ev_nv0 c10 ?_
    refine ev_sipush cs_257 d4_wordRule_20 ?_
    refine ev_sipush cs_258 d4_wordRule_23 ?_
    obtain ⟨r11, t12, k13, hf⟩ := bd_some hf
    have q14 := s4_lastHolding _ _ _ _ _ _ _ k13
    rw [nv_0 rfl] at q14
    refine ev_callV (vs := [.null, .int (257 : Int32), .int (258 : Int32)]) (sk := []) cls4 (mono_ob q9.1 (mono_ob q5.1 h1)) q14 (by decide) (Nat.le_of_ble_eq_true rfl) w878 w880 ws28 w6 w881 k4_lastHolding rfl (Nat.le_of_ble_eq_true rfl) d4_wordRule_26 ?_
    obtain ⟨rfl, rfl⟩ := ret_some hf
    exact ev_iret rfl d4_wordRule_29
  · refine ev_nv1 c10 ?_
    refine ev_sipush cs_257 d4_wordRule_20 ?_
    refine ev_sipush cs_258 d4_wordRule_23 ?_
    obtain ⟨r15, t16, k17, hf⟩ := bd_some hf
    have q18 := s4_lastHolding _ _ _ _ _ _ _ k17
    rw [nv_1 c10] at q18
    refine ev_callV (vs := [.ref r6, .int (257 : Int32), .int (258 : Int32)]) (sk := []) cls4 (mono_ob q9.1 (mono_ob q5.1 h1)) q18 (by decide) (Nat.le_of_ble_eq_true rfl) w878 w880 ws28 w6 w881 k4_lastHolding rfl (Nat.le_of_ble_eq_true rfl) d4_wordRule_26 ?_
    obtain ⟨rfl, rfl⟩ := ret_some hf
    exact ev_iret rfl d4_wordRule_29
abbrev m4_wayOn : MD := ("MillBoats$Law", ⟨"MillBoats$Law", "wayOn", "(III)I"⟩, prog_6_method_11_code, 8, (some Jvm.ClassFile.FieldType.int))
theorem k4_wayOn : okY m4_wayOn.2.1 3 := ⟨by decide +kernel, by decide +kernel, by decide +kernel⟩
def f4_wayOn_p68 (K13 : St → Nat → Int32 → Int32 → Int32 → Int32 → Option (Int32 × St)) (σ : St) (v0 : Nat) (v2 : Int32) (v3 : Int32) (v4 : Int32) (v5 : Int32) : Option (Int32 × St) :=
  lt (v5 + (1 : Int32)) fun y32 => (
  K13 σ v0 v2 v3 v4 y32)
set_option maxRecDepth 20000 in
theorem s4_wayOn_p68 {K13 : St → Nat → Int32 → Int32 → Int32 → Int32 → Option (Int32 × St)} (hK13 : ∀ (σ : St) (v0 : Nat) (v2 : Int32) (v3 : Int32) (v4 : Int32) (v5 : Int32) (r : Int32) (τ : St), K13 σ v0 v2 v3 v4 v5 = some (r, τ) → Ev 5 m4_wayOn 13 [(0, .ref v0), (2, .int v2), (3, .int v3), (4, .int v4), (5, .int v5)] [] σ (some (.int r)) τ) : ∀ (σ : St) (v0 : Nat) (v2 : Int32) (v3 : Int32) (v4 : Int32) (v5 : Int32) (r : Int32) (τ : St), f4_wayOn_p68 K13 σ v0 v2 v3 v4 v5 = some (r, τ) → Ev 5 m4_wayOn 68 [(0, .ref v0), (2, .int v2), (3, .int v3), (4, .int v4), (5, .int v5)] [] σ (some (.int r)) τ := by
  intro σ v0 v2 v3 v4 v5 r τ hf
  unfold f4_wayOn_p68 at hf
  obtain ⟨y32, e33, hf⟩ := lt_some hf
  refine ev_iinc (lv2 := [(5, .int y32), (0, .ref v0), (2, .int v2), (3, .int v3), (4, .int v4)]) (i := 5) (q := 4) (v := y32) (n := 1) rfl (by rw [ci_1]; exact e33.symm) (by decide) rfl d4_wayOn_68 ?_
  refine ev_goto (tgt := 13) (by decide) d4_wayOn_71 ?_
  exact Ev.sub [1, 2, 3, 4, 0] rfl (hK13 _ _ _ _ _ _ _ _ hf)
def f4_wayOn_p13 : Nat → St → Nat → Int32 → Int32 → Int32 → Int32 → Option (Int32 × St)
  | 0, _, _, _, _, _, _ => none
  | n + 1, σ, v0, v2, v3, v4, v5 =>
  (if v5 < (2 : Int32) then
  gd (ob σ v0 4) (
  bd (f4_inForce σ v0 v5 v2 v3) fun r8 t9 => (
  (if r8 = 0 then
  bd (f4_lastHolding t9 v0 0 (261 : Int32) (261 : Int32)) fun r13 t14 => (
  f4_wayOn_p68 (f4_wayOn_p13 n) t14 v0 v2 v3 v4 v5)
  else
  bd (f4_lastHolding t9 v0 r8 (261 : Int32) (261 : Int32)) fun r17 t18 => (
  (if r17 < (0 : Int32) then
  f4_wayOn_p68 (f4_wayOn_p13 n) t18 v0 v2 v3 v4 v5
  else
  gd (ob t18 r8 10) (
  lt (sR t18 r8 3) fun b23 => (
  gd (nz b23) (
  gd (ob t18 b23 14) (
  gd (inb t18 b23 r17) (
  bd (fJ9_max_7cf53 t18 v4 (sI t18 b23 (ix r17))) fun r28 t29 => (
  f4_wayOn_p68 (f4_wayOn_p13 n) t29 v0 v2 v3 r28 v5)))))))))))
  else
  some (v4, σ))
set_option maxRecDepth 20000 in
theorem s4_wayOn_p13 : ∀ (n : Nat) (σ : St) (v0 : Nat) (v2 : Int32) (v3 : Int32) (v4 : Int32) (v5 : Int32) (r : Int32) (τ : St), f4_wayOn_p13 n σ v0 v2 v3 v4 v5 = some (r, τ) → Ev 5 m4_wayOn 13 [(0, .ref v0), (2, .int v2), (3, .int v3), (4, .int v4), (5, .int v5)] [] σ (some (.int r)) τ := by
  intro n
  induction n with
  | zero =>
    intro σ v0 v2 v3 v4 v5 r τ hf
    cases hf
  | succ n ih =>
    intro σ v0 v2 v3 v4 v5 r τ hf
    rw [f4_wayOn_p13] at hf
    refine ev_iload (i := 5) (q := 4) rfl d4_wayOn_13 ?_
    refine ev_iconst ci_2 d4_wayOn_15 ?_
    rcases ite_some hf with ⟨c6, hf⟩ | ⟨c6, hf⟩
    · refine ev_icmp_ge_P (tgt := 74) c6 (by decide) d4_wayOn_16 ?_
      refine ev_aload_n (j := 0) (i := 0) (q := 0) rfl rfl d4_wayOn_19 ?_
      refine ev_iload (i := 5) (q := 4) rfl d4_wayOn_20 ?_
      refine ev_iload_n (j := 2) (i := 2) (q := 1) rfl rfl d4_wayOn_22 ?_
      refine ev_iload_n (j := 3) (i := 3) (q := 2) rfl rfl d4_wayOn_23 ?_
      obtain ⟨h7, hf⟩ := gd_some hf
      obtain ⟨r8, t9, k10, hf⟩ := bd_some hf
      have q11 := s4_inForce _ _ _ _ _ _ _ k10
      refine ev_callV (vs := [.int v5, .int v2, .int v3]) (sk := []) cls4 h7 q11 (by decide) (Nat.le_of_ble_eq_true rfl) w870 w872 ws26 w6 w873 k4_inForce rfl (Nat.le_of_ble_eq_true rfl) d4_wayOn_24 ?_
      rcases ite_some hf with ⟨c12, hf⟩ | ⟨c12, hf⟩
      · refine ev_nv0 c12 ?_
        refine ev_astoreN (lv2 := [(6, .null), (0, .ref v0), (2, .int v2), (3, .int v3), (4, .int v4), (5, .int v5)]) (i := 6) (by decide) rfl d4_wayOn_27 ?_
        refine ev_aload_n (j := 0) (i := 0) (q := 1) rfl rfl d4_wayOn_29 ?_
        refine ev_aloadN (i := 6) (q := 0) rfl d4_wayOn_30 ?_
        refine ev_sipush cs_261 d4_wayOn_32 ?_
        refine ev_sipush cs_261 d4_wayOn_35 ?_
        obtain ⟨r13, t14, k15, hf⟩ := bd_some hf
        have q16 := s4_lastHolding _ _ _ _ _ _ _ k15
        rw [nv_0 rfl] at q16
        refine ev_callV (vs := [.null, .int (261 : Int32), .int (261 : Int32)]) (sk := []) cls4 (mono_ob q11.1 h7) q16 (by decide) (Nat.le_of_ble_eq_true rfl) w878 w880 ws28 w6 w881 k4_lastHolding rfl (Nat.le_of_ble_eq_true rfl) d4_wayOn_38 ?_
        refine ev_istore (lv2 := [(7, .int r13), (6, .null), (0, .ref v0), (2, .int v2), (3, .int v3), (4, .int v4), (5, .int v5)]) (i := 7) (by decide) rfl d4_wayOn_41 ?_
        refine ev_aloadN (i := 6) (q := 1) rfl d4_wayOn_43 ?_
        refine ev_ifnull_n (tgt := 68) (by decide) d4_wayOn_45 ?_
        exact Ev.sub [2, 3, 4, 5, 6] rfl (s4_wayOn_p68 ih _ _ _ _ _ _ _ _ hf)
      · refine ev_nv1 c12 ?_
        refine ev_astore (lv2 := [(6, .ref r8), (0, .ref v0), (2, .int v2), (3, .int v3), (4, .int v4), (5, .int v5)]) (i := 6) (by decide) rfl d4_wayOn_27 ?_
        refine ev_aload_n (j := 0) (i := 0) (q := 1) rfl rfl d4_wayOn_29 ?_
        refine ev_aload (i := 6) (q := 0) rfl d4_wayOn_30 ?_
        refine ev_sipush cs_261 d4_wayOn_32 ?_
        refine ev_sipush cs_261 d4_wayOn_35 ?_
        obtain ⟨r17, t18, k19, hf⟩ := bd_some hf
        have q20 := s4_lastHolding _ _ _ _ _ _ _ k19
        rw [nv_1 c12] at q20
        refine ev_callV (vs := [.ref r8, .int (261 : Int32), .int (261 : Int32)]) (sk := []) cls4 (mono_ob q11.1 h7) q20 (by decide) (Nat.le_of_ble_eq_true rfl) w878 w880 ws28 w6 w881 k4_lastHolding rfl (Nat.le_of_ble_eq_true rfl) d4_wayOn_38 ?_
        refine ev_istore (lv2 := [(7, .int r17), (6, .ref r8), (0, .ref v0), (2, .int v2), (3, .int v3), (4, .int v4), (5, .int v5)]) (i := 7) (by decide) rfl d4_wayOn_41 ?_
        refine ev_aload (i := 6) (q := 1) rfl d4_wayOn_43 ?_
        refine ev_ifnull_r d4_wayOn_45 ?_
        refine ev_iload (i := 7) (q := 0) rfl d4_wayOn_48 ?_
        rcases ite_some hf with ⟨c21, hf⟩ | ⟨c21, hf⟩
        · refine ev_if_lt_P (tgt := 68) c21 (by decide) d4_wayOn_50 ?_
          exact Ev.sub [2, 3, 4, 5, 6] rfl (s4_wayOn_p68 ih _ _ _ _ _ _ _ _ hf)
        · refine ev_if_lt_Q (tgt := 68) c21 (by decide) d4_wayOn_50 ?_
          refine ev_iload (i := 4) (q := 5) rfl d4_wayOn_53 ?_
          refine ev_aload (i := 6) (q := 1) rfl d4_wayOn_55 ?_
          obtain ⟨h22, hf⟩ := gd_some hf
          obtain ⟨b23, e24, hf⟩ := lt_some hf
          obtain ⟨h25, hf⟩ := gd_some hf
          refine ev_getRNb cls10 (j := 3) (by decide) rfl w191 h22 e24 (nz_ne h25) d4_wayOn_57 ?_
          refine ev_iload (i := 7) (q := 0) rfl d4_wayOn_60 ?_
          obtain ⟨h26, hf⟩ := gd_some hf
          obtain ⟨h27, hf⟩ := gd_some hf
          refine ev_iald h26 h27 d4_wayOn_62 ?_
          obtain ⟨r28, t29, k30, hf⟩ := bd_some hf
          have q31 := sJ9_max_7cf53 _ _ _ _ _ k30
          refine ev_callS (vs := [.int v4, .int (sI t18 b23 (ix r17))]) (sk := []) q31 (by decide) (Nat.le_of_ble_eq_true rfl) w922 w152 w8 w153 kJ9_max_7cf53 rfl (Nat.le_of_ble_eq_true rfl) d4_wayOn_63 ?_
          refine ev_istore (lv2 := [(4, .int r28), (7, .int r17), (6, .ref r8), (0, .ref v0), (2, .int v2), (3, .int v3), (5, .int v5)]) (i := 4) (by decide) rfl d4_wayOn_66 ?_
          exact Ev.sub [3, 4, 5, 0, 6] rfl (s4_wayOn_p68 ih _ _ _ _ _ _ _ _ hf)
    · refine ev_icmp_ge_Q (tgt := 74) c6 (by decide) d4_wayOn_16 ?_
      refine ev_iload (i := 4) (q := 3) rfl d4_wayOn_74 ?_
      obtain ⟨rfl, rfl⟩ := ret_some hf
      exact ev_iret rfl d4_wayOn_76
def f4_wayOn (σ : St) (v0 : Nat) (v1 : Int32) (v2 : Int32) (v3 : Int32) : Option (Int32 × St) :=
  gd (ob σ v0 4) (
  bd (f4_giveStretch σ v0 v1 v2 v3) fun r2 t3 => (
  f4_wayOn_p13 FU t3 v0 v2 v3 (0 : Int32) (0 : Int32)))
set_option maxRecDepth 50000 in
theorem s4_wayOn : ∀ (σ : St) (v0 : Nat) (v1 : Int32) (v2 : Int32) (v3 : Int32) (r : Int32) (τ : St), f4_wayOn σ v0 v1 v2 v3 = some (r, τ) → Call 5 m4_wayOn [.ref v0, .int v1, .int v2, .int v3] σ (some (.int r)) τ := by
  intro σ v0 v1 v2 v3 r τ hf
  unfold f4_wayOn at hf
  refine Call.of (by decide +kernel) rfl (Nat.le_of_ble_eq_true rfl) ?_
  refine ev_aload_n (j := 0) (i := 0) (q := 0) rfl rfl d4_wayOn_0 ?_
  refine ev_iload_n (j := 1) (i := 1) (q := 1) rfl rfl d4_wayOn_1 ?_
  refine ev_iload_n (j := 2) (i := 2) (q := 2) rfl rfl d4_wayOn_2 ?_
  refine ev_iload_n (j := 3) (i := 3) (q := 3) rfl rfl d4_wayOn_3 ?_
  obtain ⟨h1, hf⟩ := gd_some hf
  obtain ⟨r2, t3, k4, hf⟩ := bd_some hf
  have q5 := s4_giveStretch _ _ _ _ _ _ _ k4
  refine ev_callV (vs := [.int v1, .int v2, .int v3]) (sk := []) cls4 h1 q5 (by decide) (Nat.le_of_ble_eq_true rfl) w917 w919 ws31 w6 w920 k4_giveStretch rfl (Nat.le_of_ble_eq_true rfl) d4_wayOn_4 ?_
  refine ev_iconst ci_0 d4_wayOn_7 ?_
  refine ev_istore (lv2 := [(4, .int (0 : Int32)), (0, .ref v0), (1, .int v1), (2, .int v2), (3, .int v3)]) (i := 4) (by decide) rfl d4_wayOn_8 ?_
  refine ev_iconst ci_0 d4_wayOn_10 ?_
  refine ev_istore (lv2 := [(5, .int (0 : Int32)), (4, .int (0 : Int32)), (0, .ref v0), (1, .int v1), (2, .int v2), (3, .int v3)]) (i := 5) (by decide) rfl d4_wayOn_11 ?_
  exact Ev.sub [2, 4, 5, 1, 0] rfl (s4_wayOn_p13 FU _ _ _ _ _ _ _ _ hf)
abbrev m5_init : MD := ("MillBoats$Mover", ⟨"MillBoats$Mover", "<init>", "(LMillBoats$River;LMillBoats$Planner;)V"⟩, prog_7_method_1_code, 3, (none : Option Jvm.ClassFile.FieldType))
theorem k5_init : okY m5_init.2.1 2 := ⟨by decide +kernel, by decide +kernel, by decide +kernel⟩
def f5_init (σ : St) (v0 : Nat) (v1 : Nat) (v2 : Nat) : Option (Unit × St) :=
  lt (sN σ + 1) fun b1 => (
  gd (szOk (3 : Int32)) (
  lt (wN σ 14 (ix (3 : Int32))) fun t4 => (
  gd (ob t4 v0 5) (
  lt (wR t4 v0 2 b1) fun t7 => (
  lt (sN t7 + 1) fun b9 => (
  gd (szOk (3 : Int32)) (
  lt (wN t7 14 (ix (3 : Int32))) fun t12 => (
  lt (wR t12 v0 3 b9) fun t14 => (
  lt (sN t14 + 1) fun b16 => (
  gd (szOk (6 : Int32)) (
  lt (wN t14 14 (ix (6 : Int32))) fun t19 => (
  lt (wR t19 v0 4 b16) fun t21 => (
  lt (sN t21 + 1) fun b23 => (
  gd (szOk (72 : Int32)) (
  lt (wN t21 14 (ix (72 : Int32))) fun t26 => (
  lt (wR t26 v0 5 b23) fun t28 => (
  lt (sN t28 + 1) fun b30 => (
  gd (szOk (72 : Int32)) (
  lt (wN t28 14 (ix (72 : Int32))) fun t33 => (
  lt (wR t33 v0 6 b30) fun t35 => (
  gd (nz v1) (
  lt (wR t35 v0 0 v1) fun t38 => (
  gd (nz v2) (
  lt (wR t38 v0 1 v2) fun t41 => (
  some ((), t41))))))))))))))))))))))))))
set_option maxRecDepth 50000 in
theorem s5_init : ∀ (σ : St) (v0 : Nat) (v1 : Nat) (v2 : Nat) (r : Unit) (τ : St), f5_init σ v0 v1 v2 = some (r, τ) → Call 2 m5_init [.ref v0, .ref v1, .ref v2] σ none τ := by
  intro σ v0 v1 v2 r τ hf
  unfold f5_init at hf
  refine Call.of (by decide +kernel) rfl (Nat.le_of_ble_eq_true rfl) ?_
  refine ev_aload_n (j := 0) (i := 0) (q := 0) rfl rfl d5_init_0 ?_
  refine ev_objInit w473 w32 w33 (by decide) (Nat.le_of_ble_eq_true rfl) d5_init_1 ?_
  refine ev_aload_n (j := 0) (i := 0) (q := 0) rfl rfl d5_init_4 ?_
  refine ev_iconst ci_3 d5_init_5 ?_
  obtain ⟨b1, e2, hf⟩ := lt_some hf
  obtain ⟨h3, hf⟩ := gd_some hf
  obtain ⟨t4, e5, hf⟩ := lt_some hf
  refine ev_newa_int w59 h3 d5_init_6 (ev_nmR e2 (ev_nmS e5 ?_))
  obtain ⟨h6, hf⟩ := gd_some hf
  obtain ⟨t7, e8, hf⟩ := lt_some hf
  refine ev_putRF cls5 (j := 2) (by decide) rfl (ne_new e2) rfl w476 rfl rfl h6 (fun _ => ⟨rfl, rfl⟩) d5_init_8 (ev_nmS e8 ?_)
  refine ev_aload_n (j := 0) (i := 0) (q := 0) rfl rfl d5_init_11 ?_
  refine ev_iconst ci_3 d5_init_12 ?_
  obtain ⟨b9, e10, hf⟩ := lt_some hf
  obtain ⟨h11, hf⟩ := gd_some hf
  obtain ⟨t12, e13, hf⟩ := lt_some hf
  refine ev_newa_int w59 h11 d5_init_13 (ev_nmR e10 (ev_nmS e13 ?_))
  obtain ⟨t14, e15, hf⟩ := lt_some hf
  refine ev_putRF cls5 (j := 3) (by decide) rfl (ne_new e10) rfl w478 rfl rfl (mono_ob (mono_eN e13) (mono_ob (mono_eR e8) h6)) (fun _ => ⟨rfl, rfl⟩) d5_init_15 (ev_nmS e15 ?_)
  refine ev_aload_n (j := 0) (i := 0) (q := 0) rfl rfl d5_init_18 ?_
  refine ev_bipush cb_6 d5_init_19 ?_
  obtain ⟨b16, e17, hf⟩ := lt_some hf
  obtain ⟨h18, hf⟩ := gd_some hf
  obtain ⟨t19, e20, hf⟩ := lt_some hf
  refine ev_newa_int w59 h18 d5_init_21 (ev_nmR e17 (ev_nmS e20 ?_))
  obtain ⟨t21, e22, hf⟩ := lt_some hf
  refine ev_putRF cls5 (j := 4) (by decide) rfl (ne_new e17) rfl w480 rfl rfl (mono_ob (mono_eN e20) (mono_ob (mono_eR e15) (mono_ob (mono_eN e13) (mono_ob (mono_eR e8) h6)))) (fun _ => ⟨rfl, rfl⟩) d5_init_23 (ev_nmS e22 ?_)
  refine ev_aload_n (j := 0) (i := 0) (q := 0) rfl rfl d5_init_26 ?_
  refine ev_bipush cb_72 d5_init_27 ?_
  obtain ⟨b23, e24, hf⟩ := lt_some hf
  obtain ⟨h25, hf⟩ := gd_some hf
  obtain ⟨t26, e27, hf⟩ := lt_some hf
  refine ev_newa_int w59 h25 d5_init_29 (ev_nmR e24 (ev_nmS e27 ?_))
  obtain ⟨t28, e29, hf⟩ := lt_some hf
  refine ev_putRF cls5 (j := 5) (by decide) rfl (ne_new e24) rfl w481 rfl rfl (mono_ob (mono_eN e27) (mono_ob (mono_eR e22) (mono_ob (mono_eN e20) (mono_ob (mono_eR e15) (mono_ob (mono_eN e13) (mono_ob (mono_eR e8) h6)))))) (fun _ => ⟨rfl, rfl⟩) d5_init_31 (ev_nmS e29 ?_)
  refine ev_aload_n (j := 0) (i := 0) (q := 0) rfl rfl d5_init_34 ?_
  refine ev_bipush cb_72 d5_init_35 ?_
  obtain ⟨b30, e31, hf⟩ := lt_some hf
  obtain ⟨h32, hf⟩ := gd_some hf
  obtain ⟨t33, e34, hf⟩ := lt_some hf
  refine ev_newa_int w59 h32 d5_init_37 (ev_nmR e31 (ev_nmS e34 ?_))
  obtain ⟨t35, e36, hf⟩ := lt_some hf
  refine ev_putRF cls5 (j := 6) (by decide) rfl (ne_new e31) rfl w482 rfl rfl (mono_ob (mono_eN e34) (mono_ob (mono_eR e29) (mono_ob (mono_eN e27) (mono_ob (mono_eR e22) (mono_ob (mono_eN e20) (mono_ob (mono_eR e15) (mono_ob (mono_eN e13) (mono_ob (mono_eR e8) h6)))))))) (fun _ => ⟨rfl, rfl⟩) d5_init_39 (ev_nmS e36 ?_)
  refine ev_aload_n (j := 0) (i := 0) (q := 0) rfl rfl d5_init_42 ?_
  refine ev_aload_n (j := 1) (i := 1) (q := 1) rfl rfl d5_init_43 ?_
  obtain ⟨h37, hf⟩ := gd_some hf
  obtain ⟨t38, e39, hf⟩ := lt_some hf
  refine ev_putRF cls5 (j := 0) (by decide) rfl (nz_ne h37) rfl w474 rfl rfl (mono_ob (mono_eR e36) (mono_ob (mono_eN e34) (mono_ob (mono_eR e29) (mono_ob (mono_eN e27) (mono_ob (mono_eR e22) (mono_ob (mono_eN e20) (mono_ob (mono_eR e15) (mono_ob (mono_eN e13) (mono_ob (mono_eR e8) h6))))))))) (fun _ => ⟨rfl, rfl⟩) d5_init_44 (ev_nmS e39 ?_)
  refine ev_aload_n (j := 0) (i := 0) (q := 0) rfl rfl d5_init_47 ?_
  refine ev_aload_n (j := 2) (i := 2) (q := 2) rfl rfl d5_init_48 ?_
  obtain ⟨h40, hf⟩ := gd_some hf
  obtain ⟨t41, e42, hf⟩ := lt_some hf
  refine ev_putRF cls5 (j := 1) (by decide) rfl (nz_ne h40) rfl w475 rfl rfl (mono_ob (mono_eR e39) (mono_ob (mono_eR e36) (mono_ob (mono_eN e34) (mono_ob (mono_eR e29) (mono_ob (mono_eN e27) (mono_ob (mono_eR e22) (mono_ob (mono_eN e20) (mono_ob (mono_eR e15) (mono_ob (mono_eN e13) (mono_ob (mono_eR e8) h6)))))))))) (fun _ => ⟨rfl, rfl⟩) d5_init_49 (ev_nmS e42 ?_)
  obtain ⟨-, rfl⟩ := ret_some hf
  exact ev_vret rfl d5_init_52
abbrev m5_reach : MD := ("MillBoats$Mover", ⟨"MillBoats$Mover", "reach", "(IIII)V"⟩, prog_7_method_7_code, 6, (none : Option Jvm.ClassFile.FieldType))
theorem k5_reach : okY m5_reach.2.1 4 := ⟨by decide +kernel, by decide +kernel, by decide +kernel⟩
def f5_reach (σ : St) (v0 : Nat) (v1 : Int32) (v2 : Int32) (v3 : Int32) (v4 : Int32) : Option (Unit × St) :=
  (if v2 < (0 : Int32) then
  some ((), σ)
  else
  (if v2 < (6 : Int32) then
  (if v3 < (0 : Int32) then
  some ((), σ)
  else
  (if v3 < (12 : Int32) then
  lt ((v2 * (12 : Int32)) + v3) fun y5 => (
  gd (ob σ v0 5) (
  lt (sR σ v0 5) fun b8 => (
  gd (nz b8) (
  gd (ob σ b8 14) (
  gd (inb σ b8 y5) (
  (if (sI σ b8 (ix y5)) = (-1 : Int32) then
  (if (sI σ v0 7) < (72 : Int32) then
  lt (sR σ v0 0) fun b15 => (
  gd (nz b15) (
  lt (sR σ v0 4) fun b18 => (
  gd (nz b18) (
  gd (ob σ b15 8) (
  bd (f8_lyingAt σ b15 y5 b18) fun r22 t23 => (
  (if r22 = (-1 : Int32) then
  lt (sR t23 v0 0) fun b27 => (
  gd (nz b27) (
  gd (ob t23 b27 8) (
  bd (f8_bears t23 b27 y5 v1 (sI t23 v0 8)) fun r31 t32 => (
  (if r31 = (0 : Int32) then
  some ((), t32)
  else
  lt (sR t32 v0 5) fun b36 => (
  gd (nz b36) (
  gd (ob t32 b36 14) (
  gd (inb t32 b36 y5) (
  lt (wI t32 b36 (ix y5) v4) fun t41 => (
  lt (sR t41 v0 6) fun b43 => (
  gd (nz b43) (
  gd (ob t41 b43 14) (
  gd (inb t41 b43 (sI t41 v0 7)) (
  lt (wI t41 b43 (ix (sI t41 v0 7)) y5) fun t48 => (
  lt (wI t48 v0 7 ((sI t48 v0 7) + (1 : Int32))) fun t50 => (
  some ((), t50)))))))))))))))))
  else
  some ((), t23))))))))
  else
  some ((), σ))
  else
  some ((), σ))))))))
  else
  some ((), σ)))
  else
  some ((), σ)))
set_option maxRecDepth 50000 in
theorem s5_reach : ∀ (σ : St) (v0 : Nat) (v1 : Int32) (v2 : Int32) (v3 : Int32) (v4 : Int32) (r : Unit) (τ : St), f5_reach σ v0 v1 v2 v3 v4 = some (r, τ) → Call 4 m5_reach [.ref v0, .int v1, .int v2, .int v3, .int v4] σ none τ := by
  intro σ v0 v1 v2 v3 v4 r τ hf
  unfold f5_reach at hf
  refine Call.of (by decide +kernel) rfl (Nat.le_of_ble_eq_true rfl) ?_
  refine ev_iload_n (j := 2) (i := 2) (q := 2) rfl rfl d5_reach_0 ?_
  rcases ite_some hf with ⟨c1, hf⟩ | ⟨c1, hf⟩
  · refine ev_if_lt_P (tgt := 20) c1 (by decide) d5_reach_1 ?_
    obtain ⟨-, rfl⟩ := ret_some hf
    exact ev_vret rfl d5_reach_20
  · refine ev_if_lt_Q (tgt := 20) c1 (by decide) d5_reach_1 ?_
    refine ev_iload_n (j := 2) (i := 2) (q := 2) rfl rfl d5_reach_4 ?_
    refine ev_bipush cb_6 d5_reach_5 ?_
    rcases ite_some hf with ⟨c2, hf⟩ | ⟨c2, hf⟩
    · refine ev_icmp_ge_P (tgt := 20) c2 (by decide) d5_reach_7 ?_
      refine ev_iload_n (j := 3) (i := 3) (q := 3) rfl rfl d5_reach_10 ?_
      rcases ite_some hf with ⟨c3, hf⟩ | ⟨c3, hf⟩
      · refine ev_if_lt_P (tgt := 20) c3 (by decide) d5_reach_11 ?_
        obtain ⟨-, rfl⟩ := ret_some hf
        exact ev_vret rfl d5_reach_20
      · refine ev_if_lt_Q (tgt := 20) c3 (by decide) d5_reach_11 ?_
        refine ev_iload_n (j := 3) (i := 3) (q := 3) rfl rfl d5_reach_14 ?_
        refine ev_bipush cb_12 d5_reach_15 ?_
        rcases ite_some hf with ⟨c4, hf⟩ | ⟨c4, hf⟩
        · refine ev_icmp_lt_P (tgt := 21) c4 (by decide) d5_reach_17 ?_
          refine ev_iload_n (j := 2) (i := 2) (q := 2) rfl rfl d5_reach_21 ?_
          refine ev_bipush cb_12 d5_reach_22 ?_
          refine ev_imul d5_reach_24 ?_
          refine ev_iload_n (j := 3) (i := 3) (q := 3) rfl rfl d5_reach_25 ?_
          refine ev_iadd d5_reach_26 ?_
          obtain ⟨y5, e6, hf⟩ := lt_some hf
          refine ev_nmI e6 ?_
          refine ev_istore (lv2 := [(5, .int y5), (0, .ref v0), (1, .int v1), (2, .int v2), (3, .int v3), (4, .int v4)]) (i := 5) (by decide) rfl d5_reach_27 ?_
          refine ev_aload_n (j := 0) (i := 0) (q := 1) rfl rfl d5_reach_29 ?_
          obtain ⟨h7, hf⟩ := gd_some hf
          obtain ⟨b8, e9, hf⟩ := lt_some hf
          obtain ⟨h10, hf⟩ := gd_some hf
          refine ev_getRb cls5 (j := 5) (by decide) rfl w481 h7 e9 (nz_ne h10) d5_reach_30 ?_
          refine ev_iload (i := 5) (q := 0) rfl d5_reach_33 ?_
          obtain ⟨h11, hf⟩ := gd_some hf
          obtain ⟨h12, hf⟩ := gd_some hf
          refine ev_iald h11 h12 d5_reach_35 ?_
          refine ev_iconst ci_m1 d5_reach_36 ?_
          rcases ite_some hf with ⟨c13, hf⟩ | ⟨c13, hf⟩
          · refine ev_icmp_ne_P (tgt := 49) c13 (by decide) d5_reach_37 ?_
            refine ev_aload_n (j := 0) (i := 0) (q := 1) rfl rfl d5_reach_40 ?_
            refine ev_getI cls5 (j := 7) (by decide) rfl w483 h7 d5_reach_41 ?_
            refine ev_bipush cb_72 d5_reach_44 ?_
            rcases ite_some hf with ⟨c14, hf⟩ | ⟨c14, hf⟩
            · refine ev_icmp_lt_P (tgt := 50) c14 (by decide) d5_reach_46 ?_
              refine ev_aload_n (j := 0) (i := 0) (q := 1) rfl rfl d5_reach_50 ?_
              obtain ⟨b15, e16, hf⟩ := lt_some hf
              obtain ⟨h17, hf⟩ := gd_some hf
              refine ev_getRb cls5 (j := 0) (by decide) rfl w474 h7 e16 (nz_ne h17) d5_reach_51 ?_
              refine ev_iload (i := 5) (q := 0) rfl d5_reach_54 ?_
              refine ev_aload_n (j := 0) (i := 0) (q := 1) rfl rfl d5_reach_56 ?_
              obtain ⟨b18, e19, hf⟩ := lt_some hf
              obtain ⟨h20, hf⟩ := gd_some hf
              refine ev_getRb cls5 (j := 4) (by decide) rfl w480 h7 e19 (nz_ne h20) d5_reach_57 ?_
              obtain ⟨h21, hf⟩ := gd_some hf
              obtain ⟨r22, t23, k24, hf⟩ := bd_some hf
              have q25 := s8_lyingAt _ _ _ _ _ _ k24
              refine ev_callV (vs := [.int y5, .ref b18]) (sk := []) cls8 h21 q25 (by decide) (Nat.le_of_ble_eq_true rfl) w1119 w581 w582 w2 w583 k8_lyingAt rfl (Nat.le_of_ble_eq_true rfl) d5_reach_60 ?_
              refine ev_iconst ci_m1 d5_reach_63 ?_
              rcases ite_some hf with ⟨c26, hf⟩ | ⟨c26, hf⟩
              · refine ev_icmp_ne_P (tgt := 114) c26 (by decide) d5_reach_64 ?_
                refine ev_aload_n (j := 0) (i := 0) (q := 1) rfl rfl d5_reach_67 ?_
                obtain ⟨b27, e28, hf⟩ := lt_some hf
                obtain ⟨h29, hf⟩ := gd_some hf
                refine ev_getRb cls5 (j := 0) (by decide) rfl w474 (mono_ob q25.1 h7) e28 (nz_ne h29) d5_reach_68 ?_
                refine ev_iload (i := 5) (q := 0) rfl d5_reach_71 ?_
                refine ev_iload_n (j := 1) (i := 1) (q := 2) rfl rfl d5_reach_73 ?_
                refine ev_aload_n (j := 0) (i := 0) (q := 1) rfl rfl d5_reach_74 ?_
                refine ev_getI cls5 (j := 8) (by decide) rfl w484 (mono_ob q25.1 h7) d5_reach_75 ?_
                obtain ⟨h30, hf⟩ := gd_some hf
                obtain ⟨r31, t32, k33, hf⟩ := bd_some hf
                have q34 := s8_bears _ _ _ _ _ _ _ k33
                refine ev_callV (vs := [.int y5, .int v1, .int (sI t23 v0 8)]) (sk := []) cls8 h30 q34 (by decide) (Nat.le_of_ble_eq_true rfl) w1120 w623 w624 w2 w625 k8_bears rfl (Nat.le_of_ble_eq_true rfl) d5_reach_78 ?_
                rcases ite_some hf with ⟨c35, hf⟩ | ⟨c35, hf⟩
                · refine ev_if_eq_P (tgt := 114) c35 (by decide) d5_reach_81 ?_
                  obtain ⟨-, rfl⟩ := ret_some hf
                  exact ev_vret rfl d5_reach_114
                · refine ev_if_eq_Q (tgt := 114) c35 (by decide) d5_reach_81 ?_
                  refine ev_aload_n (j := 0) (i := 0) (q := 1) rfl rfl d5_reach_84 ?_
                  obtain ⟨b36, e37, hf⟩ := lt_some hf
                  obtain ⟨h38, hf⟩ := gd_some hf
                  refine ev_getRb cls5 (j := 5) (by decide) rfl w481 (mono_ob q34.1 (mono_ob q25.1 h7)) e37 (nz_ne h38) d5_reach_85 ?_
                  refine ev_iload (i := 5) (q := 0) rfl d5_reach_88 ?_
                  refine ev_iload (i := 4) (q := 5) rfl d5_reach_90 ?_
                  obtain ⟨h39, hf⟩ := gd_some hf
                  obtain ⟨h40, hf⟩ := gd_some hf
                  obtain ⟨t41, e42, hf⟩ := lt_some hf
                  refine ev_iast h39 h40 d5_reach_92 (ev_nmS e42 ?_)
                  refine ev_aload_n (j := 0) (i := 0) (q := 1) rfl rfl d5_reach_93 ?_
                  obtain ⟨b43, e44, hf⟩ := lt_some hf
                  obtain ⟨h45, hf⟩ := gd_some hf
                  refine ev_getRb cls5 (j := 6) (by decide) rfl w482 (mono_ob (mono_eI e42) (mono_ob q34.1 (mono_ob q25.1 h7))) e44 (nz_ne h45) d5_reach_94 ?_
                  refine ev_aload_n (j := 0) (i := 0) (q := 1) rfl rfl d5_reach_97 ?_
                  refine ev_getI cls5 (j := 7) (by decide) rfl w483 (mono_ob (mono_eI e42) (mono_ob q34.1 (mono_ob q25.1 h7))) d5_reach_98 ?_
                  refine ev_iload (i := 5) (q := 0) rfl d5_reach_101 ?_
                  obtain ⟨h46, hf⟩ := gd_some hf
                  obtain ⟨h47, hf⟩ := gd_some hf
                  obtain ⟨t48, e49, hf⟩ := lt_some hf
                  refine ev_iast h46 h47 d5_reach_103 (ev_nmS e49 ?_)
                  refine ev_aload_n (j := 0) (i := 0) (q := 1) rfl rfl d5_reach_104 ?_
                  refine ev_dup rfl d5_reach_105 ?_
                  refine ev_getI cls5 (j := 7) (by decide) rfl w483 (mono_ob (mono_eI e49) (mono_ob (mono_eI e42) (mono_ob q34.1 (mono_ob q25.1 h7)))) d5_reach_106 ?_
                  refine ev_iconst ci_1 d5_reach_109 ?_
                  refine ev_iadd d5_reach_110 ?_
                  obtain ⟨t50, e51, hf⟩ := lt_some hf
                  refine ev_putI cls5 (j := 7) (by decide) rfl rfl w483 (mono_ob (mono_eI e49) (mono_ob (mono_eI e42) (mono_ob q34.1 (mono_ob q25.1 h7)))) (fun _ => ⟨rfl, rfl⟩) d5_reach_111 (ev_nmS e51 ?_)
                  obtain ⟨-, rfl⟩ := ret_some hf
                  exact ev_vret rfl d5_reach_114
              · refine ev_icmp_ne_Q (tgt := 114) c26 (by decide) d5_reach_64 ?_
                obtain ⟨-, rfl⟩ := ret_some hf
                exact ev_vret rfl d5_reach_114
            · refine ev_icmp_lt_Q (tgt := 50) c14 (by decide) d5_reach_46 ?_
              obtain ⟨-, rfl⟩ := ret_some hf
              exact ev_vret rfl d5_reach_49
          · refine ev_icmp_ne_Q (tgt := 49) c13 (by decide) d5_reach_37 ?_
            obtain ⟨-, rfl⟩ := ret_some hf
            exact ev_vret rfl d5_reach_49
        · refine ev_icmp_lt_Q (tgt := 21) c4 (by decide) d5_reach_17 ?_
          obtain ⟨-, rfl⟩ := ret_some hf
          exact ev_vret rfl d5_reach_20
    · refine ev_icmp_ge_Q (tgt := 20) c2 (by decide) d5_reach_7 ?_
      obtain ⟨-, rfl⟩ := ret_some hf
      exact ev_vret rfl d5_reach_20
abbrev m5_begin : MD := ("MillBoats$Mover", ⟨"MillBoats$Mover", "begin", "(I)V"⟩, prog_7_method_6_code, 3, (none : Option Jvm.ClassFile.FieldType))
theorem k5_begin : okY m5_begin.2.1 1 := ⟨by decide +kernel, by decide +kernel, by decide +kernel⟩
def f5_begin_p44 : Nat → St → Nat → Int32 → Int32 → Option (Unit × St)
  | 0, _, _, _, _ => none
  | n + 1, σ, v0, v1, v2 =>
  (if v2 < (12 : Int32) then
  gd (ob σ v0 5) (
  bd (f5_reach σ v0 v1 (0 : Int32) v2 (1 : Int32)) fun r35 t36 => (
  bd (f5_reach t36 v0 v1 (5 : Int32) v2 (1 : Int32)) fun r39 t40 => (
  lt (v2 + (1 : Int32)) fun y43 => (
  (f5_begin_p44 n) t40 v0 v1 y43))))
  else
  some ((), σ))
set_option maxRecDepth 20000 in
theorem s5_begin_p44 : ∀ (n : Nat) (σ : St) (v0 : Nat) (v1 : Int32) (v2 : Int32) (r : Unit) (τ : St), f5_begin_p44 n σ v0 v1 v2 = some (r, τ) → Ev 5 m5_begin 44 [(0, .ref v0), (1, .int v1), (2, .int v2)] [] σ none τ := by
  intro n
  induction n with
  | zero =>
    intro σ v0 v1 v2 r τ hf
    cases hf
  | succ n ih =>
    intro σ v0 v1 v2 r τ hf
    rw [f5_begin_p44] at hf
    refine ev_iload_n (j := 2) (i := 2) (q := 2) rfl rfl d5_begin_44 ?_
    refine ev_bipush cb_12 d5_begin_45 ?_
    rcases ite_some hf with ⟨c33, hf⟩ | ⟨c33, hf⟩
    · refine ev_icmp_ge_P (tgt := 72) c33 (by decide) d5_begin_47 ?_
      refine ev_aload_n (j := 0) (i := 0) (q := 0) rfl rfl d5_begin_50 ?_
      refine ev_iload_n (j := 1) (i := 1) (q := 1) rfl rfl d5_begin_51 ?_
      refine ev_iconst ci_0 d5_begin_52 ?_
      refine ev_iload_n (j := 2) (i := 2) (q := 2) rfl rfl d5_begin_53 ?_
      refine ev_iconst ci_1 d5_begin_54 ?_
      obtain ⟨h34, hf⟩ := gd_some hf
      obtain ⟨r35, t36, k37, hf⟩ := bd_some hf
      have q38 := s5_reach _ _ _ _ _ _ _ _ k37
      refine ev_callV (vs := [.int v1, .int (0 : Int32), .int v2, .int (1 : Int32)]) (sk := []) cls5 h34 q38 (by decide) (Nat.le_of_ble_eq_true rfl) w1115 w1117 ws49 w18 w1118 k5_reach rfl (Nat.le_of_ble_eq_true rfl) d5_begin_55 ?_
      refine ev_aload_n (j := 0) (i := 0) (q := 0) rfl rfl d5_begin_58 ?_
      refine ev_iload_n (j := 1) (i := 1) (q := 1) rfl rfl d5_begin_59 ?_
      refine ev_iconst ci_5 d5_begin_60 ?_
      refine ev_iload_n (j := 2) (i := 2) (q := 2) rfl rfl d5_begin_61 ?_
      refine ev_iconst ci_1 d5_begin_62 ?_
      obtain ⟨r39, t40, k41, hf⟩ := bd_some hf
      have q42 := s5_reach _ _ _ _ _ _ _ _ k41
      refine ev_callV (vs := [.int v1, .int (5 : Int32), .int v2, .int (1 : Int32)]) (sk := []) cls5 (mono_ob q38.1 h34) q42 (by decide) (Nat.le_of_ble_eq_true rfl) w1115 w1117 ws49 w18 w1118 k5_reach rfl (Nat.le_of_ble_eq_true rfl) d5_begin_63 ?_
      obtain ⟨y43, e44, hf⟩ := lt_some hf
      refine ev_iinc (lv2 := [(2, .int y43), (0, .ref v0), (1, .int v1)]) (i := 2) (q := 2) (v := y43) (n := 1) rfl (by rw [ci_1]; exact e44.symm) (by decide) rfl d5_begin_66 ?_
      refine ev_goto (tgt := 44) (by decide) d5_begin_69 ?_
      exact Ev.sub [1, 2, 0] rfl (ih _ _ _ _ _ _ hf)
    · refine ev_icmp_ge_Q (tgt := 72) c33 (by decide) d5_begin_47 ?_
      obtain ⟨-, rfl⟩ := ret_some hf
      exact ev_vret rfl d5_begin_72
def f5_begin (σ : St) (v0 : Nat) (v1 : Int32) : Option (Unit × St) :=
  gd (ob σ v0 5) (
  lt (sR σ v0 4) fun b2 => (
  gd (nz b2) (
  gd (ob σ b2 14) (
  gd (inb σ b2 v1) (
  bd (f11_isBerth σ (sI σ b2 (ix v1))) fun r7 t8 => (
  (if r7 = (0 : Int32) then
  f5_begin_p44 FU t8 v0 v1 (0 : Int32)
  else
  lt (sR t8 v0 5) fun b12 => (
  gd (nz b12) (
  lt (sR t8 v0 4) fun b15 => (
  gd (nz b15) (
  gd (ob t8 b15 14) (
  gd (inb t8 b15 v1) (
  gd (ob t8 b12 14) (
  gd (inb t8 b12 (sI t8 b15 (ix v1))) (
  lt (wI t8 b12 (ix (sI t8 b15 (ix v1))) (0 : Int32)) fun t22 => (
  lt (sR t22 v0 6) fun b24 => (
  gd (nz b24) (
  gd (ob t22 b24 14) (
  gd (inb t22 b24 (0 : Int32)) (
  lt (wI t22 b24 (ix (0 : Int32)) (sI t22 b15 (ix v1))) fun t29 => (
  lt (wI t29 v0 7 (1 : Int32)) fun t31 => (
  some ((), t31)))))))))))))))))))))))
set_option maxRecDepth 50000 in
theorem s5_begin : ∀ (σ : St) (v0 : Nat) (v1 : Int32) (r : Unit) (τ : St), f5_begin σ v0 v1 = some (r, τ) → Call 5 m5_begin [.ref v0, .int v1] σ none τ := by
  intro σ v0 v1 r τ hf
  unfold f5_begin at hf
  refine Call.of (by decide +kernel) rfl (Nat.le_of_ble_eq_true rfl) ?_
  refine ev_aload_n (j := 0) (i := 0) (q := 0) rfl rfl d5_begin_0 ?_
  obtain ⟨h1, hf⟩ := gd_some hf
  obtain ⟨b2, e3, hf⟩ := lt_some hf
  obtain ⟨h4, hf⟩ := gd_some hf
  refine ev_getRb cls5 (j := 4) (by decide) rfl w480 h1 e3 (nz_ne h4) d5_begin_1 ?_
  refine ev_iload_n (j := 1) (i := 1) (q := 1) rfl rfl d5_begin_4 ?_
  obtain ⟨h5, hf⟩ := gd_some hf
  obtain ⟨h6, hf⟩ := gd_some hf
  refine ev_iald h5 h6 d5_begin_5 ?_
  obtain ⟨r7, t8, k9, hf⟩ := bd_some hf
  have q10 := s11_isBerth _ _ _ _ k9
  refine ev_callSN (vs := [.int (sI σ b2 (ix v1))]) (sk := []) q10 (by decide) (Nat.le_of_ble_eq_true rfl) w1114 w540 w1 w541 k11_isBerth rfl (Nat.le_of_ble_eq_true rfl) d5_begin_6 ?_
  rcases ite_some hf with ⟨c11, hf⟩ | ⟨c11, hf⟩
  · refine ev_if_eq_P (tgt := 42) c11 (by decide) d5_begin_9 ?_
    refine ev_iconst ci_0 d5_begin_42 ?_
    refine ev_istore_n (lv2 := [(2, .int (0 : Int32)), (0, .ref v0), (1, .int v1)]) (j := 2) (i := 2) rfl (by decide) rfl d5_begin_43 ?_
    exact Ev.sub [1, 2, 0] rfl (s5_begin_p44 FU _ _ _ _ _ _ hf)
  · refine ev_if_eq_Q (tgt := 42) c11 (by decide) d5_begin_9 ?_
    refine ev_aload_n (j := 0) (i := 0) (q := 0) rfl rfl d5_begin_12 ?_
    obtain ⟨b12, e13, hf⟩ := lt_some hf
    obtain ⟨h14, hf⟩ := gd_some hf
    refine ev_getRb cls5 (j := 5) (by decide) rfl w481 (mono_ob q10.1 h1) e13 (nz_ne h14) d5_begin_13 ?_
    refine ev_aload_n (j := 0) (i := 0) (q := 0) rfl rfl d5_begin_16 ?_
    obtain ⟨b15, e16, hf⟩ := lt_some hf
    obtain ⟨h17, hf⟩ := gd_some hf
    refine ev_getRb cls5 (j := 4) (by decide) rfl w480 (mono_ob q10.1 h1) e16 (nz_ne h17) d5_begin_17 ?_
    refine ev_iload_n (j := 1) (i := 1) (q := 1) rfl rfl d5_begin_20 ?_
    obtain ⟨h18, hf⟩ := gd_some hf
    obtain ⟨h19, hf⟩ := gd_some hf
    refine ev_iald h18 h19 d5_begin_21 ?_
    refine ev_iconst ci_0 d5_begin_22 ?_
    obtain ⟨h20, hf⟩ := gd_some hf
    obtain ⟨h21, hf⟩ := gd_some hf
    obtain ⟨t22, e23, hf⟩ := lt_some hf
    refine ev_iast h20 h21 d5_begin_23 (ev_nmS e23 ?_)
    refine ev_aload_n (j := 0) (i := 0) (q := 0) rfl rfl d5_begin_24 ?_
    obtain ⟨b24, e25, hf⟩ := lt_some hf
    obtain ⟨h26, hf⟩ := gd_some hf
    refine ev_getRb cls5 (j := 6) (by decide) rfl w482 (mono_ob (mono_eI e23) (mono_ob q10.1 h1)) e25 (nz_ne h26) d5_begin_25 ?_
    refine ev_iconst ci_0 d5_begin_28 ?_
    refine ev_aload_n (j := 0) (i := 0) (q := 0) rfl rfl d5_begin_29 ?_
    refine ev_getRb cls5 (j := 4) (by decide) rfl w480 (mono_ob (mono_eI e23) (mono_ob q10.1 h1)) (tr_I e23 e16) (nz_ne h17) d5_begin_30 ?_
    refine ev_iload_n (j := 1) (i := 1) (q := 1) rfl rfl d5_begin_33 ?_
    refine ev_iald (mono_ob (mono_eI e23) h18) (inb_m (mono_eI e23) h18 h19) d5_begin_34 ?_
    obtain ⟨h27, hf⟩ := gd_some hf
    obtain ⟨h28, hf⟩ := gd_some hf
    obtain ⟨t29, e30, hf⟩ := lt_some hf
    refine ev_iast h27 h28 d5_begin_35 (ev_nmS e30 ?_)
    refine ev_aload_n (j := 0) (i := 0) (q := 0) rfl rfl d5_begin_36 ?_
    refine ev_iconst ci_1 d5_begin_37 ?_
    obtain ⟨t31, e32, hf⟩ := lt_some hf
    refine ev_putI cls5 (j := 7) (by decide) rfl rfl w483 (mono_ob (mono_eI e30) (mono_ob (mono_eI e23) (mono_ob q10.1 h1))) (fun _ => ⟨rfl, rfl⟩) d5_begin_38 (ev_nmS e32 ?_)
    obtain ⟨-, rfl⟩ := ret_some hf
    exact ev_vret rfl d5_begin_41
abbrev m5_fewestSteps : MD := ("MillBoats$Mover", ⟨"MillBoats$Mover", "fewestSteps", "(II)I"⟩, prog_7_method_5_code, 8, (some Jvm.ClassFile.FieldType.int))
theorem k5_fewestSteps : okY m5_fewestSteps.2.1 2 := ⟨by decide +kernel, by decide +kernel, by decide +kernel⟩
def f5_fewestSteps_p86 (σ : St) (v0 : Nat) (v4 : Int32) : Option (Int32 × St) :=
  gd (ob σ v0 5) (
  lt (sR σ v0 5) fun b43 => (
  gd (nz b43) (
  gd (ob σ b43 14) (
  gd (inb σ b43 v4) (
  some ((sI σ b43 (ix v4)) + (1 : Int32), σ))))))
set_option maxRecDepth 20000 in
theorem s5_fewestSteps_p86 : ∀ (σ : St) (v0 : Nat) (v4 : Int32) (r : Int32) (τ : St), f5_fewestSteps_p86 σ v0 v4 = some (r, τ) → Ev 6 m5_fewestSteps 86 [(0, .ref v0), (4, .int v4)] [] σ (some (.int r)) τ := by
  intro σ v0 v4 r τ hf
  unfold f5_fewestSteps_p86 at hf
  refine ev_aload_n (j := 0) (i := 0) (q := 0) rfl rfl d5_fewestSteps_86 ?_
  obtain ⟨h42, hf⟩ := gd_some hf
  obtain ⟨b43, e44, hf⟩ := lt_some hf
  obtain ⟨h45, hf⟩ := gd_some hf
  refine ev_getRb cls5 (j := 5) (by decide) rfl w481 h42 e44 (nz_ne h45) d5_fewestSteps_87 ?_
  refine ev_iload (i := 4) (q := 1) rfl d5_fewestSteps_90 ?_
  obtain ⟨h46, hf⟩ := gd_some hf
  obtain ⟨h47, hf⟩ := gd_some hf
  refine ev_iald h46 h47 d5_fewestSteps_92 ?_
  refine ev_iconst ci_1 d5_fewestSteps_93 ?_
  refine ev_iadd d5_fewestSteps_94 ?_
  obtain ⟨rfl, rfl⟩ := ret_some hf
  exact ev_iret rfl d5_fewestSteps_95
def f5_fewestSteps_p96 (K20 : St → Nat → Int32 → Int32 → Int32 → Option (Int32 × St)) (σ : St) (v0 : Nat) (v1 : Int32) (v2 : Int32) (v3 : Int32) (v4 : Int32) (v5 : Int32) (v6 : Int32) : Option (Int32 × St) :=
  gd (ob σ v0 5) (
  lt (sR σ v0 5) fun b49 => (
  gd (nz b49) (
  gd (ob σ b49 14) (
  gd (inb σ b49 v4) (
  lt ((sI σ b49 (ix v4)) + (1 : Int32)) fun y54 => (
  bd (f5_reach σ v0 v1 (v5 - (1 : Int32)) v6 y54) fun r56 t57 => (
  bd (f5_reach t57 v0 v1 (v5 + (1 : Int32)) v6 y54) fun r60 t61 => (
  bd (f5_reach t61 v0 v1 v5 (v6 - (1 : Int32)) y54) fun r64 t65 => (
  bd (f5_reach t65 v0 v1 v5 (v6 + (1 : Int32)) y54) fun r68 t69 => (
  lt (v3 + (1 : Int32)) fun y72 => (
  K20 t69 v0 v1 v2 y72)))))))))))
set_option maxRecDepth 20000 in
theorem s5_fewestSteps_p96 {K20 : St → Nat → Int32 → Int32 → Int32 → Option (Int32 × St)} (hK20 : ∀ (σ : St) (v0 : Nat) (v1 : Int32) (v2 : Int32) (v3 : Int32) (r : Int32) (τ : St), K20 σ v0 v1 v2 v3 = some (r, τ) → Ev 6 m5_fewestSteps 20 [(0, .ref v0), (1, .int v1), (2, .int v2), (3, .int v3)] [] σ (some (.int r)) τ) : ∀ (σ : St) (v0 : Nat) (v1 : Int32) (v2 : Int32) (v3 : Int32) (v4 : Int32) (v5 : Int32) (v6 : Int32) (r : Int32) (τ : St), f5_fewestSteps_p96 K20 σ v0 v1 v2 v3 v4 v5 v6 = some (r, τ) → Ev 6 m5_fewestSteps 96 [(0, .ref v0), (1, .int v1), (2, .int v2), (3, .int v3), (4, .int v4), (5, .int v5), (6, .int v6)] [] σ (some (.int r)) τ := by
  intro σ v0 v1 v2 v3 v4 v5 v6 r τ hf
  unfold f5_fewestSteps_p96 at hf
  refine ev_aload_n (j := 0) (i := 0) (q := 0) rfl rfl d5_fewestSteps_96 ?_
  obtain ⟨h48, hf⟩ := gd_some hf
  obtain ⟨b49, e50, hf⟩ := lt_some hf
  obtain ⟨h51, hf⟩ := gd_some hf
  refine ev_getRb cls5 (j := 5) (by decide) rfl w481 h48 e50 (nz_ne h51) d5_fewestSteps_97 ?_
  refine ev_iload (i := 4) (q := 4) rfl d5_fewestSteps_100 ?_
  obtain ⟨h52, hf⟩ := gd_some hf
  obtain ⟨h53, hf⟩ := gd_some hf
  refine ev_iald h52 h53 d5_fewestSteps_102 ?_
  refine ev_iconst ci_1 d5_fewestSteps_103 ?_
  refine ev_iadd d5_fewestSteps_104 ?_
  obtain ⟨y54, e55, hf⟩ := lt_some hf
  refine ev_nmI e55 ?_
  refine ev_istore (lv2 := [(7, .int y54), (0, .ref v0), (1, .int v1), (2, .int v2), (3, .int v3), (4, .int v4), (5, .int v5), (6, .int v6)]) (i := 7) (by decide) rfl d5_fewestSteps_105 ?_
  refine ev_aload_n (j := 0) (i := 0) (q := 1) rfl rfl d5_fewestSteps_107 ?_
  refine ev_iload_n (j := 1) (i := 1) (q := 2) rfl rfl d5_fewestSteps_108 ?_
  refine ev_iload (i := 5) (q := 6) rfl d5_fewestSteps_109 ?_
  refine ev_iconst ci_1 d5_fewestSteps_111 ?_
  refine ev_isub d5_fewestSteps_112 ?_
  refine ev_iload (i := 6) (q := 7) rfl d5_fewestSteps_113 ?_
  refine ev_iload (i := 7) (q := 0) rfl d5_fewestSteps_115 ?_
  obtain ⟨r56, t57, k58, hf⟩ := bd_some hf
  have q59 := s5_reach _ _ _ _ _ _ _ _ k58
  refine ev_callV (vs := [.int v1, .int (v5 - (1 : Int32)), .int v6, .int y54]) (sk := []) cls5 h48 q59 (by decide) (Nat.le_of_ble_eq_true rfl) w1115 w1117 ws49 w18 w1118 k5_reach rfl (Nat.le_of_ble_eq_true rfl) d5_fewestSteps_117 ?_
  refine ev_aload_n (j := 0) (i := 0) (q := 1) rfl rfl d5_fewestSteps_120 ?_
  refine ev_iload_n (j := 1) (i := 1) (q := 2) rfl rfl d5_fewestSteps_121 ?_
  refine ev_iload (i := 5) (q := 6) rfl d5_fewestSteps_122 ?_
  refine ev_iconst ci_1 d5_fewestSteps_124 ?_
  refine ev_iadd d5_fewestSteps_125 ?_
  refine ev_iload (i := 6) (q := 7) rfl d5_fewestSteps_126 ?_
  refine ev_iload (i := 7) (q := 0) rfl d5_fewestSteps_128 ?_
  obtain ⟨r60, t61, k62, hf⟩ := bd_some hf
  have q63 := s5_reach _ _ _ _ _ _ _ _ k62
  refine ev_callV (vs := [.int v1, .int (v5 + (1 : Int32)), .int v6, .int y54]) (sk := []) cls5 (mono_ob q59.1 h48) q63 (by decide) (Nat.le_of_ble_eq_true rfl) w1115 w1117 ws49 w18 w1118 k5_reach rfl (Nat.le_of_ble_eq_true rfl) d5_fewestSteps_130 ?_
  refine ev_aload_n (j := 0) (i := 0) (q := 1) rfl rfl d5_fewestSteps_133 ?_
  refine ev_iload_n (j := 1) (i := 1) (q := 2) rfl rfl d5_fewestSteps_134 ?_
  refine ev_iload (i := 5) (q := 6) rfl d5_fewestSteps_135 ?_
  refine ev_iload (i := 6) (q := 7) rfl d5_fewestSteps_137 ?_
  refine ev_iconst ci_1 d5_fewestSteps_139 ?_
  refine ev_isub d5_fewestSteps_140 ?_
  refine ev_iload (i := 7) (q := 0) rfl d5_fewestSteps_141 ?_
  obtain ⟨r64, t65, k66, hf⟩ := bd_some hf
  have q67 := s5_reach _ _ _ _ _ _ _ _ k66
  refine ev_callV (vs := [.int v1, .int v5, .int (v6 - (1 : Int32)), .int y54]) (sk := []) cls5 (mono_ob q63.1 (mono_ob q59.1 h48)) q67 (by decide) (Nat.le_of_ble_eq_true rfl) w1115 w1117 ws49 w18 w1118 k5_reach rfl (Nat.le_of_ble_eq_true rfl) d5_fewestSteps_143 ?_
  refine ev_aload_n (j := 0) (i := 0) (q := 1) rfl rfl d5_fewestSteps_146 ?_
  refine ev_iload_n (j := 1) (i := 1) (q := 2) rfl rfl d5_fewestSteps_147 ?_
  refine ev_iload (i := 5) (q := 6) rfl d5_fewestSteps_148 ?_
  refine ev_iload (i := 6) (q := 7) rfl d5_fewestSteps_150 ?_
  refine ev_iconst ci_1 d5_fewestSteps_152 ?_
  refine ev_iadd d5_fewestSteps_153 ?_
  refine ev_iload (i := 7) (q := 0) rfl d5_fewestSteps_154 ?_
  obtain ⟨r68, t69, k70, hf⟩ := bd_some hf
  have q71 := s5_reach _ _ _ _ _ _ _ _ k70
  refine ev_callV (vs := [.int v1, .int v5, .int (v6 + (1 : Int32)), .int y54]) (sk := []) cls5 (mono_ob q67.1 (mono_ob q63.1 (mono_ob q59.1 h48))) q71 (by decide) (Nat.le_of_ble_eq_true rfl) w1115 w1117 ws49 w18 w1118 k5_reach rfl (Nat.le_of_ble_eq_true rfl) d5_fewestSteps_156 ?_
  obtain ⟨y72, e73, hf⟩ := lt_some hf
  refine ev_iinc (lv2 := [(3, .int y72), (7, .int y54), (0, .ref v0), (1, .int v1), (2, .int v2), (4, .int v4), (5, .int v5), (6, .int v6)]) (i := 3) (q := 4) (v := y72) (n := 1) rfl (by rw [ci_1]; exact e73.symm) (by decide) rfl d5_fewestSteps_159 ?_
  refine ev_goto (tgt := 20) (by decide) d5_fewestSteps_162 ?_
  exact Ev.sub [2, 3, 4, 0] rfl (hK20 _ _ _ _ _ _ _ hf)
def f5_fewestSteps_p20 : Nat → St → Nat → Int32 → Int32 → Int32 → Option (Int32 × St)
  | 0, _, _, _, _, _ => none
  | n + 1, σ, v0, v1, v2, v3 =>
  gd (ob σ v0 5) (
  (if v3 < (sI σ v0 7) then
  (if v3 < (72 : Int32) then
  lt (sR σ v0 6) fun b18 => (
  gd (nz b18) (
  gd (ob σ b18 14) (
  gd (inb σ b18 v3) (
  lt (sI σ b18 (ix v3)) fun y23 => (
  bd (f11_laneOf σ y23) fun r25 t26 => (
  bd (f11_stretchOf t26 y23) fun r29 t30 => (
  (if y23 = v2 then
  lt (sR t30 v0 5) fun b34 => (
  gd (nz b34) (
  gd (ob t30 b34 14) (
  gd (inb t30 b34 y23) (
  some (sI t30 b34 (ix y23), t30)))))
  else
  (if v2 = (-1 : Int32) then
  (if r25 = (0 : Int32) then
  f5_fewestSteps_p86 t30 v0 y23
  else
  (if r25 = (5 : Int32) then
  f5_fewestSteps_p86 t30 v0 y23
  else
  f5_fewestSteps_p96 (f5_fewestSteps_p20 n) t30 v0 v1 v2 v3 y23 r25 r29))
  else
  f5_fewestSteps_p96 (f5_fewestSteps_p20 n) t30 v0 v1 v2 v3 y23 r25 r29)))))))))
  else
  some ((-1 : Int32), σ))
  else
  some ((-1 : Int32), σ)))
set_option maxRecDepth 20000 in
theorem s5_fewestSteps_p20 : ∀ (n : Nat) (σ : St) (v0 : Nat) (v1 : Int32) (v2 : Int32) (v3 : Int32) (r : Int32) (τ : St), f5_fewestSteps_p20 n σ v0 v1 v2 v3 = some (r, τ) → Ev 6 m5_fewestSteps 20 [(0, .ref v0), (1, .int v1), (2, .int v2), (3, .int v3)] [] σ (some (.int r)) τ := by
  intro n
  induction n with
  | zero =>
    intro σ v0 v1 v2 v3 r τ hf
    cases hf
  | succ n ih =>
    intro σ v0 v1 v2 v3 r τ hf
    rw [f5_fewestSteps_p20] at hf
    refine ev_iload_n (j := 3) (i := 3) (q := 3) rfl rfl d5_fewestSteps_20 ?_
    refine ev_aload_n (j := 0) (i := 0) (q := 0) rfl rfl d5_fewestSteps_21 ?_
    obtain ⟨h15, hf⟩ := gd_some hf
    refine ev_getI cls5 (j := 7) (by decide) rfl w483 h15 d5_fewestSteps_22 ?_
    rcases ite_some hf with ⟨c16, hf⟩ | ⟨c16, hf⟩
    · refine ev_icmp_ge_P (tgt := 165) c16 (by decide) d5_fewestSteps_25 ?_
      refine ev_iload_n (j := 3) (i := 3) (q := 3) rfl rfl d5_fewestSteps_28 ?_
      refine ev_bipush cb_72 d5_fewestSteps_29 ?_
      rcases ite_some hf with ⟨c17, hf⟩ | ⟨c17, hf⟩
      · refine ev_icmp_ge_P (tgt := 165) c17 (by decide) d5_fewestSteps_31 ?_
        refine ev_aload_n (j := 0) (i := 0) (q := 0) rfl rfl d5_fewestSteps_34 ?_
        obtain ⟨b18, e19, hf⟩ := lt_some hf
        obtain ⟨h20, hf⟩ := gd_some hf
        refine ev_getRb cls5 (j := 6) (by decide) rfl w482 h15 e19 (nz_ne h20) d5_fewestSteps_35 ?_
        refine ev_iload_n (j := 3) (i := 3) (q := 3) rfl rfl d5_fewestSteps_38 ?_
        obtain ⟨h21, hf⟩ := gd_some hf
        obtain ⟨h22, hf⟩ := gd_some hf
        refine ev_iald h21 h22 d5_fewestSteps_39 ?_
        obtain ⟨y23, e24, hf⟩ := lt_some hf
        refine ev_nmI e24 ?_
        refine ev_istore (lv2 := [(4, .int y23), (0, .ref v0), (1, .int v1), (2, .int v2), (3, .int v3)]) (i := 4) (by decide) rfl d5_fewestSteps_40 ?_
        refine ev_iload (i := 4) (q := 0) rfl d5_fewestSteps_42 ?_
        obtain ⟨r25, t26, k27, hf⟩ := bd_some hf
        have q28 := s11_laneOf _ _ _ _ k27
        refine ev_callSN (vs := [.int y23]) (sk := []) q28 (by decide) (Nat.le_of_ble_eq_true rfl) w1121 w607 w1 w608 k11_laneOf rfl (Nat.le_of_ble_eq_true rfl) d5_fewestSteps_44 ?_
        refine ev_istore (lv2 := [(5, .int r25), (4, .int y23), (0, .ref v0), (1, .int v1), (2, .int v2), (3, .int v3)]) (i := 5) (by decide) rfl d5_fewestSteps_47 ?_
        refine ev_iload (i := 4) (q := 1) rfl d5_fewestSteps_49 ?_
        obtain ⟨r29, t30, k31, hf⟩ := bd_some hf
        have q32 := s11_stretchOf _ _ _ _ k31
        refine ev_callSN (vs := [.int y23]) (sk := []) q32 (by decide) (Nat.le_of_ble_eq_true rfl) w1122 w867 w1 w868 k11_stretchOf rfl (Nat.le_of_ble_eq_true rfl) d5_fewestSteps_51 ?_
        refine ev_istore (lv2 := [(6, .int r29), (5, .int r25), (4, .int y23), (0, .ref v0), (1, .int v1), (2, .int v2), (3, .int v3)]) (i := 6) (by decide) rfl d5_fewestSteps_54 ?_
        refine ev_iload (i := 4) (q := 2) rfl d5_fewestSteps_56 ?_
        refine ev_iload_n (j := 2) (i := 2) (q := 5) rfl rfl d5_fewestSteps_58 ?_
        rcases ite_some hf with ⟨c33, hf⟩ | ⟨c33, hf⟩
        · refine ev_icmp_ne_P (tgt := 70) c33 (by decide) d5_fewestSteps_59 ?_
          refine ev_aload_n (j := 0) (i := 0) (q := 3) rfl rfl d5_fewestSteps_62 ?_
          obtain ⟨b34, e35, hf⟩ := lt_some hf
          obtain ⟨h36, hf⟩ := gd_some hf
          refine ev_getRb cls5 (j := 5) (by decide) rfl w481 (mono_ob q32.1 (mono_ob q28.1 h15)) e35 (nz_ne h36) d5_fewestSteps_63 ?_
          refine ev_iload (i := 4) (q := 2) rfl d5_fewestSteps_66 ?_
          obtain ⟨h37, hf⟩ := gd_some hf
          obtain ⟨h38, hf⟩ := gd_some hf
          refine ev_iald h37 h38 d5_fewestSteps_68 ?_
          obtain ⟨rfl, rfl⟩ := ret_some hf
          exact ev_iret rfl d5_fewestSteps_69
        · refine ev_icmp_ne_Q (tgt := 70) c33 (by decide) d5_fewestSteps_59 ?_
          refine ev_iload_n (j := 2) (i := 2) (q := 5) rfl rfl d5_fewestSteps_70 ?_
          refine ev_iconst ci_m1 d5_fewestSteps_71 ?_
          rcases ite_some hf with ⟨c39, hf⟩ | ⟨c39, hf⟩
          · refine ev_icmp_ne_P (tgt := 96) c39 (by decide) d5_fewestSteps_72 ?_
            refine ev_iload (i := 5) (q := 1) rfl d5_fewestSteps_75 ?_
            rcases ite_some hf with ⟨c40, hf⟩ | ⟨c40, hf⟩
            · refine ev_if_eq_P (tgt := 86) c40 (by decide) d5_fewestSteps_77 ?_
              exact Ev.sub [3, 2] rfl (s5_fewestSteps_p86 _ _ _ _ _ hf)
            · refine ev_if_eq_Q (tgt := 86) c40 (by decide) d5_fewestSteps_77 ?_
              refine ev_iload (i := 5) (q := 1) rfl d5_fewestSteps_80 ?_
              refine ev_iconst ci_5 d5_fewestSteps_82 ?_
              rcases ite_some hf with ⟨c41, hf⟩ | ⟨c41, hf⟩
              · refine ev_icmp_ne_P (tgt := 96) c41 (by decide) d5_fewestSteps_83 ?_
                exact Ev.sub [3, 2] rfl (s5_fewestSteps_p86 _ _ _ _ _ hf)
              · refine ev_icmp_ne_Q (tgt := 96) c41 (by decide) d5_fewestSteps_83 ?_
                exact Ev.sub [3, 4, 5, 6, 2, 1, 0] rfl (s5_fewestSteps_p96 ih _ _ _ _ _ _ _ _ _ _ hf)
          · refine ev_icmp_ne_Q (tgt := 96) c39 (by decide) d5_fewestSteps_72 ?_
            exact Ev.sub [3, 4, 5, 6, 2, 1, 0] rfl (s5_fewestSteps_p96 ih _ _ _ _ _ _ _ _ _ _ hf)
      · refine ev_icmp_ge_Q (tgt := 165) c17 (by decide) d5_fewestSteps_31 ?_
        refine ev_iconst ci_m1 d5_fewestSteps_165 ?_
        obtain ⟨rfl, rfl⟩ := ret_some hf
        exact ev_iret rfl d5_fewestSteps_166
    · refine ev_icmp_ge_Q (tgt := 165) c16 (by decide) d5_fewestSteps_25 ?_
      refine ev_iconst ci_m1 d5_fewestSteps_165 ?_
      obtain ⟨rfl, rfl⟩ := ret_some hf
      exact ev_iret rfl d5_fewestSteps_166
def f5_fewestSteps (σ : St) (v0 : Nat) (v1 : Int32) (v2 : Int32) : Option (Int32 × St) :=
  gd (ob σ v0 5) (
  lt (sR σ v0 5) fun b2 => (
  gd (nz b2) (
  bd (fJ7_fill_53178 σ b2 (-1 : Int32)) fun r5 t6 => (
  lt (wI t6 v0 7 (0 : Int32)) fun t9 => (
  bd (f5_begin t9 v0 v1) fun r11 t12 => (
  f5_fewestSteps_p20 FU t12 v0 v1 v2 (0 : Int32)))))))
set_option maxRecDepth 50000 in
theorem s5_fewestSteps : ∀ (σ : St) (v0 : Nat) (v1 : Int32) (v2 : Int32) (r : Int32) (τ : St), f5_fewestSteps σ v0 v1 v2 = some (r, τ) → Call 6 m5_fewestSteps [.ref v0, .int v1, .int v2] σ (some (.int r)) τ := by
  intro σ v0 v1 v2 r τ hf
  unfold f5_fewestSteps at hf
  refine Call.of (by decide +kernel) rfl (Nat.le_of_ble_eq_true rfl) ?_
  refine ev_aload_n (j := 0) (i := 0) (q := 0) rfl rfl d5_fewestSteps_0 ?_
  obtain ⟨h1, hf⟩ := gd_some hf
  obtain ⟨b2, e3, hf⟩ := lt_some hf
  obtain ⟨h4, hf⟩ := gd_some hf
  refine ev_getRb cls5 (j := 5) (by decide) rfl w481 h1 e3 (nz_ne h4) d5_fewestSteps_1 ?_
  refine ev_iconst ci_m1 d5_fewestSteps_4 ?_
  obtain ⟨r5, t6, k7, hf⟩ := bd_some hf
  have q8 := sJ7_fill_53178 _ _ _ _ _ k7
  refine ev_callS (vs := [.ref b2, .int (-1 : Int32)]) (sk := []) q8 (by decide) (Nat.le_of_ble_eq_true rfl) w1109 w101 w5 w102 kJ7_fill_53178 rfl (Nat.le_of_ble_eq_true rfl) d5_fewestSteps_5 ?_
  refine ev_aload_n (j := 0) (i := 0) (q := 0) rfl rfl d5_fewestSteps_8 ?_
  refine ev_iconst ci_0 d5_fewestSteps_9 ?_
  obtain ⟨t9, e10, hf⟩ := lt_some hf
  refine ev_putI cls5 (j := 7) (by decide) rfl rfl w483 (mono_ob q8.1 h1) (fun _ => ⟨rfl, rfl⟩) d5_fewestSteps_10 (ev_nmS e10 ?_)
  refine ev_aload_n (j := 0) (i := 0) (q := 0) rfl rfl d5_fewestSteps_13 ?_
  refine ev_iload_n (j := 1) (i := 1) (q := 1) rfl rfl d5_fewestSteps_14 ?_
  obtain ⟨r11, t12, k13, hf⟩ := bd_some hf
  have q14 := s5_begin _ _ _ _ _ k13
  refine ev_callV (vs := [.int v1]) (sk := []) cls5 (mono_ob (mono_eI e10) (mono_ob q8.1 h1)) q14 (by decide) (Nat.le_of_ble_eq_true rfl) w1110 w1112 ws48 w18 w1113 k5_begin rfl (Nat.le_of_ble_eq_true rfl) d5_fewestSteps_15 ?_
  refine ev_iconst ci_0 d5_fewestSteps_18 ?_
  refine ev_istore_n (lv2 := [(3, .int (0 : Int32)), (0, .ref v0), (1, .int v1), (2, .int v2)]) (j := 3) (i := 3) rfl (by decide) rfl d5_fewestSteps_19 ?_
  exact Ev.sub [1, 2, 3, 0] rfl (s5_fewestSteps_p20 FU _ _ _ _ _ _ _ hf)
abbrev m6_has : MD := ("MillBoats$Planner", ⟨"MillBoats$Planner", "has", "(I)Z"⟩, prog_8_method_3_code, 2, (some Jvm.ClassFile.FieldType.boolean))
theorem k6_has : okY m6_has.2.1 1 := ⟨by decide +kernel, by decide +kernel, by decide +kernel⟩
def f6_has (σ : St) (v0 : Nat) (v1 : Int32) : Option (Int32 × St) :=
  (if v1 < (0 : Int32) then
  some ((0 : Int32), σ)
  else
  (if v1 < (6 : Int32) then
  gd (ob σ v0 6) (
  (if (((sI σ v0 3) >>> (v1 &&& 31)) &&& (1 : Int32)) = (1 : Int32) then
  some ((1 : Int32), σ)
  else
  some ((0 : Int32), σ)))
  else
  some ((0 : Int32), σ)))
set_option maxRecDepth 50000 in
theorem s6_has : ∀ (σ : St) (v0 : Nat) (v1 : Int32) (r : Int32) (τ : St), f6_has σ v0 v1 = some (r, τ) → Call 2 m6_has [.ref v0, .int v1] σ (some (.int r)) τ := by
  intro σ v0 v1 r τ hf
  unfold f6_has at hf
  refine Call.of (by decide +kernel) rfl (Nat.le_of_ble_eq_true rfl) ?_
  refine ev_iload_n (j := 1) (i := 1) (q := 1) rfl rfl d6_has_0 ?_
  rcases ite_some hf with ⟨c1, hf⟩ | ⟨c1, hf⟩
  · refine ev_if_lt_P (tgt := 26) c1 (by decide) d6_has_1 ?_
    refine ev_iconst ci_0 d6_has_26 ?_
    obtain ⟨rfl, rfl⟩ := ret_some hf
    exact ev_zret rfl (by decide) d6_has_27
  · refine ev_if_lt_Q (tgt := 26) c1 (by decide) d6_has_1 ?_
    refine ev_iload_n (j := 1) (i := 1) (q := 1) rfl rfl d6_has_4 ?_
    refine ev_bipush cb_6 d6_has_5 ?_
    rcases ite_some hf with ⟨c2, hf⟩ | ⟨c2, hf⟩
    · refine ev_icmp_ge_P (tgt := 26) c2 (by decide) d6_has_7 ?_
      refine ev_aload_n (j := 0) (i := 0) (q := 0) rfl rfl d6_has_10 ?_
      obtain ⟨h3, hf⟩ := gd_some hf
      refine ev_getI cls6 (j := 3) (by decide) rfl w422 h3 d6_has_11 ?_
      refine ev_iload_n (j := 1) (i := 1) (q := 1) rfl rfl d6_has_14 ?_
      refine ev_ishr d6_has_15 ?_
      refine ev_iconst ci_1 d6_has_16 ?_
      refine ev_iand d6_has_17 ?_
      refine ev_iconst ci_1 d6_has_18 ?_
      rcases ite_some hf with ⟨c4, hf⟩ | ⟨c4, hf⟩
      · refine ev_icmp_ne_P (tgt := 26) c4 (by decide) d6_has_19 ?_
        refine ev_iconst ci_1 d6_has_22 ?_
        refine ev_goto (tgt := 27) (by decide) d6_has_23 ?_
        obtain ⟨rfl, rfl⟩ := ret_some hf
        exact ev_zret rfl (by decide) d6_has_27
      · refine ev_icmp_ne_Q (tgt := 26) c4 (by decide) d6_has_19 ?_
        refine ev_iconst ci_0 d6_has_26 ?_
        obtain ⟨rfl, rfl⟩ := ret_some hf
        exact ev_zret rfl (by decide) d6_has_27
    · refine ev_icmp_ge_Q (tgt := 26) c2 (by decide) d6_has_7 ?_
      refine ev_iconst ci_0 d6_has_26 ?_
      obtain ⟨rfl, rfl⟩ := ret_some hf
      exact ev_zret rfl (by decide) d6_has_27
