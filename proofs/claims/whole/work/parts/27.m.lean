theorem d7_splitNumber_0 : decode prog_9_method_7_code 0 = .ok (.lconst 0, 1) := by decide +kernel
theorem d7_splitNumber_1 : decode prog_9_method_7_code 1 = .ok (.lstore 4, 2) := by decide +kernel
theorem d7_splitNumber_3 : decode prog_9_method_7_code 3 = .ok (.iload_n 2, 1) := by decide +kernel
theorem d7_splitNumber_4 : decode prog_9_method_7_code 4 = .ok (.istore 6, 2) := by decide +kernel
theorem d7_splitNumber_6 : decode prog_9_method_7_code 6 = .ok (.iload 6, 2) := by decide +kernel
theorem d7_splitNumber_8 : decode prog_9_method_7_code 8 = .ok (.iload_n 3, 1) := by decide +kernel
theorem d7_splitNumber_9 : decode prog_9_method_7_code 9 = .ok (.if_icmp .ge 36, 3) := by decide +kernel
theorem d7_splitNumber_12 : decode prog_9_method_7_code 12 = .ok (.aload_n 1, 1) := by decide +kernel
theorem d7_splitNumber_13 : decode prog_9_method_7_code 13 = .ok (.iload 6, 2) := by decide +kernel
theorem d7_splitNumber_15 : decode prog_9_method_7_code 15 = .ok (.iaload, 1) := by decide +kernel
theorem d7_splitNumber_16 : decode prog_9_method_7_code 16 = .ok (.invokestatic 108, 3) := by decide +kernel
theorem d7_splitNumber_19 : decode prog_9_method_7_code 19 = .ok (.ifCond .eq 26, 3) := by decide +kernel
theorem d7_splitNumber_22 : decode prog_9_method_7_code 22 = .ok (.lload 4, 2) := by decide +kernel
theorem d7_splitNumber_24 : decode prog_9_method_7_code 24 = .ok (.ldc2_w 118, 3) := by decide +kernel
theorem d7_splitNumber_27 : decode prog_9_method_7_code 27 = .ok (.lmul, 1) := by decide +kernel
theorem d7_splitNumber_28 : decode prog_9_method_7_code 28 = .ok (.aload_n 1, 1) := by decide +kernel
theorem d7_splitNumber_29 : decode prog_9_method_7_code 29 = .ok (.iload 6, 2) := by decide +kernel
theorem d7_splitNumber_31 : decode prog_9_method_7_code 31 = .ok (.iaload, 1) := by decide +kernel
theorem d7_splitNumber_32 : decode prog_9_method_7_code 32 = .ok (.bipush 48, 2) := by decide +kernel
theorem d7_splitNumber_34 : decode prog_9_method_7_code 34 = .ok (.isub, 1) := by decide +kernel
theorem d7_splitNumber_35 : decode prog_9_method_7_code 35 = .ok (.i2l, 1) := by decide +kernel
theorem d7_splitNumber_36 : decode prog_9_method_7_code 36 = .ok (.ladd, 1) := by decide +kernel
theorem d7_splitNumber_37 : decode prog_9_method_7_code 37 = .ok (.lstore 4, 2) := by decide +kernel
theorem d7_splitNumber_39 : decode prog_9_method_7_code 39 = .ok (.iinc 6 1, 3) := by decide +kernel
theorem d7_splitNumber_42 : decode prog_9_method_7_code 42 = .ok (.goto (-36), 3) := by decide +kernel
theorem d7_splitNumber_45 : decode prog_9_method_7_code 45 = .ok (.aload_n 0, 1) := by decide +kernel
theorem d7_splitNumber_46 : decode prog_9_method_7_code 46 = .ok (.iload 6, 2) := by decide +kernel
theorem d7_splitNumber_48 : decode prog_9_method_7_code 48 = .ok (.iload_n 2, 1) := by decide +kernel
theorem d7_splitNumber_49 : decode prog_9_method_7_code 49 = .ok (.isub, 1) := by decide +kernel
theorem d7_splitNumber_50 : decode prog_9_method_7_code 50 = .ok (.iconst 4, 1) := by decide +kernel
theorem d7_splitNumber_51 : decode prog_9_method_7_code 51 = .ok (.if_icmp .le 8, 3) := by decide +kernel
theorem d7_splitNumber_54 : decode prog_9_method_7_code 54 = .ok (.bipush (-2), 2) := by decide +kernel
theorem d7_splitNumber_56 : decode prog_9_method_7_code 56 = .ok (.goto 5, 3) := by decide +kernel
theorem d7_splitNumber_59 : decode prog_9_method_7_code 59 = .ok (.bipush (-3), 2) := by decide +kernel
theorem d7_splitNumber_61 : decode prog_9_method_7_code 61 = .ok (.iload_n 2, 1) := by decide +kernel
theorem d7_splitNumber_62 : decode prog_9_method_7_code 62 = .ok (.lload 4, 2) := by decide +kernel
theorem d7_splitNumber_64 : decode prog_9_method_7_code 64 = .ok (.invokevirtual 114, 3) := by decide +kernel
theorem d7_splitNumber_67 : decode prog_9_method_7_code 67 = .ok (.iload 6, 2) := by decide +kernel
theorem d7_splitNumber_69 : decode prog_9_method_7_code 69 = .ok (.ireturn, 1) := by decide +kernel
theorem d7_splitWord_0 : decode prog_9_method_6_code 0 = .ok (.lconst 0, 1) := by decide +kernel
theorem d7_splitWord_1 : decode prog_9_method_6_code 1 = .ok (.lstore 4, 2) := by decide +kernel
theorem d7_splitWord_3 : decode prog_9_method_6_code 3 = .ok (.iload_n 2, 1) := by decide +kernel
theorem d7_splitWord_4 : decode prog_9_method_6_code 4 = .ok (.istore 6, 2) := by decide +kernel
theorem d7_splitWord_6 : decode prog_9_method_6_code 6 = .ok (.iload 6, 2) := by decide +kernel
theorem d7_splitWord_8 : decode prog_9_method_6_code 8 = .ok (.iload_n 3, 1) := by decide +kernel
theorem d7_splitWord_9 : decode prog_9_method_6_code 9 = .ok (.if_icmp .ge 30, 3) := by decide +kernel
theorem d7_splitWord_12 : decode prog_9_method_6_code 12 = .ok (.aload_n 1, 1) := by decide +kernel
theorem d7_splitWord_13 : decode prog_9_method_6_code 13 = .ok (.iload 6, 2) := by decide +kernel
theorem d7_splitWord_15 : decode prog_9_method_6_code 15 = .ok (.iaload, 1) := by decide +kernel
theorem d7_splitWord_16 : decode prog_9_method_6_code 16 = .ok (.invokestatic 100, 3) := by decide +kernel
theorem d7_splitWord_19 : decode prog_9_method_6_code 19 = .ok (.ifCond .eq 20, 3) := by decide +kernel
theorem d7_splitWord_22 : decode prog_9_method_6_code 22 = .ok (.lload 4, 2) := by decide +kernel
theorem d7_splitWord_24 : decode prog_9_method_6_code 24 = .ok (.aload_n 1, 1) := by decide +kernel
theorem d7_splitWord_25 : decode prog_9_method_6_code 25 = .ok (.iload 6, 2) := by decide +kernel
theorem d7_splitWord_27 : decode prog_9_method_6_code 27 = .ok (.iaload, 1) := by decide +kernel
theorem d7_splitWord_28 : decode prog_9_method_6_code 28 = .ok (.invokestatic 59, 3) := by decide +kernel
theorem d7_splitWord_31 : decode prog_9_method_6_code 31 = .ok (.lstore 4, 2) := by decide +kernel
theorem d7_splitWord_33 : decode prog_9_method_6_code 33 = .ok (.iinc 6 1, 3) := by decide +kernel
theorem d7_splitWord_36 : decode prog_9_method_6_code 36 = .ok (.goto (-30), 3) := by decide +kernel
theorem d7_splitWord_39 : decode prog_9_method_6_code 39 = .ok (.iload 6, 2) := by decide +kernel
theorem d7_splitWord_41 : decode prog_9_method_6_code 41 = .ok (.iload_n 2, 1) := by decide +kernel
theorem d7_splitWord_42 : decode prog_9_method_6_code 42 = .ok (.isub, 1) := by decide +kernel
theorem d7_splitWord_43 : decode prog_9_method_6_code 43 = .ok (.bipush 8, 2) := by decide +kernel
theorem d7_splitWord_45 : decode prog_9_method_6_code 45 = .ok (.if_icmp .le 8, 3) := by decide +kernel
theorem d7_splitWord_48 : decode prog_9_method_6_code 48 = .ok (.bipush (-2), 2) := by decide +kernel
theorem d7_splitWord_50 : decode prog_9_method_6_code 50 = .ok (.goto 5, 3) := by decide +kernel
theorem d7_splitWord_53 : decode prog_9_method_6_code 53 = .ok (.bipush (-4), 2) := by decide +kernel
theorem d7_splitWord_55 : decode prog_9_method_6_code 55 = .ok (.istore 7, 2) := by decide +kernel
theorem d7_splitWord_57 : decode prog_9_method_6_code 57 = .ok (.iconst 0, 1) := by decide +kernel
theorem d7_splitWord_58 : decode prog_9_method_6_code 58 = .ok (.istore 8, 2) := by decide +kernel
theorem d7_splitWord_60 : decode prog_9_method_6_code 60 = .ok (.iload 7, 2) := by decide +kernel
theorem d7_splitWord_62 : decode prog_9_method_6_code 62 = .ok (.bipush (-4), 2) := by decide +kernel
theorem d7_splitWord_64 : decode prog_9_method_6_code 64 = .ok (.if_icmp .ne 40, 3) := by decide +kernel
theorem d7_splitWord_67 : decode prog_9_method_6_code 67 = .ok (.iload 8, 2) := by decide +kernel
theorem d7_splitWord_69 : decode prog_9_method_6_code 69 = .ok (.aload_n 0, 1) := by decide +kernel
theorem d7_splitWord_70 : decode prog_9_method_6_code 70 = .ok (.getfield 22, 3) := by decide +kernel
theorem d7_splitWord_73 : decode prog_9_method_6_code 73 = .ok (.arraylength, 1) := by decide +kernel
theorem d7_splitWord_74 : decode prog_9_method_6_code 74 = .ok (.if_icmp .ge 30, 3) := by decide +kernel
theorem d7_splitWord_77 : decode prog_9_method_6_code 77 = .ok (.aload_n 0, 1) := by decide +kernel
theorem d7_splitWord_78 : decode prog_9_method_6_code 78 = .ok (.getfield 22, 3) := by decide +kernel
theorem d7_splitWord_81 : decode prog_9_method_6_code 81 = .ok (.iload 8, 2) := by decide +kernel
theorem d7_splitWord_83 : decode prog_9_method_6_code 83 = .ok (.laload, 1) := by decide +kernel
theorem d7_splitWord_84 : decode prog_9_method_6_code 84 = .ok (.lload 4, 2) := by decide +kernel
theorem d7_splitWord_86 : decode prog_9_method_6_code 86 = .ok (.lcmp, 1) := by decide +kernel
theorem d7_splitWord_87 : decode prog_9_method_6_code 87 = .ok (.ifCond .ne 11, 3) := by decide +kernel
theorem d7_splitWord_90 : decode prog_9_method_6_code 90 = .ok (.sipush 256, 3) := by decide +kernel
theorem d7_splitWord_93 : decode prog_9_method_6_code 93 = .ok (.iload 8, 2) := by decide +kernel
theorem d7_splitWord_95 : decode prog_9_method_6_code 95 = .ok (.iadd, 1) := by decide +kernel
theorem d7_splitWord_96 : decode prog_9_method_6_code 96 = .ok (.istore 7, 2) := by decide +kernel
theorem d7_splitWord_98 : decode prog_9_method_6_code 98 = .ok (.iinc 8 1, 3) := by decide +kernel
theorem d7_splitWord_101 : decode prog_9_method_6_code 101 = .ok (.goto (-41), 3) := by decide +kernel
theorem d7_splitWord_104 : decode prog_9_method_6_code 104 = .ok (.aload_n 0, 1) := by decide +kernel
theorem d7_splitWord_105 : decode prog_9_method_6_code 105 = .ok (.iload 7, 2) := by decide +kernel
theorem d7_splitWord_107 : decode prog_9_method_6_code 107 = .ok (.iload_n 2, 1) := by decide +kernel
theorem d7_splitWord_108 : decode prog_9_method_6_code 108 = .ok (.lload 4, 2) := by decide +kernel
theorem d7_splitWord_110 : decode prog_9_method_6_code 110 = .ok (.invokevirtual 114, 3) := by decide +kernel
theorem d7_splitWord_113 : decode prog_9_method_6_code 113 = .ok (.iload 6, 2) := by decide +kernel
theorem d7_splitWord_115 : decode prog_9_method_6_code 115 = .ok (.ireturn, 1) := by decide +kernel
theorem d7_split_0 : decode prog_9_method_5_code 0 = .ok (.aload_n 0, 1) := by decide +kernel
theorem d7_split_1 : decode prog_9_method_5_code 1 = .ok (.iconst 0, 1) := by decide +kernel
theorem d7_split_2 : decode prog_9_method_5_code 2 = .ok (.putfield 97, 3) := by decide +kernel
theorem d7_split_5 : decode prog_9_method_5_code 5 = .ok (.iconst 0, 1) := by decide +kernel
theorem d7_split_6 : decode prog_9_method_5_code 6 = .ok (.istore_n 3, 1) := by decide +kernel
theorem d7_split_7 : decode prog_9_method_5_code 7 = .ok (.iconst 0, 1) := by decide +kernel
theorem d7_split_8 : decode prog_9_method_5_code 8 = .ok (.istore 4, 2) := by decide +kernel
theorem d7_split_10 : decode prog_9_method_5_code 10 = .ok (.iload 4, 2) := by decide +kernel
theorem d7_split_12 : decode prog_9_method_5_code 12 = .ok (.sipush 400, 3) := by decide +kernel
theorem d7_split_15 : decode prog_9_method_5_code 15 = .ok (.if_icmp .ge 82, 3) := by decide +kernel
theorem d7_split_18 : decode prog_9_method_5_code 18 = .ok (.iload_n 3, 1) := by decide +kernel
theorem d7_split_19 : decode prog_9_method_5_code 19 = .ok (.iload_n 2, 1) := by decide +kernel
theorem d7_split_20 : decode prog_9_method_5_code 20 = .ok (.if_icmp .ge 77, 3) := by decide +kernel
theorem d7_split_23 : decode prog_9_method_5_code 23 = .ok (.aload_n 1, 1) := by decide +kernel
theorem d7_split_24 : decode prog_9_method_5_code 24 = .ok (.iload_n 3, 1) := by decide +kernel
theorem d7_split_25 : decode prog_9_method_5_code 25 = .ok (.iaload, 1) := by decide +kernel
theorem d7_split_26 : decode prog_9_method_5_code 26 = .ok (.istore 5, 2) := by decide +kernel
theorem d7_split_28 : decode prog_9_method_5_code 28 = .ok (.iload 5, 2) := by decide +kernel
theorem d7_split_30 : decode prog_9_method_5_code 30 = .ok (.invokestatic 100, 3) := by decide +kernel
theorem d7_split_33 : decode prog_9_method_5_code 33 = .ok (.ifCond .eq 14, 3) := by decide +kernel
theorem d7_split_36 : decode prog_9_method_5_code 36 = .ok (.aload_n 0, 1) := by decide +kernel
theorem d7_split_37 : decode prog_9_method_5_code 37 = .ok (.aload_n 1, 1) := by decide +kernel
theorem d7_split_38 : decode prog_9_method_5_code 38 = .ok (.iload_n 3, 1) := by decide +kernel
theorem d7_split_39 : decode prog_9_method_5_code 39 = .ok (.iload_n 2, 1) := by decide +kernel
theorem d7_split_40 : decode prog_9_method_5_code 40 = .ok (.invokevirtual 104, 3) := by decide +kernel
theorem d7_split_43 : decode prog_9_method_5_code 43 = .ok (.istore_n 3, 1) := by decide +kernel
theorem d7_split_44 : decode prog_9_method_5_code 44 = .ok (.goto 47, 3) := by decide +kernel
theorem d7_split_47 : decode prog_9_method_5_code 47 = .ok (.iload 5, 2) := by decide +kernel
theorem d7_split_49 : decode prog_9_method_5_code 49 = .ok (.invokestatic 108, 3) := by decide +kernel
theorem d7_split_52 : decode prog_9_method_5_code 52 = .ok (.ifCond .eq 14, 3) := by decide +kernel
theorem d7_split_55 : decode prog_9_method_5_code 55 = .ok (.aload_n 0, 1) := by decide +kernel
theorem d7_split_56 : decode prog_9_method_5_code 56 = .ok (.aload_n 1, 1) := by decide +kernel
theorem d7_split_57 : decode prog_9_method_5_code 57 = .ok (.iload_n 3, 1) := by decide +kernel
theorem d7_split_58 : decode prog_9_method_5_code 58 = .ok (.iload_n 2, 1) := by decide +kernel
theorem d7_split_59 : decode prog_9_method_5_code 59 = .ok (.invokevirtual 111, 3) := by decide +kernel
theorem d7_split_62 : decode prog_9_method_5_code 62 = .ok (.istore_n 3, 1) := by decide +kernel
theorem d7_split_63 : decode prog_9_method_5_code 63 = .ok (.goto 28, 3) := by decide +kernel
theorem d7_split_66 : decode prog_9_method_5_code 66 = .ok (.iload 5, 2) := by decide +kernel
theorem d7_split_68 : decode prog_9_method_5_code 68 = .ok (.bipush 32, 2) := by decide +kernel
theorem d7_split_70 : decode prog_9_method_5_code 70 = .ok (.if_icmp .eq 18, 3) := by decide +kernel
theorem d7_split_73 : decode prog_9_method_5_code 73 = .ok (.iload 5, 2) := by decide +kernel
theorem d7_split_75 : decode prog_9_method_5_code 75 = .ok (.bipush 10, 2) := by decide +kernel
theorem d7_split_77 : decode prog_9_method_5_code 77 = .ok (.if_icmp .eq 11, 3) := by decide +kernel
theorem d7_split_80 : decode prog_9_method_5_code 80 = .ok (.aload_n 0, 1) := by decide +kernel
theorem d7_split_81 : decode prog_9_method_5_code 81 = .ok (.iload 5, 2) := by decide +kernel
theorem d7_split_83 : decode prog_9_method_5_code 83 = .ok (.iload_n 3, 1) := by decide +kernel
theorem d7_split_84 : decode prog_9_method_5_code 84 = .ok (.lconst 0, 1) := by decide +kernel
theorem d7_split_85 : decode prog_9_method_5_code 85 = .ok (.invokevirtual 114, 3) := by decide +kernel
theorem d7_split_88 : decode prog_9_method_5_code 88 = .ok (.iinc 3 1, 3) := by decide +kernel
theorem d7_split_91 : decode prog_9_method_5_code 91 = .ok (.iinc 4 1, 3) := by decide +kernel
theorem d7_split_94 : decode prog_9_method_5_code 94 = .ok (.goto (-84), 3) := by decide +kernel
theorem d7_split_97 : decode prog_9_method_5_code 97 = .ok (.aload_n 0, 1) := by decide +kernel
theorem d7_split_98 : decode prog_9_method_5_code 98 = .ok (.iconst (-1), 1) := by decide +kernel
theorem d7_split_99 : decode prog_9_method_5_code 99 = .ok (.iload_n 2, 1) := by decide +kernel
theorem d7_split_100 : decode prog_9_method_5_code 100 = .ok (.lconst 0, 1) := by decide +kernel
theorem d7_split_101 : decode prog_9_method_5_code 101 = .ok (.invokevirtual 114, 3) := by decide +kernel
theorem d7_split_104 : decode prog_9_method_5_code 104 = .ok (.return_, 1) := by decide +kernel
theorem d10_clear_0 : decode prog_12_method_2_code 0 = .ok (.aload_n 0, 1) := by decide +kernel
theorem d10_clear_1 : decode prog_12_method_2_code 1 = .ok (.iconst 0, 1) := by decide +kernel
theorem d10_clear_2 : decode prog_12_method_2_code 2 = .ok (.putfield 31, 3) := by decide +kernel
theorem d10_clear_5 : decode prog_12_method_2_code 5 = .ok (.aload_n 0, 1) := by decide +kernel
theorem d10_clear_6 : decode prog_12_method_2_code 6 = .ok (.iconst 0, 1) := by decide +kernel
theorem d10_clear_7 : decode prog_12_method_2_code 7 = .ok (.putfield 35, 3) := by decide +kernel
theorem d10_clear_10 : decode prog_12_method_2_code 10 = .ok (.return_, 1) := by decide +kernel
theorem d7_read_0 : decode prog_9_method_4_code 0 = .ok (.aload_n 0, 1) := by decide +kernel
theorem d7_read_1 : decode prog_9_method_4_code 1 = .ok (.aload_n 1, 1) := by decide +kernel
theorem d7_read_2 : decode prog_9_method_4_code 2 = .ok (.iload_n 2, 1) := by decide +kernel
theorem d7_read_3 : decode prog_9_method_4_code 3 = .ok (.aload_n 1, 1) := by decide +kernel
theorem d7_read_4 : decode prog_9_method_4_code 4 = .ok (.arraylength, 1) := by decide +kernel
theorem d7_read_5 : decode prog_9_method_4_code 5 = .ok (.sipush 400, 3) := by decide +kernel
theorem d7_read_8 : decode prog_9_method_4_code 8 = .ok (.invokestatic 65, 3) := by decide +kernel
theorem d7_read_11 : decode prog_9_method_4_code 11 = .ok (.invokestatic 65, 3) := by decide +kernel
theorem d7_read_14 : decode prog_9_method_4_code 14 = .ok (.invokevirtual 71, 3) := by decide +kernel
theorem d7_read_17 : decode prog_9_method_4_code 17 = .ok (.aload_n 0, 1) := by decide +kernel
theorem d7_read_18 : decode prog_9_method_4_code 18 = .ok (.getfield 33, 3) := by decide +kernel
theorem d7_read_21 : decode prog_9_method_4_code 21 = .ok (.invokevirtual 75, 3) := by decide +kernel
theorem d7_read_24 : decode prog_9_method_4_code 24 = .ok (.aload_n 0, 1) := by decide +kernel
theorem d7_read_25 : decode prog_9_method_4_code 25 = .ok (.iconst 0, 1) := by decide +kernel
theorem d7_read_26 : decode prog_9_method_4_code 26 = .ok (.putfield 78, 3) := by decide +kernel
theorem d7_read_29 : decode prog_9_method_4_code 29 = .ok (.aload_n 0, 1) := by decide +kernel
theorem d7_read_30 : decode prog_9_method_4_code 30 = .ok (.iconst 0, 1) := by decide +kernel
theorem d7_read_31 : decode prog_9_method_4_code 31 = .ok (.putfield 81, 3) := by decide +kernel
theorem d7_read_34 : decode prog_9_method_4_code 34 = .ok (.aload_n 0, 1) := by decide +kernel
theorem d7_read_35 : decode prog_9_method_4_code 35 = .ok (.iconst 0, 1) := by decide +kernel
theorem d7_read_36 : decode prog_9_method_4_code 36 = .ok (.putfield 84, 3) := by decide +kernel
theorem d7_read_39 : decode prog_9_method_4_code 39 = .ok (.aload_n 0, 1) := by decide +kernel
theorem d7_read_40 : decode prog_9_method_4_code 40 = .ok (.iconst (-1), 1) := by decide +kernel
theorem d7_read_41 : decode prog_9_method_4_code 41 = .ok (.putfield 37, 3) := by decide +kernel
theorem d7_read_44 : decode prog_9_method_4_code 44 = .ok (.aload_n 0, 1) := by decide +kernel
theorem d7_read_45 : decode prog_9_method_4_code 45 = .ok (.iconst 0, 1) := by decide +kernel
theorem d7_read_46 : decode prog_9_method_4_code 46 = .ok (.putfield 87, 3) := by decide +kernel
theorem d7_read_49 : decode prog_9_method_4_code 49 = .ok (.aload_n 0, 1) := by decide +kernel
theorem d7_read_50 : decode prog_9_method_4_code 50 = .ok (.aload_n 0, 1) := by decide +kernel
theorem d7_read_51 : decode prog_9_method_4_code 51 = .ok (.getfield 9, 3) := by decide +kernel
theorem d7_read_54 : decode prog_9_method_4_code 54 = .ok (.iconst 0, 1) := by decide +kernel
theorem d7_read_55 : decode prog_9_method_4_code 55 = .ok (.iaload, 1) := by decide +kernel
theorem d7_read_56 : decode prog_9_method_4_code 56 = .ok (.putfield 90, 3) := by decide +kernel
theorem d7_read_59 : decode prog_9_method_4_code 59 = .ok (.iconst 1, 1) := by decide +kernel
theorem d7_read_60 : decode prog_9_method_4_code 60 = .ok (.istore_n 3, 1) := by decide +kernel
theorem d7_read_61 : decode prog_9_method_4_code 61 = .ok (.iconst 0, 1) := by decide +kernel
theorem d7_read_62 : decode prog_9_method_4_code 62 = .ok (.istore 4, 2) := by decide +kernel
theorem d7_read_64 : decode prog_9_method_4_code 64 = .ok (.iload 4, 2) := by decide +kernel
theorem d7_read_66 : decode prog_9_method_4_code 66 = .ok (.bipush 20, 2) := by decide +kernel
theorem d7_read_68 : decode prog_9_method_4_code 68 = .ok (.if_icmp .gt 26, 3) := by decide +kernel
theorem d7_read_71 : decode prog_9_method_4_code 71 = .ok (.iload_n 3, 1) := by decide +kernel
theorem d7_read_72 : decode prog_9_method_4_code 72 = .ok (.ifCond .eq 22, 3) := by decide +kernel
theorem d7_read_75 : decode prog_9_method_4_code 75 = .ok (.aload_n 0, 1) := by decide +kernel
theorem d7_read_76 : decode prog_9_method_4_code 76 = .ok (.getfield 90, 3) := by decide +kernel
theorem d7_read_79 : decode prog_9_method_4_code 79 = .ok (.iconst (-1), 1) := by decide +kernel
theorem d7_read_80 : decode prog_9_method_4_code 80 = .ok (.if_icmp .eq 14, 3) := by decide +kernel
theorem d7_read_83 : decode prog_9_method_4_code 83 = .ok (.aload_n 0, 1) := by decide +kernel
theorem d7_read_84 : decode prog_9_method_4_code 84 = .ok (.invokevirtual 93, 3) := by decide +kernel
theorem d7_read_87 : decode prog_9_method_4_code 87 = .ok (.istore_n 3, 1) := by decide +kernel
theorem d7_read_88 : decode prog_9_method_4_code 88 = .ok (.iinc 4 1, 3) := by decide +kernel
theorem d7_read_91 : decode prog_9_method_4_code 91 = .ok (.goto (-27), 3) := by decide +kernel
theorem d7_read_94 : decode prog_9_method_4_code 94 = .ok (.aload_n 0, 1) := by decide +kernel
theorem d7_read_95 : decode prog_9_method_4_code 95 = .ok (.getfield 84, 3) := by decide +kernel
theorem d7_read_98 : decode prog_9_method_4_code 98 = .ok (.ireturn, 1) := by decide +kernel
theorem d9_init_0 : decode prog_11_method_1_code 0 = .ok (.aload_n 0, 1) := by decide +kernel
theorem d9_init_1 : decode prog_11_method_1_code 1 = .ok (.invokespecial 1, 3) := by decide +kernel
theorem d9_init_4 : decode prog_11_method_1_code 4 = .ok (.aload_n 0, 1) := by decide +kernel
theorem d9_init_5 : decode prog_11_method_1_code 5 = .ok (.bipush 8, 2) := by decide +kernel
theorem d9_init_7 : decode prog_11_method_1_code 7 = .ok (.newarray .int, 2) := by decide +kernel
theorem d9_init_9 : decode prog_11_method_1_code 9 = .ok (.putfield 9, 3) := by decide +kernel
theorem d9_init_12 : decode prog_11_method_1_code 12 = .ok (.aload_n 0, 1) := by decide +kernel
theorem d9_init_13 : decode prog_11_method_1_code 13 = .ok (.bipush 8, 2) := by decide +kernel
theorem d9_init_15 : decode prog_11_method_1_code 15 = .ok (.newarray .int, 2) := by decide +kernel
theorem d9_init_17 : decode prog_11_method_1_code 17 = .ok (.putfield 13, 3) := by decide +kernel
theorem d9_init_20 : decode prog_11_method_1_code 20 = .ok (.return_, 1) := by decide +kernel
theorem d8_init_0 : decode prog_10_method_1_code 0 = .ok (.aload_n 0, 1) := by decide +kernel
theorem d8_init_1 : decode prog_10_method_1_code 1 = .ok (.invokespecial 3, 3) := by decide +kernel
theorem d8_init_4 : decode prog_10_method_1_code 4 = .ok (.aload_n 0, 1) := by decide +kernel
theorem d8_init_5 : decode prog_10_method_1_code 5 = .ok (.bipush 72, 2) := by decide +kernel
theorem d8_init_7 : decode prog_10_method_1_code 7 = .ok (.newarray .int, 2) := by decide +kernel
theorem d8_init_9 : decode prog_10_method_1_code 9 = .ok (.putfield 9, 3) := by decide +kernel
theorem d8_init_12 : decode prog_10_method_1_code 12 = .ok (.aload_n 0, 1) := by decide +kernel
theorem d8_init_13 : decode prog_10_method_1_code 13 = .ok (.bipush 7, 2) := by decide +kernel
theorem d8_init_15 : decode prog_10_method_1_code 15 = .ok (.anewarray 15, 3) := by decide +kernel
theorem d8_init_18 : decode prog_10_method_1_code 18 = .ok (.putfield 17, 3) := by decide +kernel
theorem d8_init_21 : decode prog_10_method_1_code 21 = .ok (.aload_n 0, 1) := by decide +kernel
theorem d8_init_22 : decode prog_10_method_1_code 22 = .ok (.bipush 6, 2) := by decide +kernel
theorem d8_init_24 : decode prog_10_method_1_code 24 = .ok (.anewarray 21, 3) := by decide +kernel
theorem d8_init_27 : decode prog_10_method_1_code 27 = .ok (.putfield 23, 3) := by decide +kernel
theorem d8_init_30 : decode prog_10_method_1_code 30 = .ok (.aload_n 0, 1) := by decide +kernel
theorem d8_init_31 : decode prog_10_method_1_code 31 = .ok (.bipush 6, 2) := by decide +kernel
theorem d8_init_33 : decode prog_10_method_1_code 33 = .ok (.newarray .int, 2) := by decide +kernel
theorem d8_init_35 : decode prog_10_method_1_code 35 = .ok (.putfield 27, 3) := by decide +kernel
theorem d8_init_38 : decode prog_10_method_1_code 38 = .ok (.aload_n 0, 1) := by decide +kernel
theorem d8_init_39 : decode prog_10_method_1_code 39 = .ok (.bipush 6, 2) := by decide +kernel
theorem d8_init_41 : decode prog_10_method_1_code 41 = .ok (.newarray .int, 2) := by decide +kernel
theorem d8_init_43 : decode prog_10_method_1_code 43 = .ok (.putfield 30, 3) := by decide +kernel
theorem d8_init_46 : decode prog_10_method_1_code 46 = .ok (.iconst 0, 1) := by decide +kernel
theorem d8_init_47 : decode prog_10_method_1_code 47 = .ok (.istore_n 1, 1) := by decide +kernel
theorem d8_init_48 : decode prog_10_method_1_code 48 = .ok (.iload_n 1, 1) := by decide +kernel
theorem d8_init_49 : decode prog_10_method_1_code 49 = .ok (.bipush 7, 2) := by decide +kernel
theorem d8_init_51 : decode prog_10_method_1_code 51 = .ok (.if_icmp .ge 22, 3) := by decide +kernel
theorem d8_init_54 : decode prog_10_method_1_code 54 = .ok (.aload_n 0, 1) := by decide +kernel
theorem d8_init_55 : decode prog_10_method_1_code 55 = .ok (.getfield 17, 3) := by decide +kernel
theorem d8_init_58 : decode prog_10_method_1_code 58 = .ok (.iload_n 1, 1) := by decide +kernel
theorem d8_init_59 : decode prog_10_method_1_code 59 = .ok (.new 15, 3) := by decide +kernel
theorem d8_init_62 : decode prog_10_method_1_code 62 = .ok (.dup, 1) := by decide +kernel
theorem d8_init_63 : decode prog_10_method_1_code 63 = .ok (.invokespecial 33, 3) := by decide +kernel
theorem d8_init_66 : decode prog_10_method_1_code 66 = .ok (.aastore, 1) := by decide +kernel
theorem d8_init_67 : decode prog_10_method_1_code 67 = .ok (.iinc 1 1, 3) := by decide +kernel
theorem d8_init_70 : decode prog_10_method_1_code 70 = .ok (.goto (-22), 3) := by decide +kernel
theorem d8_init_73 : decode prog_10_method_1_code 73 = .ok (.iconst 0, 1) := by decide +kernel
theorem d8_init_74 : decode prog_10_method_1_code 74 = .ok (.istore_n 1, 1) := by decide +kernel
theorem d8_init_75 : decode prog_10_method_1_code 75 = .ok (.iload_n 1, 1) := by decide +kernel
theorem d8_init_76 : decode prog_10_method_1_code 76 = .ok (.bipush 6, 2) := by decide +kernel
theorem d8_init_78 : decode prog_10_method_1_code 78 = .ok (.if_icmp .ge 22, 3) := by decide +kernel
theorem d8_init_81 : decode prog_10_method_1_code 81 = .ok (.aload_n 0, 1) := by decide +kernel
theorem d8_init_82 : decode prog_10_method_1_code 82 = .ok (.getfield 23, 3) := by decide +kernel
theorem d8_init_85 : decode prog_10_method_1_code 85 = .ok (.iload_n 1, 1) := by decide +kernel
theorem d8_init_86 : decode prog_10_method_1_code 86 = .ok (.new 21, 3) := by decide +kernel
theorem d8_init_89 : decode prog_10_method_1_code 89 = .ok (.dup, 1) := by decide +kernel
theorem d8_init_90 : decode prog_10_method_1_code 90 = .ok (.invokespecial 34, 3) := by decide +kernel
theorem d8_init_93 : decode prog_10_method_1_code 93 = .ok (.aastore, 1) := by decide +kernel
theorem d8_init_94 : decode prog_10_method_1_code 94 = .ok (.iinc 1 1, 3) := by decide +kernel
theorem d8_init_97 : decode prog_10_method_1_code 97 = .ok (.goto (-22), 3) := by decide +kernel
theorem d8_init_100 : decode prog_10_method_1_code 100 = .ok (.aload_n 0, 1) := by decide +kernel
theorem d8_init_101 : decode prog_10_method_1_code 101 = .ok (.getfield 27, 3) := by decide +kernel
theorem d8_init_104 : decode prog_10_method_1_code 104 = .ok (.iconst (-1), 1) := by decide +kernel
theorem d8_init_105 : decode prog_10_method_1_code 105 = .ok (.invokestatic 35, 3) := by decide +kernel
theorem d8_init_108 : decode prog_10_method_1_code 108 = .ok (.return_, 1) := by decide +kernel
theorem d8_launch_0 : decode prog_10_method_4_code 0 = .ok (.aload_n 0, 1) := by decide +kernel
theorem d8_launch_1 : decode prog_10_method_4_code 1 = .ok (.getfield 41, 3) := by decide +kernel
theorem d8_launch_4 : decode prog_10_method_4_code 4 = .ok (.bipush 6, 2) := by decide +kernel
theorem d8_launch_6 : decode prog_10_method_4_code 6 = .ok (.if_icmp .lt 5, 3) := by decide +kernel
theorem d8_launch_9 : decode prog_10_method_4_code 9 = .ok (.iconst (-1), 1) := by decide +kernel
theorem d8_launch_10 : decode prog_10_method_4_code 10 = .ok (.ireturn, 1) := by decide +kernel
theorem d8_launch_11 : decode prog_10_method_4_code 11 = .ok (.aload_n 0, 1) := by decide +kernel
theorem d8_launch_12 : decode prog_10_method_4_code 12 = .ok (.getfield 23, 3) := by decide +kernel
theorem d8_launch_15 : decode prog_10_method_4_code 15 = .ok (.aload_n 0, 1) := by decide +kernel
theorem d8_launch_16 : decode prog_10_method_4_code 16 = .ok (.getfield 41, 3) := by decide +kernel
theorem d8_launch_19 : decode prog_10_method_4_code 19 = .ok (.aaload, 1) := by decide +kernel
theorem d8_launch_20 : decode prog_10_method_4_code 20 = .ok (.astore 4, 2) := by decide +kernel
theorem d8_launch_22 : decode prog_10_method_4_code 22 = .ok (.aload 4, 2) := by decide +kernel
theorem d8_launch_24 : decode prog_10_method_4_code 24 = .ok (.iload_n 1, 1) := by decide +kernel
theorem d8_launch_25 : decode prog_10_method_4_code 25 = .ok (.putfield 49, 3) := by decide +kernel
theorem d8_launch_28 : decode prog_10_method_4_code 28 = .ok (.aload 4, 2) := by decide +kernel
theorem d8_launch_30 : decode prog_10_method_4_code 30 = .ok (.iload_n 2, 1) := by decide +kernel
theorem d8_launch_31 : decode prog_10_method_4_code 31 = .ok (.putfield 52, 3) := by decide +kernel
theorem d8_launch_34 : decode prog_10_method_4_code 34 = .ok (.aload 4, 2) := by decide +kernel
theorem d8_launch_36 : decode prog_10_method_4_code 36 = .ok (.iload_n 3, 1) := by decide +kernel
theorem d8_launch_37 : decode prog_10_method_4_code 37 = .ok (.putfield 55, 3) := by decide +kernel
theorem d8_launch_40 : decode prog_10_method_4_code 40 = .ok (.aload_n 0, 1) := by decide +kernel
theorem d8_launch_41 : decode prog_10_method_4_code 41 = .ok (.dup, 1) := by decide +kernel
theorem d8_launch_42 : decode prog_10_method_4_code 42 = .ok (.getfield 41, 3) := by decide +kernel
theorem d8_launch_45 : decode prog_10_method_4_code 45 = .ok (.iconst 1, 1) := by decide +kernel
theorem d8_launch_46 : decode prog_10_method_4_code 46 = .ok (.iadd, 1) := by decide +kernel
theorem d8_launch_47 : decode prog_10_method_4_code 47 = .ok (.putfield 41, 3) := by decide +kernel
theorem d8_launch_50 : decode prog_10_method_4_code 50 = .ok (.aload_n 0, 1) := by decide +kernel
theorem d8_launch_51 : decode prog_10_method_4_code 51 = .ok (.getfield 41, 3) := by decide +kernel
theorem d8_launch_54 : decode prog_10_method_4_code 54 = .ok (.iconst 1, 1) := by decide +kernel
theorem d8_launch_55 : decode prog_10_method_4_code 55 = .ok (.isub, 1) := by decide +kernel
theorem d8_launch_56 : decode prog_10_method_4_code 56 = .ok (.ireturn, 1) := by decide +kernel
theorem d8_powerWithout_0 : decode prog_10_method_12_code 0 = .ok (.aload_n 0, 1) := by decide +kernel
theorem d8_powerWithout_1 : decode prog_10_method_12_code 1 = .ok (.getfield 27, 3) := by decide +kernel
theorem d8_powerWithout_4 : decode prog_10_method_12_code 4 = .ok (.iconst 0, 1) := by decide +kernel
theorem d8_powerWithout_5 : decode prog_10_method_12_code 5 = .ok (.aload_n 0, 1) := by decide +kernel
theorem d8_powerWithout_6 : decode prog_10_method_12_code 6 = .ok (.getfield 30, 3) := by decide +kernel
theorem d8_powerWithout_9 : decode prog_10_method_12_code 9 = .ok (.iconst 0, 1) := by decide +kernel
theorem d8_powerWithout_10 : decode prog_10_method_12_code 10 = .ok (.bipush 6, 2) := by decide +kernel
theorem d8_powerWithout_12 : decode prog_10_method_12_code 12 = .ok (.invokestatic 96, 3) := by decide +kernel
theorem d8_powerWithout_15 : decode prog_10_method_12_code 15 = .ok (.aload_n 0, 1) := by decide +kernel
theorem d8_powerWithout_16 : decode prog_10_method_12_code 16 = .ok (.getfield 30, 3) := by decide +kernel
theorem d8_powerWithout_19 : decode prog_10_method_12_code 19 = .ok (.iload_n 2, 1) := by decide +kernel
theorem d8_powerWithout_20 : decode prog_10_method_12_code 20 = .ok (.iconst (-1), 1) := by decide +kernel
theorem d8_powerWithout_21 : decode prog_10_method_12_code 21 = .ok (.iastore, 1) := by decide +kernel
theorem d8_powerWithout_22 : decode prog_10_method_12_code 22 = .ok (.aload_n 0, 1) := by decide +kernel
theorem d8_powerWithout_23 : decode prog_10_method_12_code 23 = .ok (.iload_n 1, 1) := by decide +kernel
theorem d8_powerWithout_24 : decode prog_10_method_12_code 24 = .ok (.aload_n 0, 1) := by decide +kernel
theorem d8_powerWithout_25 : decode prog_10_method_12_code 25 = .ok (.getfield 30, 3) := by decide +kernel
theorem d8_powerWithout_28 : decode prog_10_method_12_code 28 = .ok (.iload_n 3, 1) := by decide +kernel
theorem d8_powerWithout_29 : decode prog_10_method_12_code 29 = .ok (.invokevirtual 102, 3) := by decide +kernel
theorem d8_powerWithout_32 : decode prog_10_method_12_code 32 = .ok (.ireturn, 1) := by decide +kernel
theorem dJ6_bitCount_0f7a4_0 : decode prog_19_method_49_code 0 = .ok (.iload_n 0, 1) := by decide +kernel
theorem dJ6_bitCount_0f7a4_1 : decode prog_19_method_49_code 1 = .ok (.iload_n 0, 1) := by decide +kernel
theorem dJ6_bitCount_0f7a4_2 : decode prog_19_method_49_code 2 = .ok (.iconst 1, 1) := by decide +kernel
theorem dJ6_bitCount_0f7a4_3 : decode prog_19_method_49_code 3 = .ok (.iushr, 1) := by decide +kernel
theorem dJ6_bitCount_0f7a4_4 : decode prog_19_method_49_code 4 = .ok (.ldc_w 265, 3) := by decide +kernel
theorem dJ6_bitCount_0f7a4_7 : decode prog_19_method_49_code 7 = .ok (.iand, 1) := by decide +kernel
theorem dJ6_bitCount_0f7a4_8 : decode prog_19_method_49_code 8 = .ok (.isub, 1) := by decide +kernel
theorem dJ6_bitCount_0f7a4_9 : decode prog_19_method_49_code 9 = .ok (.istore_n 0, 1) := by decide +kernel
theorem dJ6_bitCount_0f7a4_10 : decode prog_19_method_49_code 10 = .ok (.iload_n 0, 1) := by decide +kernel
theorem dJ6_bitCount_0f7a4_11 : decode prog_19_method_49_code 11 = .ok (.ldc_w 266, 3) := by decide +kernel
theorem dJ6_bitCount_0f7a4_14 : decode prog_19_method_49_code 14 = .ok (.iand, 1) := by decide +kernel
theorem dJ6_bitCount_0f7a4_15 : decode prog_19_method_49_code 15 = .ok (.iload_n 0, 1) := by decide +kernel
theorem dJ6_bitCount_0f7a4_16 : decode prog_19_method_49_code 16 = .ok (.iconst 2, 1) := by decide +kernel
theorem dJ6_bitCount_0f7a4_17 : decode prog_19_method_49_code 17 = .ok (.iushr, 1) := by decide +kernel
theorem dJ6_bitCount_0f7a4_18 : decode prog_19_method_49_code 18 = .ok (.ldc_w 266, 3) := by decide +kernel
theorem dJ6_bitCount_0f7a4_21 : decode prog_19_method_49_code 21 = .ok (.iand, 1) := by decide +kernel
theorem dJ6_bitCount_0f7a4_22 : decode prog_19_method_49_code 22 = .ok (.iadd, 1) := by decide +kernel
theorem dJ6_bitCount_0f7a4_23 : decode prog_19_method_49_code 23 = .ok (.istore_n 0, 1) := by decide +kernel
theorem dJ6_bitCount_0f7a4_24 : decode prog_19_method_49_code 24 = .ok (.iload_n 0, 1) := by decide +kernel
theorem dJ6_bitCount_0f7a4_25 : decode prog_19_method_49_code 25 = .ok (.iload_n 0, 1) := by decide +kernel
theorem dJ6_bitCount_0f7a4_26 : decode prog_19_method_49_code 26 = .ok (.iconst 4, 1) := by decide +kernel
theorem dJ6_bitCount_0f7a4_27 : decode prog_19_method_49_code 27 = .ok (.iushr, 1) := by decide +kernel
theorem dJ6_bitCount_0f7a4_28 : decode prog_19_method_49_code 28 = .ok (.iadd, 1) := by decide +kernel
theorem dJ6_bitCount_0f7a4_29 : decode prog_19_method_49_code 29 = .ok (.ldc_w 267, 3) := by decide +kernel
theorem dJ6_bitCount_0f7a4_32 : decode prog_19_method_49_code 32 = .ok (.iand, 1) := by decide +kernel
theorem dJ6_bitCount_0f7a4_33 : decode prog_19_method_49_code 33 = .ok (.istore_n 0, 1) := by decide +kernel
theorem dJ6_bitCount_0f7a4_34 : decode prog_19_method_49_code 34 = .ok (.iload_n 0, 1) := by decide +kernel
theorem dJ6_bitCount_0f7a4_35 : decode prog_19_method_49_code 35 = .ok (.iload_n 0, 1) := by decide +kernel
theorem dJ6_bitCount_0f7a4_36 : decode prog_19_method_49_code 36 = .ok (.bipush 8, 2) := by decide +kernel
theorem dJ6_bitCount_0f7a4_38 : decode prog_19_method_49_code 38 = .ok (.iushr, 1) := by decide +kernel
theorem dJ6_bitCount_0f7a4_39 : decode prog_19_method_49_code 39 = .ok (.iadd, 1) := by decide +kernel
theorem dJ6_bitCount_0f7a4_40 : decode prog_19_method_49_code 40 = .ok (.istore_n 0, 1) := by decide +kernel
theorem dJ6_bitCount_0f7a4_41 : decode prog_19_method_49_code 41 = .ok (.iload_n 0, 1) := by decide +kernel
theorem dJ6_bitCount_0f7a4_42 : decode prog_19_method_49_code 42 = .ok (.iload_n 0, 1) := by decide +kernel
theorem dJ6_bitCount_0f7a4_43 : decode prog_19_method_49_code 43 = .ok (.bipush 16, 2) := by decide +kernel
theorem dJ6_bitCount_0f7a4_45 : decode prog_19_method_49_code 45 = .ok (.iushr, 1) := by decide +kernel
theorem dJ6_bitCount_0f7a4_46 : decode prog_19_method_49_code 46 = .ok (.iadd, 1) := by decide +kernel
theorem dJ6_bitCount_0f7a4_47 : decode prog_19_method_49_code 47 = .ok (.istore_n 0, 1) := by decide +kernel
theorem dJ6_bitCount_0f7a4_48 : decode prog_19_method_49_code 48 = .ok (.iload_n 0, 1) := by decide +kernel
theorem dJ6_bitCount_0f7a4_49 : decode prog_19_method_49_code 49 = .ok (.bipush 63, 2) := by decide +kernel
theorem dJ6_bitCount_0f7a4_51 : decode prog_19_method_49_code 51 = .ok (.iand, 1) := by decide +kernel
theorem dJ6_bitCount_0f7a4_52 : decode prog_19_method_49_code 52 = .ok (.ireturn, 1) := by decide +kernel
theorem d8_canPlan_0 : decode prog_10_method_15_code 0 = .ok (.iload_n 1, 1) := by decide +kernel
theorem d8_canPlan_1 : decode prog_10_method_15_code 1 = .ok (.invokestatic 109, 3) := by decide +kernel
theorem d8_canPlan_4 : decode prog_10_method_15_code 4 = .ok (.istore_n 2, 1) := by decide +kernel
theorem d8_canPlan_5 : decode prog_10_method_15_code 5 = .ok (.iload_n 1, 1) := by decide +kernel
theorem d8_canPlan_6 : decode prog_10_method_15_code 6 = .ok (.ifCond .lt 23, 3) := by decide +kernel
theorem d8_canPlan_9 : decode prog_10_method_15_code 9 = .ok (.iload_n 1, 1) := by decide +kernel
theorem d8_canPlan_10 : decode prog_10_method_15_code 10 = .ok (.iconst 1, 1) := by decide +kernel
theorem d8_canPlan_11 : decode prog_10_method_15_code 11 = .ok (.aload_n 0, 1) := by decide +kernel
theorem d8_canPlan_12 : decode prog_10_method_15_code 12 = .ok (.getfield 41, 3) := by decide +kernel
theorem d8_canPlan_15 : decode prog_10_method_15_code 15 = .ok (.ishl, 1) := by decide +kernel
theorem d8_canPlan_16 : decode prog_10_method_15_code 16 = .ok (.if_icmp .ge 13, 3) := by decide +kernel
theorem d8_canPlan_19 : decode prog_10_method_15_code 19 = .ok (.iload_n 2, 1) := by decide +kernel
theorem d8_canPlan_20 : decode prog_10_method_15_code 20 = .ok (.iconst 1, 1) := by decide +kernel
theorem d8_canPlan_21 : decode prog_10_method_15_code 21 = .ok (.if_icmp .lt 8, 3) := by decide +kernel
theorem d8_canPlan_24 : decode prog_10_method_15_code 24 = .ok (.iload_n 2, 1) := by decide +kernel
theorem d8_canPlan_25 : decode prog_10_method_15_code 25 = .ok (.iconst 3, 1) := by decide +kernel
theorem d8_canPlan_26 : decode prog_10_method_15_code 26 = .ok (.if_icmp .le 5, 3) := by decide +kernel
theorem d8_canPlan_29 : decode prog_10_method_15_code 29 = .ok (.iconst 0, 1) := by decide +kernel
theorem d8_canPlan_30 : decode prog_10_method_15_code 30 = .ok (.ireturn, 1) := by decide +kernel
theorem d8_canPlan_31 : decode prog_10_method_15_code 31 = .ok (.iconst 0, 1) := by decide +kernel
theorem d8_canPlan_32 : decode prog_10_method_15_code 32 = .ok (.istore_n 3, 1) := by decide +kernel
theorem d8_canPlan_33 : decode prog_10_method_15_code 33 = .ok (.iload_n 3, 1) := by decide +kernel
theorem d8_canPlan_34 : decode prog_10_method_15_code 34 = .ok (.aload_n 0, 1) := by decide +kernel
theorem d8_canPlan_35 : decode prog_10_method_15_code 35 = .ok (.getfield 41, 3) := by decide +kernel
theorem d8_canPlan_38 : decode prog_10_method_15_code 38 = .ok (.if_icmp .ge 31, 3) := by decide +kernel
theorem d8_canPlan_41 : decode prog_10_method_15_code 41 = .ok (.iload_n 1, 1) := by decide +kernel
theorem d8_canPlan_42 : decode prog_10_method_15_code 42 = .ok (.iload_n 3, 1) := by decide +kernel
theorem d8_canPlan_43 : decode prog_10_method_15_code 43 = .ok (.ishr, 1) := by decide +kernel
theorem d8_canPlan_44 : decode prog_10_method_15_code 44 = .ok (.iconst 1, 1) := by decide +kernel
theorem d8_canPlan_45 : decode prog_10_method_15_code 45 = .ok (.iand, 1) := by decide +kernel
theorem d8_canPlan_46 : decode prog_10_method_15_code 46 = .ok (.iconst 1, 1) := by decide +kernel
theorem d8_canPlan_47 : decode prog_10_method_15_code 47 = .ok (.if_icmp .ne 16, 3) := by decide +kernel
theorem d8_canPlan_50 : decode prog_10_method_15_code 50 = .ok (.aload_n 0, 1) := by decide +kernel
theorem d8_canPlan_51 : decode prog_10_method_15_code 51 = .ok (.getfield 27, 3) := by decide +kernel
theorem d8_canPlan_54 : decode prog_10_method_15_code 54 = .ok (.iload_n 3, 1) := by decide +kernel
theorem d8_canPlan_55 : decode prog_10_method_15_code 55 = .ok (.iaload, 1) := by decide +kernel
theorem d8_canPlan_56 : decode prog_10_method_15_code 56 = .ok (.bipush (-2), 2) := by decide +kernel
theorem d8_canPlan_58 : decode prog_10_method_15_code 58 = .ok (.if_icmp .ne 5, 3) := by decide +kernel
theorem d8_canPlan_61 : decode prog_10_method_15_code 61 = .ok (.iconst 0, 1) := by decide +kernel
theorem d8_canPlan_62 : decode prog_10_method_15_code 62 = .ok (.ireturn, 1) := by decide +kernel
theorem d8_canPlan_63 : decode prog_10_method_15_code 63 = .ok (.iinc 3 1, 3) := by decide +kernel
theorem d8_canPlan_66 : decode prog_10_method_15_code 66 = .ok (.goto (-33), 3) := by decide +kernel
theorem d8_canPlan_69 : decode prog_10_method_15_code 69 = .ok (.iconst 1, 1) := by decide +kernel
theorem d8_canPlan_70 : decode prog_10_method_15_code 70 = .ok (.ireturn, 1) := by decide +kernel
theorem d8_sacksGround_0 : decode prog_10_method_16_code 0 = .ok (.iconst 0, 1) := by decide +kernel
theorem d8_sacksGround_1 : decode prog_10_method_16_code 1 = .ok (.istore_n 1, 1) := by decide +kernel
theorem d8_sacksGround_2 : decode prog_10_method_16_code 2 = .ok (.iconst 0, 1) := by decide +kernel
theorem d8_sacksGround_3 : decode prog_10_method_16_code 3 = .ok (.istore_n 2, 1) := by decide +kernel
theorem d8_sacksGround_4 : decode prog_10_method_16_code 4 = .ok (.iload_n 2, 1) := by decide +kernel
theorem d8_sacksGround_5 : decode prog_10_method_16_code 5 = .ok (.aload_n 0, 1) := by decide +kernel
theorem d8_sacksGround_6 : decode prog_10_method_16_code 6 = .ok (.getfield 41, 3) := by decide +kernel
theorem d8_sacksGround_9 : decode prog_10_method_16_code 9 = .ok (.if_icmp .ge 21, 3) := by decide +kernel
theorem d8_sacksGround_12 : decode prog_10_method_16_code 12 = .ok (.iload_n 1, 1) := by decide +kernel
theorem d8_sacksGround_13 : decode prog_10_method_16_code 13 = .ok (.aload_n 0, 1) := by decide +kernel
theorem d8_sacksGround_14 : decode prog_10_method_16_code 14 = .ok (.getfield 23, 3) := by decide +kernel
theorem d8_sacksGround_17 : decode prog_10_method_16_code 17 = .ok (.iload_n 2, 1) := by decide +kernel
theorem d8_sacksGround_18 : decode prog_10_method_16_code 18 = .ok (.aaload, 1) := by decide +kernel
theorem d8_sacksGround_19 : decode prog_10_method_16_code 19 = .ok (.getfield 114, 3) := by decide +kernel
theorem d8_sacksGround_22 : decode prog_10_method_16_code 22 = .ok (.iadd, 1) := by decide +kernel
theorem d8_sacksGround_23 : decode prog_10_method_16_code 23 = .ok (.istore_n 1, 1) := by decide +kernel
theorem d8_sacksGround_24 : decode prog_10_method_16_code 24 = .ok (.iinc 2 1, 3) := by decide +kernel
theorem d8_sacksGround_27 : decode prog_10_method_16_code 27 = .ok (.goto (-23), 3) := by decide +kernel
theorem d8_sacksGround_30 : decode prog_10_method_16_code 30 = .ok (.iload_n 1, 1) := by decide +kernel
theorem d8_sacksGround_31 : decode prog_10_method_16_code 31 = .ok (.ireturn, 1) := by decide +kernel
theorem d8_tollsTaken_0 : decode prog_10_method_17_code 0 = .ok (.iconst 0, 1) := by decide +kernel
theorem d8_tollsTaken_1 : decode prog_10_method_17_code 1 = .ok (.istore_n 1, 1) := by decide +kernel
theorem d8_tollsTaken_2 : decode prog_10_method_17_code 2 = .ok (.iconst 0, 1) := by decide +kernel
theorem d8_tollsTaken_3 : decode prog_10_method_17_code 3 = .ok (.istore_n 2, 1) := by decide +kernel
theorem d8_tollsTaken_4 : decode prog_10_method_17_code 4 = .ok (.iload_n 2, 1) := by decide +kernel
theorem d8_tollsTaken_5 : decode prog_10_method_17_code 5 = .ok (.aload_n 0, 1) := by decide +kernel
theorem d8_tollsTaken_6 : decode prog_10_method_17_code 6 = .ok (.getfield 41, 3) := by decide +kernel
theorem d8_tollsTaken_9 : decode prog_10_method_17_code 9 = .ok (.if_icmp .ge 21, 3) := by decide +kernel
theorem d8_tollsTaken_12 : decode prog_10_method_17_code 12 = .ok (.iload_n 1, 1) := by decide +kernel
theorem d8_tollsTaken_13 : decode prog_10_method_17_code 13 = .ok (.aload_n 0, 1) := by decide +kernel
theorem d8_tollsTaken_14 : decode prog_10_method_17_code 14 = .ok (.getfield 23, 3) := by decide +kernel
theorem d8_tollsTaken_17 : decode prog_10_method_17_code 17 = .ok (.iload_n 2, 1) := by decide +kernel
theorem d8_tollsTaken_18 : decode prog_10_method_17_code 18 = .ok (.aaload, 1) := by decide +kernel
theorem d8_tollsTaken_19 : decode prog_10_method_17_code 19 = .ok (.getfield 117, 3) := by decide +kernel
theorem d8_tollsTaken_22 : decode prog_10_method_17_code 22 = .ok (.iadd, 1) := by decide +kernel
theorem d8_tollsTaken_23 : decode prog_10_method_17_code 23 = .ok (.istore_n 1, 1) := by decide +kernel
theorem d8_tollsTaken_24 : decode prog_10_method_17_code 24 = .ok (.iinc 2 1, 3) := by decide +kernel
theorem d8_tollsTaken_27 : decode prog_10_method_17_code 27 = .ok (.goto (-23), 3) := by decide +kernel
theorem d8_tollsTaken_30 : decode prog_10_method_17_code 30 = .ok (.iload_n 1, 1) := by decide +kernel
theorem d8_tollsTaken_31 : decode prog_10_method_17_code 31 = .ok (.ireturn, 1) := by decide +kernel
theorem d8_lyingAtBerths_0 : decode prog_10_method_18_code 0 = .ok (.iconst 0, 1) := by decide +kernel
theorem d8_lyingAtBerths_1 : decode prog_10_method_18_code 1 = .ok (.istore_n 1, 1) := by decide +kernel
theorem d8_lyingAtBerths_2 : decode prog_10_method_18_code 2 = .ok (.iconst 0, 1) := by decide +kernel
theorem d8_lyingAtBerths_3 : decode prog_10_method_18_code 3 = .ok (.istore_n 2, 1) := by decide +kernel
theorem d8_lyingAtBerths_4 : decode prog_10_method_18_code 4 = .ok (.iload_n 2, 1) := by decide +kernel
theorem d8_lyingAtBerths_5 : decode prog_10_method_18_code 5 = .ok (.aload_n 0, 1) := by decide +kernel
theorem d8_lyingAtBerths_6 : decode prog_10_method_18_code 6 = .ok (.getfield 41, 3) := by decide +kernel
theorem d8_lyingAtBerths_9 : decode prog_10_method_18_code 9 = .ok (.if_icmp .ge 26, 3) := by decide +kernel
theorem d8_lyingAtBerths_12 : decode prog_10_method_18_code 12 = .ok (.iload_n 1, 1) := by decide +kernel
theorem d8_lyingAtBerths_13 : decode prog_10_method_18_code 13 = .ok (.aload_n 0, 1) := by decide +kernel
theorem d8_lyingAtBerths_14 : decode prog_10_method_18_code 14 = .ok (.getfield 27, 3) := by decide +kernel
theorem d8_lyingAtBerths_17 : decode prog_10_method_18_code 17 = .ok (.iload_n 2, 1) := by decide +kernel
theorem d8_lyingAtBerths_18 : decode prog_10_method_18_code 18 = .ok (.iaload, 1) := by decide +kernel
theorem d8_lyingAtBerths_19 : decode prog_10_method_18_code 19 = .ok (.ifCond .lt 7, 3) := by decide +kernel
theorem d8_lyingAtBerths_22 : decode prog_10_method_18_code 22 = .ok (.iconst 1, 1) := by decide +kernel
theorem d8_lyingAtBerths_23 : decode prog_10_method_18_code 23 = .ok (.goto 4, 3) := by decide +kernel
theorem d8_lyingAtBerths_26 : decode prog_10_method_18_code 26 = .ok (.iconst 0, 1) := by decide +kernel
theorem d8_lyingAtBerths_27 : decode prog_10_method_18_code 27 = .ok (.iadd, 1) := by decide +kernel
theorem d8_lyingAtBerths_28 : decode prog_10_method_18_code 28 = .ok (.istore_n 1, 1) := by decide +kernel
theorem d8_lyingAtBerths_29 : decode prog_10_method_18_code 29 = .ok (.iinc 2 1, 3) := by decide +kernel
theorem d8_lyingAtBerths_32 : decode prog_10_method_18_code 32 = .ok (.goto (-28), 3) := by decide +kernel
theorem d8_lyingAtBerths_35 : decode prog_10_method_18_code 35 = .ok (.iload_n 1, 1) := by decide +kernel
theorem d8_lyingAtBerths_36 : decode prog_10_method_18_code 36 = .ok (.ireturn, 1) := by decide +kernel
theorem d8_goneBoats_0 : decode prog_10_method_19_code 0 = .ok (.iconst 0, 1) := by decide +kernel
theorem d8_goneBoats_1 : decode prog_10_method_19_code 1 = .ok (.istore_n 1, 1) := by decide +kernel
theorem d8_goneBoats_2 : decode prog_10_method_19_code 2 = .ok (.iconst 0, 1) := by decide +kernel
theorem d8_goneBoats_3 : decode prog_10_method_19_code 3 = .ok (.istore_n 2, 1) := by decide +kernel
theorem d8_goneBoats_4 : decode prog_10_method_19_code 4 = .ok (.iload_n 2, 1) := by decide +kernel
theorem d8_goneBoats_5 : decode prog_10_method_19_code 5 = .ok (.aload_n 0, 1) := by decide +kernel
theorem d8_goneBoats_6 : decode prog_10_method_19_code 6 = .ok (.getfield 41, 3) := by decide +kernel
theorem d8_goneBoats_9 : decode prog_10_method_19_code 9 = .ok (.if_icmp .ge 28, 3) := by decide +kernel
theorem d8_goneBoats_12 : decode prog_10_method_19_code 12 = .ok (.iload_n 1, 1) := by decide +kernel
theorem d8_goneBoats_13 : decode prog_10_method_19_code 13 = .ok (.aload_n 0, 1) := by decide +kernel
theorem d8_goneBoats_14 : decode prog_10_method_19_code 14 = .ok (.getfield 27, 3) := by decide +kernel
theorem d8_goneBoats_17 : decode prog_10_method_19_code 17 = .ok (.iload_n 2, 1) := by decide +kernel
theorem d8_goneBoats_18 : decode prog_10_method_19_code 18 = .ok (.iaload, 1) := by decide +kernel
theorem d8_goneBoats_19 : decode prog_10_method_19_code 19 = .ok (.bipush (-2), 2) := by decide +kernel
theorem d8_goneBoats_21 : decode prog_10_method_19_code 21 = .ok (.if_icmp .ne 7, 3) := by decide +kernel
theorem d8_goneBoats_24 : decode prog_10_method_19_code 24 = .ok (.iconst 1, 1) := by decide +kernel
theorem d8_goneBoats_25 : decode prog_10_method_19_code 25 = .ok (.goto 4, 3) := by decide +kernel
theorem d8_goneBoats_28 : decode prog_10_method_19_code 28 = .ok (.iconst 0, 1) := by decide +kernel
theorem d8_goneBoats_29 : decode prog_10_method_19_code 29 = .ok (.iadd, 1) := by decide +kernel
theorem d8_goneBoats_30 : decode prog_10_method_19_code 30 = .ok (.istore_n 1, 1) := by decide +kernel
theorem d8_goneBoats_31 : decode prog_10_method_19_code 31 = .ok (.iinc 2 1, 3) := by decide +kernel
theorem d8_goneBoats_34 : decode prog_10_method_19_code 34 = .ok (.goto (-30), 3) := by decide +kernel
theorem d8_goneBoats_37 : decode prog_10_method_19_code 37 = .ok (.iload_n 1, 1) := by decide +kernel
theorem d8_goneBoats_38 : decode prog_10_method_19_code 38 = .ok (.ireturn, 1) := by decide +kernel
abbrev m7_splitNumber : MD := ("MillBoats$Reader", ⟨"MillBoats$Reader", "splitNumber", "([III)I"⟩, prog_9_method_7_code, 7, (some Jvm.ClassFile.FieldType.int))
theorem k7_splitNumber : okY m7_splitNumber.2.1 3 := ⟨by decide +kernel, by decide +kernel, by decide +kernel⟩
def f7_splitNumber_p61 (σ : St) (v2 : Int32) (v4 : Int64) (v6 : Int32) (x0 : Int32) (x1 : Nat) : Option (Int32 × St) :=
  gd (ob σ x1 7) (
  bd (f7_addToken σ x1 x0 v2 v4) fun r15 t16 => (
  some (v6, t16)))
set_option maxRecDepth 20000 in
theorem s7_splitNumber_p61 : ∀ (σ : St) (v2 : Int32) (v4 : Int64) (v6 : Int32) (x0 : Int32) (x1 : Nat) (r : Int32) (τ : St), f7_splitNumber_p61 σ v2 v4 v6 x0 x1 = some (r, τ) → Ev 3 m7_splitNumber 61 [(2, .int v2), (4, .long v4), (6, .int v6)] [.int x0, .ref x1] σ (some (.int r)) τ := by
  intro σ v2 v4 v6 x0 x1 r τ hf
  unfold f7_splitNumber_p61 at hf
  refine ev_iload_n (j := 2) (i := 2) (q := 0) rfl rfl d7_splitNumber_61 ?_
  refine ev_lload (i := 4) (q := 1) rfl d7_splitNumber_62 ?_
  obtain ⟨h14, hf⟩ := gd_some hf
  obtain ⟨r15, t16, k17, hf⟩ := bd_some hf
  have q18 := s7_addToken _ _ _ _ _ _ _ k17
  refine ev_callV (vs := [.int x0, .int v2, .long v4]) (sk := []) cls7 h14 q18 (by decide) (Nat.le_of_ble_eq_true rfl) w736 w738 ws4 w9 w739 k7_addToken rfl (Nat.le_of_ble_eq_true rfl) d7_splitNumber_64 ?_
  refine ev_iload (i := 6) (q := 2) rfl d7_splitNumber_67 ?_
  obtain ⟨rfl, rfl⟩ := ret_some hf
  exact ev_iret rfl d7_splitNumber_69
def f7_splitNumber_p45 (σ : St) (v0 : Nat) (v2 : Int32) (v4 : Int64) (v6 : Int32) : Option (Int32 × St) :=
  (if (v6 - v2) ≤ (4 : Int32) then
  f7_splitNumber_p61 σ v2 v4 v6 (-3 : Int32) v0
  else
  f7_splitNumber_p61 σ v2 v4 v6 (-2 : Int32) v0)
set_option maxRecDepth 20000 in
theorem s7_splitNumber_p45 : ∀ (σ : St) (v0 : Nat) (v2 : Int32) (v4 : Int64) (v6 : Int32) (r : Int32) (τ : St), f7_splitNumber_p45 σ v0 v2 v4 v6 = some (r, τ) → Ev 3 m7_splitNumber 45 [(0, .ref v0), (2, .int v2), (4, .long v4), (6, .int v6)] [] σ (some (.int r)) τ := by
  intro σ v0 v2 v4 v6 r τ hf
  unfold f7_splitNumber_p45 at hf
  refine ev_aload_n (j := 0) (i := 0) (q := 0) rfl rfl d7_splitNumber_45 ?_
  refine ev_iload (i := 6) (q := 3) rfl d7_splitNumber_46 ?_
  refine ev_iload_n (j := 2) (i := 2) (q := 1) rfl rfl d7_splitNumber_48 ?_
  refine ev_isub d7_splitNumber_49 ?_
  refine ev_iconst ci_4 d7_splitNumber_50 ?_
  rcases ite_some hf with ⟨c13, hf⟩ | ⟨c13, hf⟩
  · refine ev_icmp_le_P (tgt := 59) c13 (by decide) d7_splitNumber_51 ?_
    refine ev_bipush cb_m3 d7_splitNumber_59 ?_
    exact Ev.sub [1, 2, 3] rfl (s7_splitNumber_p61 _ _ _ _ _ _ _ _ hf)
  · refine ev_icmp_le_Q (tgt := 59) c13 (by decide) d7_splitNumber_51 ?_
    refine ev_bipush cb_m2 d7_splitNumber_54 ?_
    refine ev_goto (tgt := 61) (by decide) d7_splitNumber_56 ?_
    exact Ev.sub [1, 2, 3] rfl (s7_splitNumber_p61 _ _ _ _ _ _ _ _ hf)
def f7_splitNumber_p6 : Nat → St → Nat → Nat → Int32 → Int32 → Int64 → Int32 → Option (Int32 × St)
  | 0, _, _, _, _, _, _, _ => none
  | n + 1, σ, v0, v1, v2, v3, v4, v6 =>
  (if v6 < v3 then
  gd (ob σ v1 14) (
  gd (inb σ v1 v6) (
  bd (f7_isFigure σ (sI σ v1 (ix v6))) fun r4 t5 => (
  (if r4 = (0 : Int32) then
  f7_splitNumber_p45 t5 v0 v2 v4 v6
  else
  lt ((v4 * (10 : Int64)) + (((sI t5 v1 (ix v6)) - (48 : Int32)).toInt64)) fun y9 => (
  lt (v6 + (1 : Int32)) fun y11 => (
  (f7_splitNumber_p6 n) t5 v0 v1 v2 v3 y9 y11))))))
  else
  f7_splitNumber_p45 σ v0 v2 v4 v6)
set_option maxRecDepth 20000 in
theorem s7_splitNumber_p6 : ∀ (n : Nat) (σ : St) (v0 : Nat) (v1 : Nat) (v2 : Int32) (v3 : Int32) (v4 : Int64) (v6 : Int32) (r : Int32) (τ : St), f7_splitNumber_p6 n σ v0 v1 v2 v3 v4 v6 = some (r, τ) → Ev 3 m7_splitNumber 6 [(0, .ref v0), (1, .ref v1), (2, .int v2), (3, .int v3), (4, .long v4), (6, .int v6)] [] σ (some (.int r)) τ := by
  intro n
  induction n with
  | zero =>
    intro σ v0 v1 v2 v3 v4 v6 r τ hf
    cases hf
  | succ n ih =>
    intro σ v0 v1 v2 v3 v4 v6 r τ hf
    rw [f7_splitNumber_p6] at hf
    refine ev_iload (i := 6) (q := 5) rfl d7_splitNumber_6 ?_
    refine ev_iload_n (j := 3) (i := 3) (q := 3) rfl rfl d7_splitNumber_8 ?_
    rcases ite_some hf with ⟨c1, hf⟩ | ⟨c1, hf⟩
    · refine ev_icmp_ge_P (tgt := 45) c1 (by decide) d7_splitNumber_9 ?_
      refine ev_aload_n (j := 1) (i := 1) (q := 1) rfl rfl d7_splitNumber_12 ?_
      refine ev_iload (i := 6) (q := 5) rfl d7_splitNumber_13 ?_
      obtain ⟨h2, hf⟩ := gd_some hf
      obtain ⟨h3, hf⟩ := gd_some hf
      refine ev_iald h2 h3 d7_splitNumber_15 ?_
      obtain ⟨r4, t5, k6, hf⟩ := bd_some hf
      have q7 := s7_isFigure _ _ _ _ k6
      refine ev_callS (vs := [.int (sI σ v1 (ix v6))]) (sk := []) q7 (by decide) (Nat.le_of_ble_eq_true rfl) w740 w741 w9 w742 k7_isFigure rfl (Nat.le_of_ble_eq_true rfl) d7_splitNumber_16 ?_
      rcases ite_some hf with ⟨c8, hf⟩ | ⟨c8, hf⟩
      · refine ev_if_eq_P (tgt := 45) c8 (by decide) d7_splitNumber_19 ?_
        exact Ev.sub [0, 2, 4, 5] rfl (s7_splitNumber_p45 _ _ _ _ _ _ _ hf)
      · refine ev_if_eq_Q (tgt := 45) c8 (by decide) d7_splitNumber_19 ?_
        refine ev_lload (i := 4) (q := 4) rfl d7_splitNumber_22 ?_
        refine ev_ldc2 w747 d7_splitNumber_24 ?_
        refine ev_lmul d7_splitNumber_27 ?_
        refine ev_aload_n (j := 1) (i := 1) (q := 1) rfl rfl d7_splitNumber_28 ?_
        refine ev_iload (i := 6) (q := 5) rfl d7_splitNumber_29 ?_
        refine ev_iald (mono_ob q7.1 h2) (inb_m q7.1 h2 h3) d7_splitNumber_31 ?_
        refine ev_bipush cb_48 d7_splitNumber_32 ?_
        refine ev_isub d7_splitNumber_34 ?_
        refine ev_i2l d7_splitNumber_35 ?_
        refine ev_ladd d7_splitNumber_36 ?_
        obtain ⟨y9, e10, hf⟩ := lt_some hf
        refine ev_nmL e10 ?_
        refine ev_lstore (lv2 := [(4, .long y9), (0, .ref v0), (1, .ref v1), (2, .int v2), (3, .int v3), (6, .int v6)]) (i := 4) (by decide) rfl d7_splitNumber_37 ?_
        obtain ⟨y11, e12, hf⟩ := lt_some hf
        refine ev_iinc (lv2 := [(6, .int y11), (4, .long y9), (0, .ref v0), (1, .ref v1), (2, .int v2), (3, .int v3)]) (i := 6) (q := 5) (v := y11) (n := 1) rfl (by rw [ci_1]; exact e12.symm) (by decide) rfl d7_splitNumber_39 ?_
        refine ev_goto (tgt := 6) (by decide) d7_splitNumber_42 ?_
        exact Ev.sub [2, 3, 4, 5, 1, 0] rfl (ih _ _ _ _ _ _ _ _ _ hf)
    · refine ev_icmp_ge_Q (tgt := 45) c1 (by decide) d7_splitNumber_9 ?_
      exact Ev.sub [0, 2, 4, 5] rfl (s7_splitNumber_p45 _ _ _ _ _ _ _ hf)
def f7_splitNumber (σ : St) (v0 : Nat) (v1 : Nat) (v2 : Int32) (v3 : Int32) : Option (Int32 × St) :=
  f7_splitNumber_p6 FU σ v0 v1 v2 v3 (0 : Int64) v2
set_option maxRecDepth 50000 in
theorem s7_splitNumber : ∀ (σ : St) (v0 : Nat) (v1 : Nat) (v2 : Int32) (v3 : Int32) (r : Int32) (τ : St), f7_splitNumber σ v0 v1 v2 v3 = some (r, τ) → Call 3 m7_splitNumber [.ref v0, .ref v1, .int v2, .int v3] σ (some (.int r)) τ := by
  intro σ v0 v1 v2 v3 r τ hf
  unfold f7_splitNumber at hf
  refine Call.of (by decide +kernel) rfl (Nat.le_of_ble_eq_true rfl) ?_
  refine ev_lconst (v := (0 : Int64)) (by decide) d7_splitNumber_0 ?_
  refine ev_lstore (lv2 := [(4, .long (0 : Int64)), (0, .ref v0), (1, .ref v1), (2, .int v2), (3, .int v3)]) (i := 4) (by decide) rfl d7_splitNumber_1 ?_
  refine ev_iload_n (j := 2) (i := 2) (q := 3) rfl rfl d7_splitNumber_3 ?_
  refine ev_istore (lv2 := [(6, .int v2), (4, .long (0 : Int64)), (0, .ref v0), (1, .ref v1), (2, .int v2), (3, .int v3)]) (i := 6) (by decide) rfl d7_splitNumber_4 ?_
  exact Ev.sub [2, 3, 4, 5, 1, 0] rfl (s7_splitNumber_p6 FU _ _ _ _ _ _ _ _ _ hf)
abbrev m7_splitWord : MD := ("MillBoats$Reader", ⟨"MillBoats$Reader", "splitWord", "([III)I"⟩, prog_9_method_6_code, 9, (some Jvm.ClassFile.FieldType.int))
theorem k7_splitWord : okY m7_splitWord.2.1 3 := ⟨by decide +kernel, by decide +kernel, by decide +kernel⟩
def f7_splitWord_p98 (K60 : St → Nat → Int32 → Int64 → Int32 → Int32 → Int32 → Option (Int32 × St)) (σ : St) (v0 : Nat) (v2 : Int32) (v4 : Int64) (v6 : Int32) (v7 : Int32) (v8 : Int32) : Option (Int32 × St) :=
  lt (v8 + (1 : Int32)) fun y27 => (
  K60 σ v0 v2 v4 v6 v7 y27)
set_option maxRecDepth 20000 in
theorem s7_splitWord_p98 {K60 : St → Nat → Int32 → Int64 → Int32 → Int32 → Int32 → Option (Int32 × St)} (hK60 : ∀ (σ : St) (v0 : Nat) (v2 : Int32) (v4 : Int64) (v6 : Int32) (v7 : Int32) (v8 : Int32) (r : Int32) (τ : St), K60 σ v0 v2 v4 v6 v7 v8 = some (r, τ) → Ev 3 m7_splitWord 60 [(0, .ref v0), (2, .int v2), (4, .long v4), (6, .int v6), (7, .int v7), (8, .int v8)] [] σ (some (.int r)) τ) : ∀ (σ : St) (v0 : Nat) (v2 : Int32) (v4 : Int64) (v6 : Int32) (v7 : Int32) (v8 : Int32) (r : Int32) (τ : St), f7_splitWord_p98 K60 σ v0 v2 v4 v6 v7 v8 = some (r, τ) → Ev 3 m7_splitWord 98 [(0, .ref v0), (2, .int v2), (4, .long v4), (6, .int v6), (7, .int v7), (8, .int v8)] [] σ (some (.int r)) τ := by
  intro σ v0 v2 v4 v6 v7 v8 r τ hf
  unfold f7_splitWord_p98 at hf
  obtain ⟨y27, e28, hf⟩ := lt_some hf
  refine ev_iinc (lv2 := [(8, .int y27), (0, .ref v0), (2, .int v2), (4, .long v4), (6, .int v6), (7, .int v7)]) (i := 8) (q := 5) (v := y27) (n := 1) rfl (by rw [ci_1]; exact e28.symm) (by decide) rfl d7_splitWord_98 ?_
  refine ev_goto (tgt := 60) (by decide) d7_splitWord_101 ?_
  exact Ev.sub [1, 2, 3, 4, 5, 0] rfl (hK60 _ _ _ _ _ _ _ _ _ hf)
def f7_splitWord_p104 (σ : St) (v0 : Nat) (v2 : Int32) (v4 : Int64) (v6 : Int32) (v7 : Int32) : Option (Int32 × St) :=
  gd (ob σ v0 7) (
  bd (f7_addToken σ v0 v7 v2 v4) fun r30 t31 => (
  some (v6, t31)))
set_option maxRecDepth 20000 in
theorem s7_splitWord_p104 : ∀ (σ : St) (v0 : Nat) (v2 : Int32) (v4 : Int64) (v6 : Int32) (v7 : Int32) (r : Int32) (τ : St), f7_splitWord_p104 σ v0 v2 v4 v6 v7 = some (r, τ) → Ev 3 m7_splitWord 104 [(0, .ref v0), (2, .int v2), (4, .long v4), (6, .int v6), (7, .int v7)] [] σ (some (.int r)) τ := by
  intro σ v0 v2 v4 v6 v7 r τ hf
  unfold f7_splitWord_p104 at hf
  refine ev_aload_n (j := 0) (i := 0) (q := 0) rfl rfl d7_splitWord_104 ?_
  refine ev_iload (i := 7) (q := 4) rfl d7_splitWord_105 ?_
  refine ev_iload_n (j := 2) (i := 2) (q := 1) rfl rfl d7_splitWord_107 ?_
  refine ev_lload (i := 4) (q := 2) rfl d7_splitWord_108 ?_
  obtain ⟨h29, hf⟩ := gd_some hf
  obtain ⟨r30, t31, k32, hf⟩ := bd_some hf
  have q33 := s7_addToken _ _ _ _ _ _ _ k32
  refine ev_callV (vs := [.int v7, .int v2, .long v4]) (sk := []) cls7 h29 q33 (by decide) (Nat.le_of_ble_eq_true rfl) w736 w738 ws4 w9 w739 k7_addToken rfl (Nat.le_of_ble_eq_true rfl) d7_splitWord_110 ?_
  refine ev_iload (i := 6) (q := 3) rfl d7_splitWord_113 ?_
  obtain ⟨rfl, rfl⟩ := ret_some hf
  exact ev_iret rfl d7_splitWord_115
def f7_splitWord_p60 : Nat → St → Nat → Int32 → Int64 → Int32 → Int32 → Int32 → Option (Int32 × St)
  | 0, _, _, _, _, _, _, _ => none
  | n + 1, σ, v0, v2, v4, v6, v7, v8 =>
  (if v7 = (-4 : Int32) then
  gd (ob σ v0 7) (
  lt (sR σ v0 3) fun b18 => (
  gd (nz b18) (
  gd (ob σ b18 15) (
  (if v8 < (Int32.ofNat (sK σ b18).2) then
  gd (inb σ b18 v8) (
  (if (lg_cmp (sL σ b18 (ix v8)) v4) = (0 : Int32) then
  lt ((256 : Int32) + v8) fun y25 => (
  f7_splitWord_p98 (f7_splitWord_p60 n) σ v0 v2 v4 v6 y25 v8)
  else
  f7_splitWord_p98 (f7_splitWord_p60 n) σ v0 v2 v4 v6 v7 v8))
  else
  f7_splitWord_p104 σ v0 v2 v4 v6 v7)))))
  else
  f7_splitWord_p104 σ v0 v2 v4 v6 v7)
set_option maxRecDepth 20000 in
theorem s7_splitWord_p60 : ∀ (n : Nat) (σ : St) (v0 : Nat) (v2 : Int32) (v4 : Int64) (v6 : Int32) (v7 : Int32) (v8 : Int32) (r : Int32) (τ : St), f7_splitWord_p60 n σ v0 v2 v4 v6 v7 v8 = some (r, τ) → Ev 3 m7_splitWord 60 [(0, .ref v0), (2, .int v2), (4, .long v4), (6, .int v6), (7, .int v7), (8, .int v8)] [] σ (some (.int r)) τ := by
  intro n
  induction n with
  | zero =>
    intro σ v0 v2 v4 v6 v7 v8 r τ hf
    cases hf
  | succ n ih =>
    intro σ v0 v2 v4 v6 v7 v8 r τ hf
    rw [f7_splitWord_p60] at hf
    refine ev_iload (i := 7) (q := 4) rfl d7_splitWord_60 ?_
    refine ev_bipush cb_m4 d7_splitWord_62 ?_
    rcases ite_some hf with ⟨c16, hf⟩ | ⟨c16, hf⟩
    · refine ev_icmp_ne_P (tgt := 104) c16 (by decide) d7_splitWord_64 ?_
      refine ev_iload (i := 8) (q := 5) rfl d7_splitWord_67 ?_
      refine ev_aload_n (j := 0) (i := 0) (q := 0) rfl rfl d7_splitWord_69 ?_
      obtain ⟨h17, hf⟩ := gd_some hf
      obtain ⟨b18, e19, hf⟩ := lt_some hf
      obtain ⟨h20, hf⟩ := gd_some hf
      refine ev_getRb cls7 (j := 3) (by decide) rfl w274 h17 e19 (nz_ne h20) d7_splitWord_70 ?_
      obtain ⟨h21, hf⟩ := gd_some hf
      refine ev_alen (kd := 15) (by decide) (by decide) h21 d7_splitWord_73 ?_
      rcases ite_some hf with ⟨c22, hf⟩ | ⟨c22, hf⟩
      · refine ev_icmp_ge_P (tgt := 104) c22 (by decide) d7_splitWord_74 ?_
        refine ev_aload_n (j := 0) (i := 0) (q := 0) rfl rfl d7_splitWord_77 ?_
        refine ev_getRb cls7 (j := 3) (by decide) rfl w274 h17 e19 (nz_ne h20) d7_splitWord_78 ?_
        refine ev_iload (i := 8) (q := 5) rfl d7_splitWord_81 ?_
        obtain ⟨h23, hf⟩ := gd_some hf
        refine ev_lald h21 h23 d7_splitWord_83 ?_
        refine ev_lload (i := 4) (q := 2) rfl d7_splitWord_84 ?_
        refine ev_lcmp d7_splitWord_86 ?_
        rcases ite_some hf with ⟨c24, hf⟩ | ⟨c24, hf⟩
        · refine ev_if_ne_P (tgt := 98) c24 (by decide) d7_splitWord_87 ?_
          refine ev_sipush cs_256 d7_splitWord_90 ?_
          refine ev_iload (i := 8) (q := 5) rfl d7_splitWord_93 ?_
          refine ev_iadd d7_splitWord_95 ?_
          obtain ⟨y25, e26, hf⟩ := lt_some hf
          refine ev_nmI e26 ?_
          refine ev_istore (lv2 := [(7, .int y25), (0, .ref v0), (2, .int v2), (4, .long v4), (6, .int v6), (8, .int v8)]) (i := 7) (by decide) rfl d7_splitWord_96 ?_
          exact Ev.sub [1, 2, 3, 4, 0, 5] rfl (s7_splitWord_p98 ih _ _ _ _ _ _ _ _ _ hf)
        · refine ev_if_ne_Q (tgt := 98) c24 (by decide) d7_splitWord_87 ?_
          exact Ev.sub [0, 1, 2, 3, 4, 5] rfl (s7_splitWord_p98 ih _ _ _ _ _ _ _ _ _ hf)
      · refine ev_icmp_ge_Q (tgt := 104) c22 (by decide) d7_splitWord_74 ?_
        exact Ev.sub [0, 1, 2, 3, 4] rfl (s7_splitWord_p104 _ _ _ _ _ _ _ _ hf)
    · refine ev_icmp_ne_Q (tgt := 104) c16 (by decide) d7_splitWord_64 ?_
      exact Ev.sub [0, 1, 2, 3, 4] rfl (s7_splitWord_p104 _ _ _ _ _ _ _ _ hf)
def f7_splitWord_p55 (σ : St) (v0 : Nat) (v2 : Int32) (v4 : Int64) (v6 : Int32) (x0 : Int32) : Option (Int32 × St) :=
  f7_splitWord_p60 FU σ v0 v2 v4 v6 x0 (0 : Int32)
set_option maxRecDepth 20000 in
theorem s7_splitWord_p55 : ∀ (σ : St) (v0 : Nat) (v2 : Int32) (v4 : Int64) (v6 : Int32) (x0 : Int32) (r : Int32) (τ : St), f7_splitWord_p55 σ v0 v2 v4 v6 x0 = some (r, τ) → Ev 3 m7_splitWord 55 [(0, .ref v0), (2, .int v2), (4, .long v4), (6, .int v6)] [.int x0] σ (some (.int r)) τ := by
  intro σ v0 v2 v4 v6 x0 r τ hf
  unfold f7_splitWord_p55 at hf
  refine ev_istore (lv2 := [(7, .int x0), (0, .ref v0), (2, .int v2), (4, .long v4), (6, .int v6)]) (i := 7) (by decide) rfl d7_splitWord_55 ?_
  refine ev_iconst ci_0 d7_splitWord_57 ?_
  refine ev_istore (lv2 := [(8, .int (0 : Int32)), (7, .int x0), (0, .ref v0), (2, .int v2), (4, .long v4), (6, .int v6)]) (i := 8) (by decide) rfl d7_splitWord_58 ?_
  exact Ev.sub [2, 3, 4, 5, 1, 0] rfl (s7_splitWord_p60 FU _ _ _ _ _ _ _ _ _ hf)
def f7_splitWord_p39 (σ : St) (v0 : Nat) (v2 : Int32) (v4 : Int64) (v6 : Int32) : Option (Int32 × St) :=
  (if (v6 - v2) ≤ (8 : Int32) then
  f7_splitWord_p55 σ v0 v2 v4 v6 (-4 : Int32)
  else
  f7_splitWord_p55 σ v0 v2 v4 v6 (-2 : Int32))
set_option maxRecDepth 20000 in
theorem s7_splitWord_p39 : ∀ (σ : St) (v0 : Nat) (v2 : Int32) (v4 : Int64) (v6 : Int32) (r : Int32) (τ : St), f7_splitWord_p39 σ v0 v2 v4 v6 = some (r, τ) → Ev 3 m7_splitWord 39 [(0, .ref v0), (2, .int v2), (4, .long v4), (6, .int v6)] [] σ (some (.int r)) τ := by
  intro σ v0 v2 v4 v6 r τ hf
  unfold f7_splitWord_p39 at hf
  refine ev_iload (i := 6) (q := 3) rfl d7_splitWord_39 ?_
  refine ev_iload_n (j := 2) (i := 2) (q := 1) rfl rfl d7_splitWord_41 ?_
  refine ev_isub d7_splitWord_42 ?_
  refine ev_bipush cb_8 d7_splitWord_43 ?_
  rcases ite_some hf with ⟨c15, hf⟩ | ⟨c15, hf⟩
  · refine ev_icmp_le_P (tgt := 53) c15 (by decide) d7_splitWord_45 ?_
    refine ev_bipush cb_m4 d7_splitWord_53 ?_
    exact Ev.sub [0, 1, 2, 3] rfl (s7_splitWord_p55 _ _ _ _ _ _ _ _ hf)
  · refine ev_icmp_le_Q (tgt := 53) c15 (by decide) d7_splitWord_45 ?_
    refine ev_bipush cb_m2 d7_splitWord_48 ?_
    refine ev_goto (tgt := 55) (by decide) d7_splitWord_50 ?_
    exact Ev.sub [0, 1, 2, 3] rfl (s7_splitWord_p55 _ _ _ _ _ _ _ _ hf)
def f7_splitWord_p6 : Nat → St → Nat → Nat → Int32 → Int32 → Int64 → Int32 → Option (Int32 × St)
  | 0, _, _, _, _, _, _, _ => none
  | n + 1, σ, v0, v1, v2, v3, v4, v6 =>
  (if v6 < v3 then
  gd (ob σ v1 14) (
  gd (inb σ v1 v6) (
  bd (f7_isLetter σ (sI σ v1 (ix v6))) fun r4 t5 => (
  (if r4 = (0 : Int32) then
  f7_splitWord_p39 t5 v0 v2 v4 v6
  else
  bd (f7_withLetter t5 v4 (sI t5 v1 (ix v6))) fun r9 t10 => (
  lt (v6 + (1 : Int32)) fun y13 => (
  (f7_splitWord_p6 n) t10 v0 v1 v2 v3 r9 y13))))))
  else
  f7_splitWord_p39 σ v0 v2 v4 v6)
set_option maxRecDepth 20000 in
theorem s7_splitWord_p6 : ∀ (n : Nat) (σ : St) (v0 : Nat) (v1 : Nat) (v2 : Int32) (v3 : Int32) (v4 : Int64) (v6 : Int32) (r : Int32) (τ : St), f7_splitWord_p6 n σ v0 v1 v2 v3 v4 v6 = some (r, τ) → Ev 3 m7_splitWord 6 [(0, .ref v0), (1, .ref v1), (2, .int v2), (3, .int v3), (4, .long v4), (6, .int v6)] [] σ (some (.int r)) τ := by
  intro n
  induction n with
  | zero =>
    intro σ v0 v1 v2 v3 v4 v6 r τ hf
    cases hf
  | succ n ih =>
    intro σ v0 v1 v2 v3 v4 v6 r τ hf
    rw [f7_splitWord_p6] at hf
    refine ev_iload (i := 6) (q := 5) rfl d7_splitWord_6 ?_
    refine ev_iload_n (j := 3) (i := 3) (q := 3) rfl rfl d7_splitWord_8 ?_
    rcases ite_some hf with ⟨c1, hf⟩ | ⟨c1, hf⟩
    · refine ev_icmp_ge_P (tgt := 39) c1 (by decide) d7_splitWord_9 ?_
      refine ev_aload_n (j := 1) (i := 1) (q := 1) rfl rfl d7_splitWord_12 ?_
      refine ev_iload (i := 6) (q := 5) rfl d7_splitWord_13 ?_
      obtain ⟨h2, hf⟩ := gd_some hf
      obtain ⟨h3, hf⟩ := gd_some hf
      refine ev_iald h2 h3 d7_splitWord_15 ?_
      obtain ⟨r4, t5, k6, hf⟩ := bd_some hf
      have q7 := s7_isLetter _ _ _ _ k6
      refine ev_callS (vs := [.int (sI σ v1 (ix v6))]) (sk := []) q7 (by decide) (Nat.le_of_ble_eq_true rfl) w729 w730 w9 w731 k7_isLetter rfl (Nat.le_of_ble_eq_true rfl) d7_splitWord_16 ?_
      rcases ite_some hf with ⟨c8, hf⟩ | ⟨c8, hf⟩
      · refine ev_if_eq_P (tgt := 39) c8 (by decide) d7_splitWord_19 ?_
        exact Ev.sub [0, 2, 4, 5] rfl (s7_splitWord_p39 _ _ _ _ _ _ _ hf)
      · refine ev_if_eq_Q (tgt := 39) c8 (by decide) d7_splitWord_19 ?_
        refine ev_lload (i := 4) (q := 4) rfl d7_splitWord_22 ?_
        refine ev_aload_n (j := 1) (i := 1) (q := 1) rfl rfl d7_splitWord_24 ?_
        refine ev_iload (i := 6) (q := 5) rfl d7_splitWord_25 ?_
        refine ev_iald (mono_ob q7.1 h2) (inb_m q7.1 h2 h3) d7_splitWord_27 ?_
        obtain ⟨r9, t10, k11, hf⟩ := bd_some hf
        have q12 := s7_withLetter _ _ _ _ _ k11
        refine ev_callS (vs := [.long v4, .int (sI t5 v1 (ix v6))]) (sk := []) q12 (by decide) (Nat.le_of_ble_eq_true rfl) w266 w267 w9 w268 k7_withLetter rfl (Nat.le_of_ble_eq_true rfl) d7_splitWord_28 ?_
        refine ev_lstore (lv2 := [(4, .long r9), (0, .ref v0), (1, .ref v1), (2, .int v2), (3, .int v3), (6, .int v6)]) (i := 4) (by decide) rfl d7_splitWord_31 ?_
        obtain ⟨y13, e14, hf⟩ := lt_some hf
        refine ev_iinc (lv2 := [(6, .int y13), (4, .long r9), (0, .ref v0), (1, .ref v1), (2, .int v2), (3, .int v3)]) (i := 6) (q := 5) (v := y13) (n := 1) rfl (by rw [ci_1]; exact e14.symm) (by decide) rfl d7_splitWord_33 ?_
        refine ev_goto (tgt := 6) (by decide) d7_splitWord_36 ?_
        exact Ev.sub [2, 3, 4, 5, 1, 0] rfl (ih _ _ _ _ _ _ _ _ _ hf)
    · refine ev_icmp_ge_Q (tgt := 39) c1 (by decide) d7_splitWord_9 ?_
      exact Ev.sub [0, 2, 4, 5] rfl (s7_splitWord_p39 _ _ _ _ _ _ _ hf)
def f7_splitWord (σ : St) (v0 : Nat) (v1 : Nat) (v2 : Int32) (v3 : Int32) : Option (Int32 × St) :=
  f7_splitWord_p6 FU σ v0 v1 v2 v3 (0 : Int64) v2
set_option maxRecDepth 50000 in
theorem s7_splitWord : ∀ (σ : St) (v0 : Nat) (v1 : Nat) (v2 : Int32) (v3 : Int32) (r : Int32) (τ : St), f7_splitWord σ v0 v1 v2 v3 = some (r, τ) → Call 3 m7_splitWord [.ref v0, .ref v1, .int v2, .int v3] σ (some (.int r)) τ := by
  intro σ v0 v1 v2 v3 r τ hf
  unfold f7_splitWord at hf
  refine Call.of (by decide +kernel) rfl (Nat.le_of_ble_eq_true rfl) ?_
  refine ev_lconst (v := (0 : Int64)) (by decide) d7_splitWord_0 ?_
  refine ev_lstore (lv2 := [(4, .long (0 : Int64)), (0, .ref v0), (1, .ref v1), (2, .int v2), (3, .int v3)]) (i := 4) (by decide) rfl d7_splitWord_1 ?_
  refine ev_iload_n (j := 2) (i := 2) (q := 3) rfl rfl d7_splitWord_3 ?_
  refine ev_istore (lv2 := [(6, .int v2), (4, .long (0 : Int64)), (0, .ref v0), (1, .ref v1), (2, .int v2), (3, .int v3)]) (i := 6) (by decide) rfl d7_splitWord_4 ?_
  exact Ev.sub [2, 3, 4, 5, 1, 0] rfl (s7_splitWord_p6 FU _ _ _ _ _ _ _ _ _ hf)
abbrev m7_split : MD := ("MillBoats$Reader", ⟨"MillBoats$Reader", "split", "([II)V"⟩, prog_9_method_5_code, 6, (none : Option Jvm.ClassFile.FieldType))
theorem k7_split : okY m7_split.2.1 2 := ⟨by decide +kernel, by decide +kernel, by decide +kernel⟩
def f7_split_p91 (K10 : St → Nat → Nat → Int32 → Int32 → Int32 → Option (Unit × St)) (σ : St) (v0 : Nat) (v1 : Nat) (v2 : Int32) (v3 : Int32) (v4 : Int32) : Option (Unit × St) :=
  lt (v4 + (1 : Int32)) fun y39 => (
  K10 σ v0 v1 v2 v3 y39)
set_option maxRecDepth 20000 in
theorem s7_split_p91 {K10 : St → Nat → Nat → Int32 → Int32 → Int32 → Option (Unit × St)} (hK10 : ∀ (σ : St) (v0 : Nat) (v1 : Nat) (v2 : Int32) (v3 : Int32) (v4 : Int32) (r : Unit) (τ : St), K10 σ v0 v1 v2 v3 v4 = some (r, τ) → Ev 4 m7_split 10 [(0, .ref v0), (1, .ref v1), (2, .int v2), (3, .int v3), (4, .int v4)] [] σ none τ) : ∀ (σ : St) (v0 : Nat) (v1 : Nat) (v2 : Int32) (v3 : Int32) (v4 : Int32) (r : Unit) (τ : St), f7_split_p91 K10 σ v0 v1 v2 v3 v4 = some (r, τ) → Ev 4 m7_split 91 [(0, .ref v0), (1, .ref v1), (2, .int v2), (3, .int v3), (4, .int v4)] [] σ none τ := by
  intro σ v0 v1 v2 v3 v4 r τ hf
  unfold f7_split_p91 at hf
  obtain ⟨y39, e40, hf⟩ := lt_some hf
  refine ev_iinc (lv2 := [(4, .int y39), (0, .ref v0), (1, .ref v1), (2, .int v2), (3, .int v3)]) (i := 4) (q := 4) (v := y39) (n := 1) rfl (by rw [ci_1]; exact e40.symm) (by decide) rfl d7_split_91 ?_
  refine ev_goto (tgt := 10) (by decide) d7_split_94 ?_
  exact Ev.sub [1, 2, 3, 4, 0] rfl (hK10 _ _ _ _ _ _ _ _ hf)
def f7_split_p88 (K10 : St → Nat → Nat → Int32 → Int32 → Int32 → Option (Unit × St)) (σ : St) (v0 : Nat) (v1 : Nat) (v2 : Int32) (v3 : Int32) (v4 : Int32) : Option (Unit × St) :=
  lt (v3 + (1 : Int32)) fun y37 => (
  f7_split_p91 K10 σ v0 v1 v2 y37 v4)
set_option maxRecDepth 20000 in
theorem s7_split_p88 {K10 : St → Nat → Nat → Int32 → Int32 → Int32 → Option (Unit × St)} (hK10 : ∀ (σ : St) (v0 : Nat) (v1 : Nat) (v2 : Int32) (v3 : Int32) (v4 : Int32) (r : Unit) (τ : St), K10 σ v0 v1 v2 v3 v4 = some (r, τ) → Ev 4 m7_split 10 [(0, .ref v0), (1, .ref v1), (2, .int v2), (3, .int v3), (4, .int v4)] [] σ none τ) : ∀ (σ : St) (v0 : Nat) (v1 : Nat) (v2 : Int32) (v3 : Int32) (v4 : Int32) (r : Unit) (τ : St), f7_split_p88 K10 σ v0 v1 v2 v3 v4 = some (r, τ) → Ev 4 m7_split 88 [(0, .ref v0), (1, .ref v1), (2, .int v2), (3, .int v3), (4, .int v4)] [] σ none τ := by
  intro σ v0 v1 v2 v3 v4 r τ hf
  unfold f7_split_p88 at hf
  obtain ⟨y37, e38, hf⟩ := lt_some hf
  refine ev_iinc (lv2 := [(3, .int y37), (0, .ref v0), (1, .ref v1), (2, .int v2), (4, .int v4)]) (i := 3) (q := 3) (v := y37) (n := 1) rfl (by rw [ci_1]; exact e38.symm) (by decide) rfl d7_split_88 ?_
  exact Ev.sub [1, 2, 3, 0, 4] rfl (s7_split_p91 hK10 _ _ _ _ _ _ _ _ hf)
def f7_split_p97 (σ : St) (v0 : Nat) (v2 : Int32) : Option (Unit × St) :=
  gd (ob σ v0 7) (
  bd (f7_addToken σ v0 (-1 : Int32) v2 (0 : Int64)) fun r42 t43 => (
  some ((), t43)))
set_option maxRecDepth 20000 in
theorem s7_split_p97 : ∀ (σ : St) (v0 : Nat) (v2 : Int32) (r : Unit) (τ : St), f7_split_p97 σ v0 v2 = some (r, τ) → Ev 4 m7_split 97 [(0, .ref v0), (2, .int v2)] [] σ none τ := by
  intro σ v0 v2 r τ hf
  unfold f7_split_p97 at hf
  refine ev_aload_n (j := 0) (i := 0) (q := 0) rfl rfl d7_split_97 ?_
  refine ev_iconst ci_m1 d7_split_98 ?_
  refine ev_iload_n (j := 2) (i := 2) (q := 1) rfl rfl d7_split_99 ?_
  refine ev_lconst (v := (0 : Int64)) (by decide) d7_split_100 ?_
  obtain ⟨h41, hf⟩ := gd_some hf
  obtain ⟨r42, t43, k44, hf⟩ := bd_some hf
  have q45 := s7_addToken _ _ _ _ _ _ _ k44
  refine ev_callV (vs := [.int (-1 : Int32), .int v2, .long (0 : Int64)]) (sk := []) cls7 h41 q45 (by decide) (Nat.le_of_ble_eq_true rfl) w736 w738 ws4 w9 w739 k7_addToken rfl (Nat.le_of_ble_eq_true rfl) d7_split_101 ?_
  obtain ⟨-, rfl⟩ := ret_some hf
  exact ev_vret rfl d7_split_104
def f7_split_p10 : Nat → St → Nat → Nat → Int32 → Int32 → Int32 → Option (Unit × St)
  | 0, _, _, _, _, _, _ => none
  | n + 1, σ, v0, v1, v2, v3, v4 =>
  (if v4 < (400 : Int32) then
  (if v3 < v2 then
  gd (ob σ v1 14) (
  gd (inb σ v1 v3) (
  lt (sI σ v1 (ix v3)) fun y8 => (
  bd (f7_isLetter σ y8) fun r10 t11 => (
  (if r10 = (0 : Int32) then
  bd (f7_isFigure t11 y8) fun r15 t16 => (
  (if r15 = (0 : Int32) then
  (if y8 = (32 : Int32) then
  f7_split_p88 (f7_split_p10 n) t16 v0 v1 v2 v3 v4
  else
  (if y8 = (10 : Int32) then
  f7_split_p88 (f7_split_p10 n) t16 v0 v1 v2 v3 v4
  else
  gd (ob t16 v0 7) (
  bd (f7_addToken t16 v0 y8 v3 (0 : Int64)) fun r23 t24 => (
  f7_split_p88 (f7_split_p10 n) t24 v0 v1 v2 v3 v4))))
  else
  gd (ob t16 v0 7) (
  bd (f7_splitNumber t16 v0 v1 v3 v2) fun r28 t29 => (
  f7_split_p91 (f7_split_p10 n) t29 v0 v1 v2 r28 v4))))
  else
  gd (ob t11 v0 7) (
  bd (f7_splitWord t11 v0 v1 v3 v2) fun r33 t34 => (
  f7_split_p91 (f7_split_p10 n) t34 v0 v1 v2 r33 v4)))))))
  else
  f7_split_p97 σ v0 v2)
  else
  f7_split_p97 σ v0 v2)
set_option maxRecDepth 20000 in
theorem s7_split_p10 : ∀ (n : Nat) (σ : St) (v0 : Nat) (v1 : Nat) (v2 : Int32) (v3 : Int32) (v4 : Int32) (r : Unit) (τ : St), f7_split_p10 n σ v0 v1 v2 v3 v4 = some (r, τ) → Ev 4 m7_split 10 [(0, .ref v0), (1, .ref v1), (2, .int v2), (3, .int v3), (4, .int v4)] [] σ none τ := by
  intro n
  induction n with
  | zero =>
    intro σ v0 v1 v2 v3 v4 r τ hf
    cases hf
  | succ n ih =>
    intro σ v0 v1 v2 v3 v4 r τ hf
    rw [f7_split_p10] at hf
    refine ev_iload (i := 4) (q := 4) rfl d7_split_10 ?_
    refine ev_sipush cs_400 d7_split_12 ?_
    rcases ite_some hf with ⟨c4, hf⟩ | ⟨c4, hf⟩
    · refine ev_icmp_ge_P (tgt := 97) c4 (by decide) d7_split_15 ?_
      refine ev_iload_n (j := 3) (i := 3) (q := 3) rfl rfl d7_split_18 ?_
      refine ev_iload_n (j := 2) (i := 2) (q := 2) rfl rfl d7_split_19 ?_
      rcases ite_some hf with ⟨c5, hf⟩ | ⟨c5, hf⟩
      · refine ev_icmp_ge_P (tgt := 97) c5 (by decide) d7_split_20 ?_
        refine ev_aload_n (j := 1) (i := 1) (q := 1) rfl rfl d7_split_23 ?_
        refine ev_iload_n (j := 3) (i := 3) (q := 3) rfl rfl d7_split_24 ?_
        obtain ⟨h6, hf⟩ := gd_some hf
        obtain ⟨h7, hf⟩ := gd_some hf
        refine ev_iald h6 h7 d7_split_25 ?_
        obtain ⟨y8, e9, hf⟩ := lt_some hf
        refine ev_nmI e9 ?_
        refine ev_istore (lv2 := [(5, .int y8), (0, .ref v0), (1, .ref v1), (2, .int v2), (3, .int v3), (4, .int v4)]) (i := 5) (by decide) rfl d7_split_26 ?_
        refine ev_iload (i := 5) (q := 0) rfl d7_split_28 ?_
        obtain ⟨r10, t11, k12, hf⟩ := bd_some hf
        have q13 := s7_isLetter _ _ _ _ k12
        refine ev_callS (vs := [.int y8]) (sk := []) q13 (by decide) (Nat.le_of_ble_eq_true rfl) w729 w730 w9 w731 k7_isLetter rfl (Nat.le_of_ble_eq_true rfl) d7_split_30 ?_
        rcases ite_some hf with ⟨c14, hf⟩ | ⟨c14, hf⟩
        · refine ev_if_eq_P (tgt := 47) c14 (by decide) d7_split_33 ?_
          refine ev_iload (i := 5) (q := 0) rfl d7_split_47 ?_
          obtain ⟨r15, t16, k17, hf⟩ := bd_some hf
          have q18 := s7_isFigure _ _ _ _ k17
          refine ev_callS (vs := [.int y8]) (sk := []) q18 (by decide) (Nat.le_of_ble_eq_true rfl) w740 w741 w9 w742 k7_isFigure rfl (Nat.le_of_ble_eq_true rfl) d7_split_49 ?_
          rcases ite_some hf with ⟨c19, hf⟩ | ⟨c19, hf⟩
          · refine ev_if_eq_P (tgt := 66) c19 (by decide) d7_split_52 ?_
            refine ev_iload (i := 5) (q := 0) rfl d7_split_66 ?_
            refine ev_bipush cb_32 d7_split_68 ?_
            rcases ite_some hf with ⟨c20, hf⟩ | ⟨c20, hf⟩
            · refine ev_icmp_eq_P (tgt := 88) c20 (by decide) d7_split_70 ?_
              exact Ev.sub [1, 2, 3, 4, 5] rfl (s7_split_p88 ih _ _ _ _ _ _ _ _ hf)
            · refine ev_icmp_eq_Q (tgt := 88) c20 (by decide) d7_split_70 ?_
              refine ev_iload (i := 5) (q := 0) rfl d7_split_73 ?_
              refine ev_bipush cb_10 d7_split_75 ?_
              rcases ite_some hf with ⟨c21, hf⟩ | ⟨c21, hf⟩
              · refine ev_icmp_eq_P (tgt := 88) c21 (by decide) d7_split_77 ?_
                exact Ev.sub [1, 2, 3, 4, 5] rfl (s7_split_p88 ih _ _ _ _ _ _ _ _ hf)
              · refine ev_icmp_eq_Q (tgt := 88) c21 (by decide) d7_split_77 ?_
                refine ev_aload_n (j := 0) (i := 0) (q := 1) rfl rfl d7_split_80 ?_
                refine ev_iload (i := 5) (q := 0) rfl d7_split_81 ?_
                refine ev_iload_n (j := 3) (i := 3) (q := 4) rfl rfl d7_split_83 ?_
                refine ev_lconst (v := (0 : Int64)) (by decide) d7_split_84 ?_
                obtain ⟨h22, hf⟩ := gd_some hf
                obtain ⟨r23, t24, k25, hf⟩ := bd_some hf
                have q26 := s7_addToken _ _ _ _ _ _ _ k25
                refine ev_callV (vs := [.int y8, .int v3, .long (0 : Int64)]) (sk := []) cls7 h22 q26 (by decide) (Nat.le_of_ble_eq_true rfl) w736 w738 ws4 w9 w739 k7_addToken rfl (Nat.le_of_ble_eq_true rfl) d7_split_85 ?_
                exact Ev.sub [1, 2, 3, 4, 5] rfl (s7_split_p88 ih _ _ _ _ _ _ _ _ hf)
          · refine ev_if_eq_Q (tgt := 66) c19 (by decide) d7_split_52 ?_
            refine ev_aload_n (j := 0) (i := 0) (q := 1) rfl rfl d7_split_55 ?_
            refine ev_aload_n (j := 1) (i := 1) (q := 2) rfl rfl d7_split_56 ?_
            refine ev_iload_n (j := 3) (i := 3) (q := 4) rfl rfl d7_split_57 ?_
            refine ev_iload_n (j := 2) (i := 2) (q := 3) rfl rfl d7_split_58 ?_
            obtain ⟨h27, hf⟩ := gd_some hf
            obtain ⟨r28, t29, k30, hf⟩ := bd_some hf
            have q31 := s7_splitNumber _ _ _ _ _ _ _ k30
            refine ev_callV (vs := [.ref v1, .int v3, .int v2]) (sk := []) cls7 h27 q31 (by decide) (Nat.le_of_ble_eq_true rfl) w743 w745 ws5 w9 w746 k7_splitNumber rfl (Nat.le_of_ble_eq_true rfl) d7_split_59 ?_
            refine ev_istore_n (lv2 := [(3, .int r28), (5, .int y8), (0, .ref v0), (1, .ref v1), (2, .int v2), (4, .int v4)]) (j := 3) (i := 3) rfl (by decide) rfl d7_split_62 ?_
            refine ev_goto (tgt := 91) (by decide) d7_split_63 ?_
            exact Ev.sub [2, 3, 4, 0, 5] rfl (s7_split_p91 ih _ _ _ _ _ _ _ _ hf)
        · refine ev_if_eq_Q (tgt := 47) c14 (by decide) d7_split_33 ?_
          refine ev_aload_n (j := 0) (i := 0) (q := 1) rfl rfl d7_split_36 ?_
          refine ev_aload_n (j := 1) (i := 1) (q := 2) rfl rfl d7_split_37 ?_
          refine ev_iload_n (j := 3) (i := 3) (q := 4) rfl rfl d7_split_38 ?_
          refine ev_iload_n (j := 2) (i := 2) (q := 3) rfl rfl d7_split_39 ?_
          obtain ⟨h32, hf⟩ := gd_some hf
          obtain ⟨r33, t34, k35, hf⟩ := bd_some hf
          have q36 := s7_splitWord _ _ _ _ _ _ _ k35
          refine ev_callV (vs := [.ref v1, .int v3, .int v2]) (sk := []) cls7 h32 q36 (by decide) (Nat.le_of_ble_eq_true rfl) w732 w734 ws3 w9 w735 k7_splitWord rfl (Nat.le_of_ble_eq_true rfl) d7_split_40 ?_
          refine ev_istore_n (lv2 := [(3, .int r33), (5, .int y8), (0, .ref v0), (1, .ref v1), (2, .int v2), (4, .int v4)]) (j := 3) (i := 3) rfl (by decide) rfl d7_split_43 ?_
          refine ev_goto (tgt := 91) (by decide) d7_split_44 ?_
          exact Ev.sub [2, 3, 4, 0, 5] rfl (s7_split_p91 ih _ _ _ _ _ _ _ _ hf)
      · refine ev_icmp_ge_Q (tgt := 97) c5 (by decide) d7_split_20 ?_
        exact Ev.sub [0, 2] rfl (s7_split_p97 _ _ _ _ _ hf)
    · refine ev_icmp_ge_Q (tgt := 97) c4 (by decide) d7_split_15 ?_
      exact Ev.sub [0, 2] rfl (s7_split_p97 _ _ _ _ _ hf)
def f7_split (σ : St) (v0 : Nat) (v1 : Nat) (v2 : Int32) : Option (Unit × St) :=
  gd (ob σ v0 7) (
  lt (wI σ v0 6 (0 : Int32)) fun t2 => (
  f7_split_p10 FU t2 v0 v1 v2 (0 : Int32) (0 : Int32)))
set_option maxRecDepth 50000 in
theorem s7_split : ∀ (σ : St) (v0 : Nat) (v1 : Nat) (v2 : Int32) (r : Unit) (τ : St), f7_split σ v0 v1 v2 = some (r, τ) → Call 4 m7_split [.ref v0, .ref v1, .int v2] σ none τ := by
  intro σ v0 v1 v2 r τ hf
  unfold f7_split at hf
  refine Call.of (by decide +kernel) rfl (Nat.le_of_ble_eq_true rfl) ?_
  refine ev_aload_n (j := 0) (i := 0) (q := 0) rfl rfl d7_split_0 ?_
  refine ev_iconst ci_0 d7_split_1 ?_
  obtain ⟨h1, hf⟩ := gd_some hf
  obtain ⟨t2, e3, hf⟩ := lt_some hf
  refine ev_putI cls7 (j := 6) (by decide) rfl rfl w278 h1 (fun _ => ⟨rfl, rfl⟩) d7_split_2 (ev_nmS e3 ?_)
  refine ev_iconst ci_0 d7_split_5 ?_
  refine ev_istore_n (lv2 := [(3, .int (0 : Int32)), (0, .ref v0), (1, .ref v1), (2, .int v2)]) (j := 3) (i := 3) rfl (by decide) rfl d7_split_6 ?_
  refine ev_iconst ci_0 d7_split_7 ?_
  refine ev_istore (lv2 := [(4, .int (0 : Int32)), (3, .int (0 : Int32)), (0, .ref v0), (1, .ref v1), (2, .int v2)]) (i := 4) (by decide) rfl d7_split_8 ?_
  exact Ev.sub [2, 3, 4, 1, 0] rfl (s7_split_p10 FU _ _ _ _ _ _ _ _ hf)
abbrev m10_clear : MD := ("MillBoats$Text", ⟨"MillBoats$Text", "clear", "()V"⟩, prog_12_method_2_code, 1, (none : Option Jvm.ClassFile.FieldType))
theorem k10_clear : okY m10_clear.2.1 0 := ⟨by decide +kernel, by decide +kernel, by decide +kernel⟩
def f10_clear (σ : St) (v0 : Nat) : Option (Unit × St) :=
  gd (ob σ v0 10) (
  lt (wI σ v0 5 (0 : Int32)) fun t2 => (
  lt (wI t2 v0 6 (0 : Int32)) fun t4 => (
  some ((), t4))))
set_option maxRecDepth 50000 in
theorem s10_clear : ∀ (σ : St) (v0 : Nat) (r : Unit) (τ : St), f10_clear σ v0 = some (r, τ) → Call 2 m10_clear [.ref v0] σ none τ := by
  intro σ v0 r τ hf
  unfold f10_clear at hf
  refine Call.of (by decide +kernel) rfl (Nat.le_of_ble_eq_true rfl) ?_
  refine ev_aload_n (j := 0) (i := 0) (q := 0) rfl rfl d10_clear_0 ?_
  refine ev_iconst ci_0 d10_clear_1 ?_
  obtain ⟨h1, hf⟩ := gd_some hf
  obtain ⟨t2, e3, hf⟩ := lt_some hf
  refine ev_putI cls10 (j := 5) (by decide) rfl rfl w194 h1 (fun _ => ⟨rfl, rfl⟩) d10_clear_2 (ev_nmS e3 ?_)
  refine ev_aload_n (j := 0) (i := 0) (q := 0) rfl rfl d10_clear_5 ?_
  refine ev_iconst ci_0 d10_clear_6 ?_
  obtain ⟨t4, e5, hf⟩ := lt_some hf
  refine ev_putI cls10 (j := 6) (by decide) rfl rfl w195 (mono_ob (mono_eI e3) h1) (fun _ => ⟨rfl, rfl⟩) d10_clear_7 (ev_nmS e5 ?_)
  obtain ⟨-, rfl⟩ := ret_some hf
  exact ev_vret rfl d10_clear_10
abbrev m7_read : MD := ("MillBoats$Reader", ⟨"MillBoats$Reader", "read", "([II)I"⟩, prog_9_method_4_code, 5, (some Jvm.ClassFile.FieldType.int))
theorem k7_read : okY m7_read.2.1 2 := ⟨by decide +kernel, by decide +kernel, by decide +kernel⟩
def f7_read_p64 : Nat → St → Nat → Int32 → Int32 → Option (Int32 × St)
  | 0, _, _, _, _ => none
  | n + 1, σ, v0, v3, v4 =>
  (if v4 ≤ (20 : Int32) then
  (if v3 = (0 : Int32) then
  gd (ob σ v0 7) (
  some (sI σ v0 11, σ))
  else
  gd (ob σ v0 7) (
  (if (sI σ v0 8) = (-1 : Int32) then
  some (sI σ v0 11, σ)
  else
  bd (f7_rule σ v0) fun r45 t46 => (
  lt (v4 + (1 : Int32)) fun y49 => (
  (f7_read_p64 n) t46 v0 r45 y49)))))
  else
  gd (ob σ v0 7) (
  some (sI σ v0 11, σ)))
set_option maxRecDepth 20000 in
theorem s7_read_p64 : ∀ (n : Nat) (σ : St) (v0 : Nat) (v3 : Int32) (v4 : Int32) (r : Int32) (τ : St), f7_read_p64 n σ v0 v3 v4 = some (r, τ) → Ev 72 m7_read 64 [(0, .ref v0), (3, .int v3), (4, .int v4)] [] σ (some (.int r)) τ := by
  intro n
  induction n with
  | zero =>
    intro σ v0 v3 v4 r τ hf
    cases hf
  | succ n ih =>
    intro σ v0 v3 v4 r τ hf
    rw [f7_read_p64] at hf
    refine ev_iload (i := 4) (q := 2) rfl d7_read_64 ?_
    refine ev_bipush cb_20 d7_read_66 ?_
    rcases ite_some hf with ⟨c40, hf⟩ | ⟨c40, hf⟩
    · refine ev_icmp_gt_P (tgt := 94) c40 (by decide) d7_read_68 ?_
      refine ev_iload_n (j := 3) (i := 3) (q := 1) rfl rfl d7_read_71 ?_
      rcases ite_some hf with ⟨c41, hf⟩ | ⟨c41, hf⟩
      · refine ev_if_eq_P (tgt := 94) c41 (by decide) d7_read_72 ?_
        refine ev_aload_n (j := 0) (i := 0) (q := 0) rfl rfl d7_read_94 ?_
        obtain ⟨h42, hf⟩ := gd_some hf
        refine ev_getI cls7 (j := 11) (by decide) rfl w283 h42 d7_read_95 ?_
        obtain ⟨rfl, rfl⟩ := ret_some hf
        exact ev_iret rfl d7_read_98
      · refine ev_if_eq_Q (tgt := 94) c41 (by decide) d7_read_72 ?_
        refine ev_aload_n (j := 0) (i := 0) (q := 0) rfl rfl d7_read_75 ?_
        obtain ⟨h43, hf⟩ := gd_some hf
        refine ev_getI cls7 (j := 8) (by decide) rfl w280 h43 d7_read_76 ?_
        refine ev_iconst ci_m1 d7_read_79 ?_
        rcases ite_some hf with ⟨c44, hf⟩ | ⟨c44, hf⟩
        · refine ev_icmp_eq_P (tgt := 94) c44 (by decide) d7_read_80 ?_
          refine ev_aload_n (j := 0) (i := 0) (q := 0) rfl rfl d7_read_94 ?_
          refine ev_getI cls7 (j := 11) (by decide) rfl w283 h43 d7_read_95 ?_
          obtain ⟨rfl, rfl⟩ := ret_some hf
          exact ev_iret rfl d7_read_98
        · refine ev_icmp_eq_Q (tgt := 94) c44 (by decide) d7_read_80 ?_
          refine ev_aload_n (j := 0) (i := 0) (q := 0) rfl rfl d7_read_83 ?_
          obtain ⟨r45, t46, k47, hf⟩ := bd_some hf
          have q48 := s7_rule _ _ _ _ k47
          refine ev_callV (vs := []) (sk := []) cls7 h43 q48 (by decide) (Nat.le_of_ble_eq_true rfl) w752 w754 ws6 w9 w755 k7_rule rfl (Nat.le_of_ble_eq_true rfl) d7_read_84 ?_
          refine ev_istore_n (lv2 := [(3, .int r45), (0, .ref v0), (4, .int v4)]) (j := 3) (i := 3) rfl (by decide) rfl d7_read_87 ?_
          obtain ⟨y49, e50, hf⟩ := lt_some hf
          refine ev_iinc (lv2 := [(4, .int y49), (3, .int r45), (0, .ref v0)]) (i := 4) (q := 2) (v := y49) (n := 1) rfl (by rw [ci_1]; exact e50.symm) (by decide) rfl d7_read_88 ?_
          refine ev_goto (tgt := 64) (by decide) d7_read_91 ?_
          exact Ev.sub [2, 1, 0] rfl (ih _ _ _ _ _ _ hf)
    · refine ev_icmp_gt_Q (tgt := 94) c40 (by decide) d7_read_68 ?_
      refine ev_aload_n (j := 0) (i := 0) (q := 0) rfl rfl d7_read_94 ?_
      obtain ⟨h51, hf⟩ := gd_some hf
      refine ev_getI cls7 (j := 11) (by decide) rfl w283 h51 d7_read_95 ?_
      obtain ⟨rfl, rfl⟩ := ret_some hf
      exact ev_iret rfl d7_read_98
def f7_read (σ : St) (v0 : Nat) (v1 : Nat) (v2 : Int32) : Option (Int32 × St) :=
  gd (ob σ v1 14) (
  bd (fJ9_min_7cf53 σ (Int32.ofNat (sK σ v1).2) (400 : Int32)) fun r2 t3 => (
  bd (fJ9_min_7cf53 t3 v2 r2) fun r6 t7 => (
  gd (ob t7 v0 7) (
  bd (f7_split t7 v0 v1 r6) fun r11 t12 => (
  lt (sR t12 v0 5) fun b15 => (
  gd (nz b15) (
  gd (ob t12 b15 10) (
  bd (f10_clear t12 b15) fun r19 t20 => (
  lt (wI t20 v0 9 (0 : Int32)) fun t23 => (
  lt (wI t23 v0 10 (0 : Int32)) fun t25 => (
  lt (wI t25 v0 11 (0 : Int32)) fun t27 => (
  lt (wI t27 v0 12 (-1 : Int32)) fun t29 => (
  lt (wI t29 v0 7 (0 : Int32)) fun t31 => (
  lt (sR t31 v0 0) fun b33 => (
  gd (nz b33) (
  gd (ob t31 b33 14) (
  gd (inb t31 b33 (0 : Int32)) (
  lt (wI t31 v0 8 (sI t31 b33 (ix (0 : Int32)))) fun t38 => (
  f7_read_p64 FU t38 v0 (1 : Int32) (0 : Int32))))))))))))))))))))
set_option maxRecDepth 50000 in
theorem s7_read : ∀ (σ : St) (v0 : Nat) (v1 : Nat) (v2 : Int32) (r : Int32) (τ : St), f7_read σ v0 v1 v2 = some (r, τ) → Call 72 m7_read [.ref v0, .ref v1, .int v2] σ (some (.int r)) τ := by
  intro σ v0 v1 v2 r τ hf
  unfold f7_read at hf
  refine Call.of (by decide +kernel) rfl (Nat.le_of_ble_eq_true rfl) ?_
  refine ev_aload_n (j := 0) (i := 0) (q := 0) rfl rfl d7_read_0 ?_
  refine ev_aload_n (j := 1) (i := 1) (q := 1) rfl rfl d7_read_1 ?_
  refine ev_iload_n (j := 2) (i := 2) (q := 2) rfl rfl d7_read_2 ?_
  refine ev_aload_n (j := 1) (i := 1) (q := 1) rfl rfl d7_read_3 ?_
  obtain ⟨h1, hf⟩ := gd_some hf
  refine ev_alen (kd := 14) (by decide) (by decide) h1 d7_read_4 ?_
  refine ev_sipush cs_400 d7_read_5 ?_
  obtain ⟨r2, t3, k4, hf⟩ := bd_some hf
  have q5 := sJ9_min_7cf53 _ _ _ _ _ k4
  refine ev_callS (vs := [.int (Int32.ofNat (sK σ v1).2), .int (400 : Int32)]) (sk := [.int v2, .ref v1, .ref v0]) q5 (by decide) (Nat.le_of_ble_eq_true rfl) w724 w636 w8 w637 kJ9_min_7cf53 rfl (Nat.le_of_ble_eq_true rfl) d7_read_8 ?_
  obtain ⟨r6, t7, k8, hf⟩ := bd_some hf
  have q9 := sJ9_min_7cf53 _ _ _ _ _ k8
  refine ev_callS (vs := [.int v2, .int r2]) (sk := [.ref v1, .ref v0]) q9 (by decide) (Nat.le_of_ble_eq_true rfl) w724 w636 w8 w637 kJ9_min_7cf53 rfl (Nat.le_of_ble_eq_true rfl) d7_read_11 ?_
  obtain ⟨h10, hf⟩ := gd_some hf
  obtain ⟨r11, t12, k13, hf⟩ := bd_some hf
  have q14 := s7_split _ _ _ _ _ _ k13
  refine ev_callV (vs := [.ref v1, .int r6]) (sk := []) cls7 h10 q14 (by decide) (Nat.le_of_ble_eq_true rfl) w725 w727 ws2 w9 w728 k7_split rfl (Nat.le_of_ble_eq_true rfl) d7_read_14 ?_
  refine ev_aload_n (j := 0) (i := 0) (q := 0) rfl rfl d7_read_17 ?_
  obtain ⟨b15, e16, hf⟩ := lt_some hf
  obtain ⟨h17, hf⟩ := gd_some hf
  refine ev_getRb cls7 (j := 5) (by decide) rfl w276 (mono_ob q14.1 h10) e16 (nz_ne h17) d7_read_18 ?_
  obtain ⟨h18, hf⟩ := gd_some hf
  obtain ⟨r19, t20, k21, hf⟩ := bd_some hf
  have q22 := s10_clear _ _ _ _ k21
  refine ev_callV (vs := []) (sk := []) cls10 h18 q22 (by decide) (Nat.le_of_ble_eq_true rfl) w748 w749 w750 w10 w751 k10_clear rfl (Nat.le_of_ble_eq_true rfl) d7_read_21 ?_
  refine ev_aload_n (j := 0) (i := 0) (q := 0) rfl rfl d7_read_24 ?_
  refine ev_iconst ci_0 d7_read_25 ?_
  obtain ⟨t23, e24, hf⟩ := lt_some hf
  refine ev_putI cls7 (j := 9) (by decide) rfl rfl w281 (mono_ob q22.1 (mono_ob q14.1 h10)) (fun _ => ⟨rfl, rfl⟩) d7_read_26 (ev_nmS e24 ?_)
  refine ev_aload_n (j := 0) (i := 0) (q := 0) rfl rfl d7_read_29 ?_
  refine ev_iconst ci_0 d7_read_30 ?_
  obtain ⟨t25, e26, hf⟩ := lt_some hf
  refine ev_putI cls7 (j := 10) (by decide) rfl rfl w282 (mono_ob (mono_eI e24) (mono_ob q22.1 (mono_ob q14.1 h10))) (fun _ => ⟨rfl, rfl⟩) d7_read_31 (ev_nmS e26 ?_)
  refine ev_aload_n (j := 0) (i := 0) (q := 0) rfl rfl d7_read_34 ?_
  refine ev_iconst ci_0 d7_read_35 ?_
  obtain ⟨t27, e28, hf⟩ := lt_some hf
  refine ev_putI cls7 (j := 11) (by decide) rfl rfl w283 (mono_ob (mono_eI e26) (mono_ob (mono_eI e24) (mono_ob q22.1 (mono_ob q14.1 h10)))) (fun _ => ⟨rfl, rfl⟩) d7_read_36 (ev_nmS e28 ?_)
  refine ev_aload_n (j := 0) (i := 0) (q := 0) rfl rfl d7_read_39 ?_
  refine ev_iconst ci_m1 d7_read_40 ?_
  obtain ⟨t29, e30, hf⟩ := lt_some hf
  refine ev_putI cls7 (j := 12) (by decide) rfl rfl w284 (mono_ob (mono_eI e28) (mono_ob (mono_eI e26) (mono_ob (mono_eI e24) (mono_ob q22.1 (mono_ob q14.1 h10))))) (fun _ => ⟨rfl, rfl⟩) d7_read_41 (ev_nmS e30 ?_)
  refine ev_aload_n (j := 0) (i := 0) (q := 0) rfl rfl d7_read_44 ?_
  refine ev_iconst ci_0 d7_read_45 ?_
  obtain ⟨t31, e32, hf⟩ := lt_some hf
  refine ev_putI cls7 (j := 7) (by decide) rfl rfl w279 (mono_ob (mono_eI e30) (mono_ob (mono_eI e28) (mono_ob (mono_eI e26) (mono_ob (mono_eI e24) (mono_ob q22.1 (mono_ob q14.1 h10)))))) (fun _ => ⟨rfl, rfl⟩) d7_read_46 (ev_nmS e32 ?_)
  refine ev_aload_n (j := 0) (i := 0) (q := 0) rfl rfl d7_read_49 ?_
  refine ev_aload_n (j := 0) (i := 0) (q := 0) rfl rfl d7_read_50 ?_
  obtain ⟨b33, e34, hf⟩ := lt_some hf
  obtain ⟨h35, hf⟩ := gd_some hf
  refine ev_getRb cls7 (j := 0) (by decide) rfl w271 (mono_ob (mono_eI e32) (mono_ob (mono_eI e30) (mono_ob (mono_eI e28) (mono_ob (mono_eI e26) (mono_ob (mono_eI e24) (mono_ob q22.1 (mono_ob q14.1 h10))))))) e34 (nz_ne h35) d7_read_51 ?_
  refine ev_iconst ci_0 d7_read_54 ?_
  obtain ⟨h36, hf⟩ := gd_some hf
  obtain ⟨h37, hf⟩ := gd_some hf
  refine ev_iald h36 h37 d7_read_55 ?_
  obtain ⟨t38, e39, hf⟩ := lt_some hf
  refine ev_putI cls7 (j := 8) (by decide) rfl rfl w280 (mono_ob (mono_eI e32) (mono_ob (mono_eI e30) (mono_ob (mono_eI e28) (mono_ob (mono_eI e26) (mono_ob (mono_eI e24) (mono_ob q22.1 (mono_ob q14.1 h10))))))) (fun _ => ⟨rfl, rfl⟩) d7_read_56 (ev_nmS e39 ?_)
  refine ev_iconst ci_1 d7_read_59 ?_
  refine ev_istore_n (lv2 := [(3, .int (1 : Int32)), (0, .ref v0), (1, .ref v1), (2, .int v2)]) (j := 3) (i := 3) rfl (by decide) rfl d7_read_60 ?_
  refine ev_iconst ci_0 d7_read_61 ?_
  refine ev_istore (lv2 := [(4, .int (0 : Int32)), (3, .int (1 : Int32)), (0, .ref v0), (1, .ref v1), (2, .int v2)]) (i := 4) (by decide) rfl d7_read_62 ?_
  exact Ev.sub [2, 1, 0] rfl (s7_read_p64 FU _ _ _ _ _ _ hf)
abbrev m9_init : MD := ("MillBoats$Table", ⟨"MillBoats$Table", "<init>", "()V"⟩, prog_11_method_1_code, 1, (none : Option Jvm.ClassFile.FieldType))
theorem k9_init : okY m9_init.2.1 0 := ⟨by decide +kernel, by decide +kernel, by decide +kernel⟩
def f9_init (σ : St) (v0 : Nat) : Option (Unit × St) :=
  lt (sN σ + 1) fun b1 => (
  gd (szOk (8 : Int32)) (
  lt (wN σ 14 (ix (8 : Int32))) fun t4 => (
  gd (ob t4 v0 9) (
  lt (wR t4 v0 0 b1) fun t7 => (
  lt (sN t7 + 1) fun b9 => (
  gd (szOk (8 : Int32)) (
  lt (wN t7 14 (ix (8 : Int32))) fun t12 => (
  lt (wR t12 v0 1 b9) fun t14 => (
  some ((), t14))))))))))
set_option maxRecDepth 50000 in
theorem s9_init : ∀ (σ : St) (v0 : Nat) (r : Unit) (τ : St), f9_init σ v0 = some (r, τ) → Call 2 m9_init [.ref v0] σ none τ := by
  intro σ v0 r τ hf
  unfold f9_init at hf
  refine Call.of (by decide +kernel) rfl (Nat.le_of_ble_eq_true rfl) ?_
  refine ev_aload_n (j := 0) (i := 0) (q := 0) rfl rfl d9_init_0 ?_
  refine ev_objInit w48 w32 w33 (by decide) (Nat.le_of_ble_eq_true rfl) d9_init_1 ?_
  refine ev_aload_n (j := 0) (i := 0) (q := 0) rfl rfl d9_init_4 ?_
  refine ev_bipush cb_8 d9_init_5 ?_
  obtain ⟨b1, e2, hf⟩ := lt_some hf
  obtain ⟨h3, hf⟩ := gd_some hf
  obtain ⟨t4, e5, hf⟩ := lt_some hf
  refine ev_newa_int w59 h3 d9_init_7 (ev_nmR e2 (ev_nmS e5 ?_))
  obtain ⟨h6, hf⟩ := gd_some hf
  obtain ⟨t7, e8, hf⟩ := lt_some hf
  refine ev_putRF cls9 (j := 0) (by decide) rfl (ne_new e2) rfl w49 rfl rfl h6 (fun _ => ⟨rfl, rfl⟩) d9_init_9 (ev_nmS e8 ?_)
  refine ev_aload_n (j := 0) (i := 0) (q := 0) rfl rfl d9_init_12 ?_
  refine ev_bipush cb_8 d9_init_13 ?_
  obtain ⟨b9, e10, hf⟩ := lt_some hf
  obtain ⟨h11, hf⟩ := gd_some hf
  obtain ⟨t12, e13, hf⟩ := lt_some hf
  refine ev_newa_int w59 h11 d9_init_15 (ev_nmR e10 (ev_nmS e13 ?_))
  obtain ⟨t14, e15, hf⟩ := lt_some hf
  refine ev_putRF cls9 (j := 1) (by decide) rfl (ne_new e10) rfl w50 rfl rfl (mono_ob (mono_eN e13) (mono_ob (mono_eR e8) h6)) (fun _ => ⟨rfl, rfl⟩) d9_init_17 (ev_nmS e15 ?_)
  obtain ⟨-, rfl⟩ := ret_some hf
  exact ev_vret rfl d9_init_20
abbrev m8_init : MD := ("MillBoats$River", ⟨"MillBoats$River", "<init>", "()V"⟩, prog_10_method_1_code, 2, (none : Option Jvm.ClassFile.FieldType))
theorem k8_init : okY m8_init.2.1 0 := ⟨by decide +kernel, by decide +kernel, by decide +kernel⟩
def f8_init_p75 : Nat → St → Nat → Int32 → Option (Unit × St)
  | 0, _, _, _ => none
  | n + 1, σ, v0, v1 =>
  (if v1 < (6 : Int32) then
  gd (ob σ v0 8) (
  lt (sR σ v0 2) fun b59 => (
  gd (nz b59) (
  lt (sN σ + 1) fun b62 => (
  lt (wN σ 0 7) fun t64 => (
  bd (f0_init t64 b62) fun r66 t67 => (
  gd (ob t67 b59 17) (
  gd (inb t67 b59 v1) (
  gd (ob t67 b62 0) (
  lt (wR t67 b59 (ix v1) b62) fun t73 => (
  lt (v1 + (1 : Int32)) fun y75 => (
  (f8_init_p75 n) t73 v0 y75)))))))))))
  else
  gd (ob σ v0 8) (
  lt (sR σ v0 3) fun b78 => (
  gd (nz b78) (
  bd (fJ7_fill_53178 σ b78 (-1 : Int32)) fun r81 t82 => (
  some ((), t82))))))
set_option maxRecDepth 20000 in
theorem s8_init_p75 : ∀ (n : Nat) (σ : St) (v0 : Nat) (v1 : Int32) (r : Unit) (τ : St), f8_init_p75 n σ v0 v1 = some (r, τ) → Ev 3 m8_init 75 [(0, .ref v0), (1, .int v1)] [] σ none τ := by
  intro n
  induction n with
  | zero =>
    intro σ v0 v1 r τ hf
    cases hf
  | succ n ih =>
    intro σ v0 v1 r τ hf
    rw [f8_init_p75] at hf
    refine ev_iload_n (j := 1) (i := 1) (q := 1) rfl rfl d8_init_75 ?_
    refine ev_bipush cb_6 d8_init_76 ?_
    rcases ite_some hf with ⟨c57, hf⟩ | ⟨c57, hf⟩
    · refine ev_icmp_ge_P (tgt := 100) c57 (by decide) d8_init_78 ?_
      refine ev_aload_n (j := 0) (i := 0) (q := 0) rfl rfl d8_init_81 ?_
      obtain ⟨h58, hf⟩ := gd_some hf
      obtain ⟨b59, e60, hf⟩ := lt_some hf
      obtain ⟨h61, hf⟩ := gd_some hf
      refine ev_getRb cls8 (j := 2) (by decide) rfl w108 h58 e60 (nz_ne h61) d8_init_82 ?_
      refine ev_iload_n (j := 1) (i := 1) (q := 1) rfl rfl d8_init_85 ?_
      obtain ⟨b62, e63, hf⟩ := lt_some hf
      obtain ⟨t64, e65, hf⟩ := lt_some hf
      refine ev_new cls0 (by decide) w42 w60 w4 d8_init_86 (ev_nmR e63 (ev_nmS e65 ?_))
      refine ev_dup rfl d8_init_89 ?_
      obtain ⟨r66, t67, k68, hf⟩ := bd_some hf
      have q69 := s0_init _ _ _ _ k68
      refine ev_callIN (vs := []) (sk := [.ref b62, .int v1, .ref b59]) q69 (by decide) (Nat.le_of_ble_eq_true rfl) w61 w62 rfl w4 w63 rfl k0_init rfl (Nat.le_of_ble_eq_true rfl) d8_init_90 ?_
      obtain ⟨h70, hf⟩ := gd_some hf
      obtain ⟨h71, hf⟩ := gd_some hf
      obtain ⟨h72, hf⟩ := gd_some hf
      obtain ⟨t73, e74, hf⟩ := lt_some hf
      refine ev_qast cls0 (kd := 17) (by decide) (by decide) rfl h70 h71 h72 d8_init_93 (ev_nmS e74 ?_)
      obtain ⟨y75, e76, hf⟩ := lt_some hf
      refine ev_iinc (lv2 := [(1, .int y75), (0, .ref v0)]) (i := 1) (q := 1) (v := y75) (n := 1) rfl (by rw [ci_1]; exact e76.symm) (by decide) rfl d8_init_94 ?_
      refine ev_goto (tgt := 75) (by decide) d8_init_97 ?_
      exact Ev.sub [1, 0] rfl (ih _ _ _ _ _ hf)
    · refine ev_icmp_ge_Q (tgt := 100) c57 (by decide) d8_init_78 ?_
      refine ev_aload_n (j := 0) (i := 0) (q := 0) rfl rfl d8_init_100 ?_
      obtain ⟨h77, hf⟩ := gd_some hf
      obtain ⟨b78, e79, hf⟩ := lt_some hf
      obtain ⟨h80, hf⟩ := gd_some hf
      refine ev_getRb cls8 (j := 3) (by decide) rfl w114 h77 e79 (nz_ne h80) d8_init_101 ?_
      refine ev_iconst ci_m1 d8_init_104 ?_
      obtain ⟨r81, t82, k83, hf⟩ := bd_some hf
      have q84 := sJ7_fill_53178 _ _ _ _ _ k83
      refine ev_callS (vs := [.ref b78, .int (-1 : Int32)]) (sk := []) q84 (by decide) (Nat.le_of_ble_eq_true rfl) w100 w101 w5 w102 kJ7_fill_53178 rfl (Nat.le_of_ble_eq_true rfl) d8_init_105 ?_
      obtain ⟨-, rfl⟩ := ret_some hf
      exact ev_vret rfl d8_init_108
def f8_init_p48 : Nat → St → Nat → Int32 → Option (Unit × St)
  | 0, _, _, _ => none
  | n + 1, σ, v0, v1 =>
  (if v1 < (7 : Int32) then
  gd (ob σ v0 8) (
  lt (sR σ v0 1) fun b39 => (
  gd (nz b39) (
  lt (sN σ + 1) fun b42 => (
  lt (wN σ 9 3) fun t44 => (
  bd (f9_init t44 b42) fun r46 t47 => (
  gd (ob t47 b39 19) (
  gd (inb t47 b39 v1) (
  gd (ob t47 b42 9) (
  lt (wR t47 b39 (ix v1) b42) fun t53 => (
  lt (v1 + (1 : Int32)) fun y55 => (
  (f8_init_p48 n) t53 v0 y55)))))))))))
  else
  f8_init_p75 FU σ v0 (0 : Int32))
set_option maxRecDepth 20000 in
theorem s8_init_p48 : ∀ (n : Nat) (σ : St) (v0 : Nat) (v1 : Int32) (r : Unit) (τ : St), f8_init_p48 n σ v0 v1 = some (r, τ) → Ev 3 m8_init 48 [(0, .ref v0), (1, .int v1)] [] σ none τ := by
  intro n
  induction n with
  | zero =>
    intro σ v0 v1 r τ hf
    cases hf
  | succ n ih =>
    intro σ v0 v1 r τ hf
    rw [f8_init_p48] at hf
    refine ev_iload_n (j := 1) (i := 1) (q := 1) rfl rfl d8_init_48 ?_
    refine ev_bipush cb_7 d8_init_49 ?_
    rcases ite_some hf with ⟨c37, hf⟩ | ⟨c37, hf⟩
    · refine ev_icmp_ge_P (tgt := 73) c37 (by decide) d8_init_51 ?_
      refine ev_aload_n (j := 0) (i := 0) (q := 0) rfl rfl d8_init_54 ?_
      obtain ⟨h38, hf⟩ := gd_some hf
      obtain ⟨b39, e40, hf⟩ := lt_some hf
      obtain ⟨h41, hf⟩ := gd_some hf
      refine ev_getRb cls8 (j := 1) (by decide) rfl w105 h38 e40 (nz_ne h41) d8_init_55 ?_
      refine ev_iload_n (j := 1) (i := 1) (q := 1) rfl rfl d8_init_58 ?_
      obtain ⟨b42, e43, hf⟩ := lt_some hf
      obtain ⟨t44, e45, hf⟩ := lt_some hf
      refine ev_new cls9 (by decide) w40 w44 w3 d8_init_59 (ev_nmR e43 (ev_nmS e45 ?_))
      refine ev_dup rfl d8_init_62 ?_
      obtain ⟨r46, t47, k48, hf⟩ := bd_some hf
      have q49 := s9_init _ _ _ _ k48
      refine ev_callIN (vs := []) (sk := [.ref b42, .int v1, .ref b39]) q49 (by decide) (Nat.le_of_ble_eq_true rfl) w45 w46 rfl w3 w47 rfl k9_init rfl (Nat.le_of_ble_eq_true rfl) d8_init_63 ?_
      obtain ⟨h50, hf⟩ := gd_some hf
      obtain ⟨h51, hf⟩ := gd_some hf
      obtain ⟨h52, hf⟩ := gd_some hf
      obtain ⟨t53, e54, hf⟩ := lt_some hf
      refine ev_qast cls9 (kd := 19) (by decide) (by decide) rfl h50 h51 h52 d8_init_66 (ev_nmS e54 ?_)
      obtain ⟨y55, e56, hf⟩ := lt_some hf
      refine ev_iinc (lv2 := [(1, .int y55), (0, .ref v0)]) (i := 1) (q := 1) (v := y55) (n := 1) rfl (by rw [ci_1]; exact e56.symm) (by decide) rfl d8_init_67 ?_
      refine ev_goto (tgt := 48) (by decide) d8_init_70 ?_
      exact Ev.sub [1, 0] rfl (ih _ _ _ _ _ hf)
    · refine ev_icmp_ge_Q (tgt := 73) c37 (by decide) d8_init_51 ?_
      refine ev_iconst ci_0 d8_init_73 ?_
      refine ev_istore_n (lv2 := [(1, .int (0 : Int32)), (0, .ref v0)]) (j := 1) (i := 1) rfl (by decide) rfl d8_init_74 ?_
      exact Ev.sub [1, 0] rfl (s8_init_p75 FU _ _ _ _ _ hf)
def f8_init (σ : St) (v0 : Nat) : Option (Unit × St) :=
  lt (sN σ + 1) fun b1 => (
  gd (szOk (72 : Int32)) (
  lt (wN σ 14 (ix (72 : Int32))) fun t4 => (
  gd (ob t4 v0 8) (
  lt (wR t4 v0 0 b1) fun t7 => (
  lt (sN t7 + 1) fun b9 => (
  gd (szOk (7 : Int32)) (
  lt (wN t7 19 (ix (7 : Int32))) fun t12 => (
  lt (wR t12 v0 1 b9) fun t14 => (
  lt (sN t14 + 1) fun b16 => (
  gd (szOk (6 : Int32)) (
  lt (wN t14 17 (ix (6 : Int32))) fun t19 => (
  lt (wR t19 v0 2 b16) fun t21 => (
  lt (sN t21 + 1) fun b23 => (
  gd (szOk (6 : Int32)) (
  lt (wN t21 14 (ix (6 : Int32))) fun t26 => (
  lt (wR t26 v0 3 b23) fun t28 => (
  lt (sN t28 + 1) fun b30 => (
  gd (szOk (6 : Int32)) (
  lt (wN t28 14 (ix (6 : Int32))) fun t33 => (
  lt (wR t33 v0 4 b30) fun t35 => (
  f8_init_p48 FU t35 v0 (0 : Int32))))))))))))))))))))))
set_option maxRecDepth 50000 in
theorem s8_init : ∀ (σ : St) (v0 : Nat) (r : Unit) (τ : St), f8_init σ v0 = some (r, τ) → Call 3 m8_init [.ref v0] σ none τ := by
  intro σ v0 r τ hf
  unfold f8_init at hf
  refine Call.of (by decide +kernel) rfl (Nat.le_of_ble_eq_true rfl) ?_
  refine ev_aload_n (j := 0) (i := 0) (q := 0) rfl rfl d8_init_0 ?_
  refine ev_objInit w39 w32 w33 (by decide) (Nat.le_of_ble_eq_true rfl) d8_init_1 ?_
  refine ev_aload_n (j := 0) (i := 0) (q := 0) rfl rfl d8_init_4 ?_
  refine ev_bipush cb_72 d8_init_5 ?_
  obtain ⟨b1, e2, hf⟩ := lt_some hf
  obtain ⟨h3, hf⟩ := gd_some hf
  obtain ⟨t4, e5, hf⟩ := lt_some hf
  refine ev_newa_int w59 h3 d8_init_7 (ev_nmR e2 (ev_nmS e5 ?_))
  obtain ⟨h6, hf⟩ := gd_some hf
  obtain ⟨t7, e8, hf⟩ := lt_some hf
  refine ev_putRF cls8 (j := 0) (by decide) rfl (ne_new e2) rfl w103 rfl rfl h6 (fun _ => ⟨rfl, rfl⟩) d8_init_9 (ev_nmS e8 ?_)
  refine ev_aload_n (j := 0) (i := 0) (q := 0) rfl rfl d8_init_12 ?_
  refine ev_bipush cb_7 d8_init_13 ?_
  obtain ⟨b9, e10, hf⟩ := lt_some hf
  obtain ⟨h11, hf⟩ := gd_some hf
  obtain ⟨t12, e13, hf⟩ := lt_some hf
  refine ev_anew (kd := 19) (by decide) (by decide) rfl w40 ao19 h11 d8_init_15 (ev_nmR e10 (ev_nmS e13 ?_))
  obtain ⟨t14, e15, hf⟩ := lt_some hf
  refine ev_putRF cls8 (j := 1) (by decide) rfl (ne_new e10) rfl w105 rfl rfl (mono_ob (mono_eN e13) (mono_ob (mono_eR e8) h6)) (fun _ => ⟨rfl, rfl⟩) d8_init_18 (ev_nmS e15 ?_)
  refine ev_aload_n (j := 0) (i := 0) (q := 0) rfl rfl d8_init_21 ?_
  refine ev_bipush cb_6 d8_init_22 ?_
  obtain ⟨b16, e17, hf⟩ := lt_some hf
  obtain ⟨h18, hf⟩ := gd_some hf
  obtain ⟨t19, e20, hf⟩ := lt_some hf
  refine ev_anew (kd := 17) (by decide) (by decide) rfl w42 ao17 h18 d8_init_24 (ev_nmR e17 (ev_nmS e20 ?_))
  obtain ⟨t21, e22, hf⟩ := lt_some hf
  refine ev_putRF cls8 (j := 2) (by decide) rfl (ne_new e17) rfl w108 rfl rfl (mono_ob (mono_eN e20) (mono_ob (mono_eR e15) (mono_ob (mono_eN e13) (mono_ob (mono_eR e8) h6)))) (fun _ => ⟨rfl, rfl⟩) d8_init_27 (ev_nmS e22 ?_)
  refine ev_aload_n (j := 0) (i := 0) (q := 0) rfl rfl d8_init_30 ?_
  refine ev_bipush cb_6 d8_init_31 ?_
  obtain ⟨b23, e24, hf⟩ := lt_some hf
  obtain ⟨h25, hf⟩ := gd_some hf
  obtain ⟨t26, e27, hf⟩ := lt_some hf
  refine ev_newa_int w59 h25 d8_init_33 (ev_nmR e24 (ev_nmS e27 ?_))
  obtain ⟨t28, e29, hf⟩ := lt_some hf
  refine ev_putRF cls8 (j := 3) (by decide) rfl (ne_new e24) rfl w114 rfl rfl (mono_ob (mono_eN e27) (mono_ob (mono_eR e22) (mono_ob (mono_eN e20) (mono_ob (mono_eR e15) (mono_ob (mono_eN e13) (mono_ob (mono_eR e8) h6)))))) (fun _ => ⟨rfl, rfl⟩) d8_init_35 (ev_nmS e29 ?_)
  refine ev_aload_n (j := 0) (i := 0) (q := 0) rfl rfl d8_init_38 ?_
  refine ev_bipush cb_6 d8_init_39 ?_
  obtain ⟨b30, e31, hf⟩ := lt_some hf
  obtain ⟨h32, hf⟩ := gd_some hf
  obtain ⟨t33, e34, hf⟩ := lt_some hf
  refine ev_newa_int w59 h32 d8_init_41 (ev_nmR e31 (ev_nmS e34 ?_))
  obtain ⟨t35, e36, hf⟩ := lt_some hf
  refine ev_putRF cls8 (j := 4) (by decide) rfl (ne_new e31) rfl w120 rfl rfl (mono_ob (mono_eN e34) (mono_ob (mono_eR e29) (mono_ob (mono_eN e27) (mono_ob (mono_eR e22) (mono_ob (mono_eN e20) (mono_ob (mono_eR e15) (mono_ob (mono_eN e13) (mono_ob (mono_eR e8) h6)))))))) (fun _ => ⟨rfl, rfl⟩) d8_init_43 (ev_nmS e36 ?_)
  refine ev_iconst ci_0 d8_init_46 ?_
  refine ev_istore_n (lv2 := [(1, .int (0 : Int32)), (0, .ref v0)]) (j := 1) (i := 1) rfl (by decide) rfl d8_init_47 ?_
  exact Ev.sub [1, 0] rfl (s8_init_p48 FU _ _ _ _ _ hf)
abbrev m8_launch : MD := ("MillBoats$River", ⟨"MillBoats$River", "launch", "(III)I"⟩, prog_10_method_4_code, 5, (some Jvm.ClassFile.FieldType.int))
theorem k8_launch : okY m8_launch.2.1 3 := ⟨by decide +kernel, by decide +kernel, by decide +kernel⟩
def f8_launch (σ : St) (v0 : Nat) (v1 : Int32) (v2 : Int32) (v3 : Int32) : Option (Int32 × St) :=
  gd (ob σ v0 8) (
  (if (sI σ v0 5) < (6 : Int32) then
  lt (sR σ v0 2) fun b3 => (
  gd (nz b3) (
  gd (ob σ b3 17) (
  gd (inb σ b3 (sI σ v0 5)) (
  lt (sR σ b3 (ix (sI σ v0 5))) fun b8 => (
  gd (nz b8) (
  gd (ob σ b8 0) (
  lt (wI σ b8 0 v1) fun t12 => (
  lt (wI t12 b8 1 v2) fun t14 => (
  lt (wI t14 b8 2 v3) fun t16 => (
  lt (wI t16 v0 5 ((sI t16 v0 5) + (1 : Int32))) fun t18 => (
  some ((sI t18 v0 5) - (1 : Int32), t18))))))))))))
  else
  some ((-1 : Int32), σ)))
set_option maxRecDepth 50000 in
theorem s8_launch : ∀ (σ : St) (v0 : Nat) (v1 : Int32) (v2 : Int32) (v3 : Int32) (r : Int32) (τ : St), f8_launch σ v0 v1 v2 v3 = some (r, τ) → Call 2 m8_launch [.ref v0, .int v1, .int v2, .int v3] σ (some (.int r)) τ := by
  intro σ v0 v1 v2 v3 r τ hf
  unfold f8_launch at hf
  refine Call.of (by decide +kernel) rfl (Nat.le_of_ble_eq_true rfl) ?_
  refine ev_aload_n (j := 0) (i := 0) (q := 0) rfl rfl d8_launch_0 ?_
  obtain ⟨h1, hf⟩ := gd_some hf
  refine ev_getI cls8 (j := 5) (by decide) rfl w121 h1 d8_launch_1 ?_
  refine ev_bipush cb_6 d8_launch_4 ?_
  rcases ite_some hf with ⟨c2, hf⟩ | ⟨c2, hf⟩
  · refine ev_icmp_lt_P (tgt := 11) c2 (by decide) d8_launch_6 ?_
    refine ev_aload_n (j := 0) (i := 0) (q := 0) rfl rfl d8_launch_11 ?_
    obtain ⟨b3, e4, hf⟩ := lt_some hf
    obtain ⟨h5, hf⟩ := gd_some hf
    refine ev_getRb cls8 (j := 2) (by decide) rfl w108 h1 e4 (nz_ne h5) d8_launch_12 ?_
    refine ev_aload_n (j := 0) (i := 0) (q := 0) rfl rfl d8_launch_15 ?_
    refine ev_getI cls8 (j := 5) (by decide) rfl w121 h1 d8_launch_16 ?_
    obtain ⟨h6, hf⟩ := gd_some hf
    obtain ⟨h7, hf⟩ := gd_some hf
    obtain ⟨b8, e9, hf⟩ := lt_some hf
    obtain ⟨h10, hf⟩ := gd_some hf
    refine ev_qaldb (kd := 17) (by decide) (by decide) rfl h6 h7 e9 (nz_ne h10) d8_launch_19 ?_
    refine ev_astore (lv2 := [(4, .ref b8), (0, .ref v0), (1, .int v1), (2, .int v2), (3, .int v3)]) (i := 4) (by decide) rfl d8_launch_20 ?_
    refine ev_aload (i := 4) (q := 0) rfl d8_launch_22 ?_
    refine ev_iload_n (j := 1) (i := 1) (q := 2) rfl rfl d8_launch_24 ?_
    obtain ⟨h11, hf⟩ := gd_some hf
    obtain ⟨t12, e13, hf⟩ := lt_some hf
    refine ev_putIN cls0 (j := 0) (by decide) rfl rfl w65 h11 (fun _ => ⟨rfl, rfl⟩) d8_launch_25 (ev_nmS e13 ?_)
    refine ev_aload (i := 4) (q := 0) rfl d8_launch_28 ?_
    refine ev_iload_n (j := 2) (i := 2) (q := 3) rfl rfl d8_launch_30 ?_
    obtain ⟨t14, e15, hf⟩ := lt_some hf
    refine ev_putIN cls0 (j := 1) (by decide) rfl rfl w68 (mono_ob (mono_eI e13) h11) (fun _ => ⟨rfl, rfl⟩) d8_launch_31 (ev_nmS e15 ?_)
    refine ev_aload (i := 4) (q := 0) rfl d8_launch_34 ?_
    refine ev_iload_n (j := 3) (i := 3) (q := 4) rfl rfl d8_launch_36 ?_
    obtain ⟨t16, e17, hf⟩ := lt_some hf
    refine ev_putIN cls0 (j := 2) (by decide) rfl rfl w71 (mono_ob (mono_eI e15) (mono_ob (mono_eI e13) h11)) (fun _ => ⟨rfl, rfl⟩) d8_launch_37 (ev_nmS e17 ?_)
    refine ev_aload_n (j := 0) (i := 0) (q := 1) rfl rfl d8_launch_40 ?_
    refine ev_dup rfl d8_launch_41 ?_
    refine ev_getI cls8 (j := 5) (by decide) rfl w121 (mono_ob (mono_eI e17) (mono_ob (mono_eI e15) (mono_ob (mono_eI e13) h1))) d8_launch_42 ?_
    refine ev_iconst ci_1 d8_launch_45 ?_
    refine ev_iadd d8_launch_46 ?_
    obtain ⟨t18, e19, hf⟩ := lt_some hf
    refine ev_putI cls8 (j := 5) (by decide) rfl rfl w121 (mono_ob (mono_eI e17) (mono_ob (mono_eI e15) (mono_ob (mono_eI e13) h1))) (fun _ => ⟨rfl, rfl⟩) d8_launch_47 (ev_nmS e19 ?_)
    refine ev_aload_n (j := 0) (i := 0) (q := 1) rfl rfl d8_launch_50 ?_
    refine ev_getI cls8 (j := 5) (by decide) rfl w121 (mono_ob (mono_eI e19) (mono_ob (mono_eI e17) (mono_ob (mono_eI e15) (mono_ob (mono_eI e13) h1)))) d8_launch_51 ?_
    refine ev_iconst ci_1 d8_launch_54 ?_
    refine ev_isub d8_launch_55 ?_
    obtain ⟨rfl, rfl⟩ := ret_some hf
    exact ev_iret rfl d8_launch_56
  · refine ev_icmp_lt_Q (tgt := 11) c2 (by decide) d8_launch_6 ?_
    refine ev_iconst ci_m1 d8_launch_9 ?_
    obtain ⟨rfl, rfl⟩ := ret_some hf
    exact ev_iret rfl d8_launch_10
abbrev m8_powerWithout : MD := ("MillBoats$River", ⟨"MillBoats$River", "powerWithout", "(III)I"⟩, prog_10_method_12_code, 4, (some Jvm.ClassFile.FieldType.int))
theorem k8_powerWithout : okY m8_powerWithout.2.1 3 := ⟨by decide +kernel, by decide +kernel, by decide +kernel⟩
def f8_powerWithout (σ : St) (v0 : Nat) (v1 : Int32) (v2 : Int32) (v3 : Int32) : Option (Int32 × St) :=
  gd (ob σ v0 8) (
  lt (sR σ v0 3) fun b2 => (
  gd (nz b2) (
  lt (sR σ v0 4) fun b5 => (
  gd (nz b5) (
  gd (ob σ b2 14) (
  gd (ob σ b5 14) (
  gd (cpOk σ b2 (0 : Int32) b5 (0 : Int32) (6 : Int32)) (
  lt (wCp σ b2 (ix (0 : Int32)) b5 (ix (0 : Int32)) (ix (6 : Int32))) fun t11 => (
  gd (inb t11 b5 v2) (
  lt (wI t11 b5 (ix v2) (-1 : Int32)) fun t14 => (
  bd (f8_powerHad t14 v0 v1 b5 v3) fun r16 t17 => (
  some (r16, t17)))))))))))))
set_option maxRecDepth 50000 in
theorem s8_powerWithout : ∀ (σ : St) (v0 : Nat) (v1 : Int32) (v2 : Int32) (v3 : Int32) (r : Int32) (τ : St), f8_powerWithout σ v0 v1 v2 v3 = some (r, τ) → Call 6 m8_powerWithout [.ref v0, .int v1, .int v2, .int v3] σ (some (.int r)) τ := by
  intro σ v0 v1 v2 v3 r τ hf
  unfold f8_powerWithout at hf
  refine Call.of (by decide +kernel) rfl (Nat.le_of_ble_eq_true rfl) ?_
  refine ev_aload_n (j := 0) (i := 0) (q := 0) rfl rfl d8_powerWithout_0 ?_
  obtain ⟨h1, hf⟩ := gd_some hf
  obtain ⟨b2, e3, hf⟩ := lt_some hf
  obtain ⟨h4, hf⟩ := gd_some hf
  refine ev_getRb cls8 (j := 3) (by decide) rfl w114 h1 e3 (nz_ne h4) d8_powerWithout_1 ?_
  refine ev_iconst ci_0 d8_powerWithout_4 ?_
  refine ev_aload_n (j := 0) (i := 0) (q := 0) rfl rfl d8_powerWithout_5 ?_
  obtain ⟨b5, e6, hf⟩ := lt_some hf
  obtain ⟨h7, hf⟩ := gd_some hf
  refine ev_getRb cls8 (j := 4) (by decide) rfl w120 h1 e6 (nz_ne h7) d8_powerWithout_6 ?_
  refine ev_iconst ci_0 d8_powerWithout_9 ?_
  refine ev_bipush cb_6 d8_powerWithout_10 ?_
  obtain ⟨h8, hf⟩ := gd_some hf
  obtain ⟨h9, hf⟩ := gd_some hf
  obtain ⟨h10, hf⟩ := gd_some hf
  obtain ⟨t11, e12, hf⟩ := lt_some hf
  refine ev_copyi w654 w656 w655 w20 h8 h9 h10 (by decide) (Nat.le_of_ble_eq_true rfl) d8_powerWithout_12 (ev_nmS e12 ?_)
  refine ev_aload_n (j := 0) (i := 0) (q := 0) rfl rfl d8_powerWithout_15 ?_
  refine ev_getRb cls8 (j := 4) (by decide) rfl w120 (mono_ob (mono_eC e12) h1) (tr_C e12 e6) (nz_ne h7) d8_powerWithout_16 ?_
  refine ev_iload_n (j := 2) (i := 2) (q := 2) rfl rfl d8_powerWithout_19 ?_
  refine ev_iconst ci_m1 d8_powerWithout_20 ?_
  obtain ⟨h13, hf⟩ := gd_some hf
  obtain ⟨t14, e15, hf⟩ := lt_some hf
  refine ev_iast (mono_ob (mono_eC e12) h9) h13 d8_powerWithout_21 (ev_nmS e15 ?_)
  refine ev_aload_n (j := 0) (i := 0) (q := 0) rfl rfl d8_powerWithout_22 ?_
  refine ev_iload_n (j := 1) (i := 1) (q := 1) rfl rfl d8_powerWithout_23 ?_
  refine ev_aload_n (j := 0) (i := 0) (q := 0) rfl rfl d8_powerWithout_24 ?_
  refine ev_getRb cls8 (j := 4) (by decide) rfl w120 (mono_ob (mono_eI e15) (mono_ob (mono_eC e12) h1)) (tr_I e15 (tr_C e12 e6)) (nz_ne h7) d8_powerWithout_25 ?_
  refine ev_iload_n (j := 3) (i := 3) (q := 3) rfl rfl d8_powerWithout_28 ?_
  obtain ⟨r16, t17, k18, hf⟩ := bd_some hf
  have q19 := s8_powerHad _ _ _ _ _ _ _ k18
  refine ev_callV (vs := [.int v1, .ref b5, .int v3]) (sk := []) cls8 (mono_ob (mono_eI e15) (mono_ob (mono_eC e12) h1)) q19 (by decide) (Nat.le_of_ble_eq_true rfl) w657 w619 w620 w2 w621 k8_powerHad rfl (Nat.le_of_ble_eq_true rfl) d8_powerWithout_29 ?_
  obtain ⟨rfl, rfl⟩ := ret_some hf
  exact ev_iret rfl d8_powerWithout_32
abbrev mJ6_bitCount_0f7a4 : MD := ("java/lang/Integer", ⟨"java/lang/Integer", "bitCount", "(I)I"⟩, prog_19_method_49_code, 1, (some Jvm.ClassFile.FieldType.int))
theorem kJ6_bitCount_0f7a4 : okY mJ6_bitCount_0f7a4.2.1 1 := ⟨by decide +kernel, by decide +kernel, by decide +kernel⟩
def fJ6_bitCount_0f7a4 (σ : St) (v0 : Int32) : Option (Int32 × St) :=
  lt (v0 - (((v0.toUInt32 >>> ((1 : Int32).toUInt32 &&& Int32.toUInt32 31)).toInt32) &&& (1431655765 : Int32))) fun y1 => (
  lt ((y1 &&& (858993459 : Int32)) + (((y1.toUInt32 >>> ((2 : Int32).toUInt32 &&& Int32.toUInt32 31)).toInt32) &&& (858993459 : Int32))) fun y3 => (
  lt ((y3 + ((y3.toUInt32 >>> ((4 : Int32).toUInt32 &&& Int32.toUInt32 31)).toInt32)) &&& (252645135 : Int32)) fun y5 => (
  lt (y5 + ((y5.toUInt32 >>> ((8 : Int32).toUInt32 &&& Int32.toUInt32 31)).toInt32)) fun y7 => (
  lt (y7 + ((y7.toUInt32 >>> ((16 : Int32).toUInt32 &&& Int32.toUInt32 31)).toInt32)) fun y9 => (
  some (y9 &&& (63 : Int32), σ))))))
set_option maxRecDepth 50000 in
theorem sJ6_bitCount_0f7a4 : ∀ (σ : St) (v0 : Int32) (r : Int32) (τ : St), fJ6_bitCount_0f7a4 σ v0 = some (r, τ) → Call 2 mJ6_bitCount_0f7a4 [.int v0] σ (some (.int r)) τ := by
  intro σ v0 r τ hf
  unfold fJ6_bitCount_0f7a4 at hf
  refine Call.of (by decide +kernel) rfl (Nat.le_of_ble_eq_true rfl) ?_
  refine ev_iload_n (j := 0) (i := 0) (q := 0) rfl rfl dJ6_bitCount_0f7a4_0 ?_
  refine ev_iload_n (j := 0) (i := 0) (q := 0) rfl rfl dJ6_bitCount_0f7a4_1 ?_
  refine ev_iconst ci_1 dJ6_bitCount_0f7a4_2 ?_
  refine ev_iushr dJ6_bitCount_0f7a4_3 ?_
  refine ev_ldcw w1023 dJ6_bitCount_0f7a4_4 ?_
  refine ev_iand dJ6_bitCount_0f7a4_7 ?_
  refine ev_isub dJ6_bitCount_0f7a4_8 ?_
  obtain ⟨y1, e2, hf⟩ := lt_some hf
  refine ev_nmI e2 ?_
  refine ev_istore_n (lv2 := [(0, .int y1)]) (j := 0) (i := 0) rfl (by decide) rfl dJ6_bitCount_0f7a4_9 ?_
  refine ev_iload_n (j := 0) (i := 0) (q := 0) rfl rfl dJ6_bitCount_0f7a4_10 ?_
  refine ev_ldcw w1024 dJ6_bitCount_0f7a4_11 ?_
  refine ev_iand dJ6_bitCount_0f7a4_14 ?_
  refine ev_iload_n (j := 0) (i := 0) (q := 0) rfl rfl dJ6_bitCount_0f7a4_15 ?_
  refine ev_iconst ci_2 dJ6_bitCount_0f7a4_16 ?_
  refine ev_iushr dJ6_bitCount_0f7a4_17 ?_
  refine ev_ldcw w1024 dJ6_bitCount_0f7a4_18 ?_
  refine ev_iand dJ6_bitCount_0f7a4_21 ?_
  refine ev_iadd dJ6_bitCount_0f7a4_22 ?_
  obtain ⟨y3, e4, hf⟩ := lt_some hf
  refine ev_nmI e4 ?_
  refine ev_istore_n (lv2 := [(0, .int y3)]) (j := 0) (i := 0) rfl (by decide) rfl dJ6_bitCount_0f7a4_23 ?_
  refine ev_iload_n (j := 0) (i := 0) (q := 0) rfl rfl dJ6_bitCount_0f7a4_24 ?_
  refine ev_iload_n (j := 0) (i := 0) (q := 0) rfl rfl dJ6_bitCount_0f7a4_25 ?_
  refine ev_iconst ci_4 dJ6_bitCount_0f7a4_26 ?_
  refine ev_iushr dJ6_bitCount_0f7a4_27 ?_
  refine ev_iadd dJ6_bitCount_0f7a4_28 ?_
  refine ev_ldcw w1025 dJ6_bitCount_0f7a4_29 ?_
  refine ev_iand dJ6_bitCount_0f7a4_32 ?_
  obtain ⟨y5, e6, hf⟩ := lt_some hf
  refine ev_nmI e6 ?_
  refine ev_istore_n (lv2 := [(0, .int y5)]) (j := 0) (i := 0) rfl (by decide) rfl dJ6_bitCount_0f7a4_33 ?_
  refine ev_iload_n (j := 0) (i := 0) (q := 0) rfl rfl dJ6_bitCount_0f7a4_34 ?_
  refine ev_iload_n (j := 0) (i := 0) (q := 0) rfl rfl dJ6_bitCount_0f7a4_35 ?_
  refine ev_bipush cb_8 dJ6_bitCount_0f7a4_36 ?_
  refine ev_iushr dJ6_bitCount_0f7a4_38 ?_
  refine ev_iadd dJ6_bitCount_0f7a4_39 ?_
  obtain ⟨y7, e8, hf⟩ := lt_some hf
  refine ev_nmI e8 ?_
  refine ev_istore_n (lv2 := [(0, .int y7)]) (j := 0) (i := 0) rfl (by decide) rfl dJ6_bitCount_0f7a4_40 ?_
  refine ev_iload_n (j := 0) (i := 0) (q := 0) rfl rfl dJ6_bitCount_0f7a4_41 ?_
  refine ev_iload_n (j := 0) (i := 0) (q := 0) rfl rfl dJ6_bitCount_0f7a4_42 ?_
  refine ev_bipush cb_16 dJ6_bitCount_0f7a4_43 ?_
  refine ev_iushr dJ6_bitCount_0f7a4_45 ?_
  refine ev_iadd dJ6_bitCount_0f7a4_46 ?_
  obtain ⟨y9, e10, hf⟩ := lt_some hf
  refine ev_nmI e10 ?_
  refine ev_istore_n (lv2 := [(0, .int y9)]) (j := 0) (i := 0) rfl (by decide) rfl dJ6_bitCount_0f7a4_47 ?_
  refine ev_iload_n (j := 0) (i := 0) (q := 0) rfl rfl dJ6_bitCount_0f7a4_48 ?_
  refine ev_bipush cb_63 dJ6_bitCount_0f7a4_49 ?_
  refine ev_iand dJ6_bitCount_0f7a4_51 ?_
  obtain ⟨rfl, rfl⟩ := ret_some hf
  exact ev_iret rfl dJ6_bitCount_0f7a4_52
abbrev m8_canPlan : MD := ("MillBoats$River", ⟨"MillBoats$River", "canPlan", "(I)Z"⟩, prog_10_method_15_code, 4, (some Jvm.ClassFile.FieldType.boolean))
theorem k8_canPlan : okY m8_canPlan.2.1 1 := ⟨by decide +kernel, by decide +kernel, by decide +kernel⟩
def f8_canPlan_p63 (K33 : St → Nat → Int32 → Int32 → Option (Int32 × St)) (σ : St) (v0 : Nat) (v1 : Int32) (v3 : Int32) : Option (Int32 × St) :=
  lt (v3 + (1 : Int32)) fun y19 => (
  K33 σ v0 v1 y19)
set_option maxRecDepth 20000 in
theorem s8_canPlan_p63 {K33 : St → Nat → Int32 → Int32 → Option (Int32 × St)} (hK33 : ∀ (σ : St) (v0 : Nat) (v1 : Int32) (v3 : Int32) (r : Int32) (τ : St), K33 σ v0 v1 v3 = some (r, τ) → Ev 3 m8_canPlan 33 [(0, .ref v0), (1, .int v1), (3, .int v3)] [] σ (some (.int r)) τ) : ∀ (σ : St) (v0 : Nat) (v1 : Int32) (v3 : Int32) (r : Int32) (τ : St), f8_canPlan_p63 K33 σ v0 v1 v3 = some (r, τ) → Ev 3 m8_canPlan 63 [(0, .ref v0), (1, .int v1), (3, .int v3)] [] σ (some (.int r)) τ := by
  intro σ v0 v1 v3 r τ hf
  unfold f8_canPlan_p63 at hf
  obtain ⟨y19, e20, hf⟩ := lt_some hf
  refine ev_iinc (lv2 := [(3, .int y19), (0, .ref v0), (1, .int v1)]) (i := 3) (q := 2) (v := y19) (n := 1) rfl (by rw [ci_1]; exact e20.symm) (by decide) rfl d8_canPlan_63 ?_
  refine ev_goto (tgt := 33) (by decide) d8_canPlan_66 ?_
  exact Ev.sub [1, 2, 0] rfl (hK33 _ _ _ _ _ _ hf)
def f8_canPlan_p33 : Nat → St → Nat → Int32 → Int32 → Option (Int32 × St)
  | 0, _, _, _, _ => none
  | n + 1, σ, v0, v1, v3 =>
  gd (ob σ v0 8) (
  (if v3 < (sI σ v0 5) then
  (if ((v1 >>> (v3 &&& 31)) &&& (1 : Int32)) = (1 : Int32) then
  lt (sR σ v0 3) fun b13 => (
  gd (nz b13) (
  gd (ob σ b13 14) (
  gd (inb σ b13 v3) (
  (if (sI σ b13 (ix v3)) = (-2 : Int32) then
  some ((0 : Int32), σ)
  else
  f8_canPlan_p63 (f8_canPlan_p33 n) σ v0 v1 v3)))))
  else
  f8_canPlan_p63 (f8_canPlan_p33 n) σ v0 v1 v3)
  else
  some ((1 : Int32), σ)))
set_option maxRecDepth 20000 in
theorem s8_canPlan_p33 : ∀ (n : Nat) (σ : St) (v0 : Nat) (v1 : Int32) (v3 : Int32) (r : Int32) (τ : St), f8_canPlan_p33 n σ v0 v1 v3 = some (r, τ) → Ev 3 m8_canPlan 33 [(0, .ref v0), (1, .int v1), (3, .int v3)] [] σ (some (.int r)) τ := by
  intro n
  induction n with
  | zero =>
    intro σ v0 v1 v3 r τ hf
    cases hf
  | succ n ih =>
    intro σ v0 v1 v3 r τ hf
    rw [f8_canPlan_p33] at hf
    refine ev_iload_n (j := 3) (i := 3) (q := 2) rfl rfl d8_canPlan_33 ?_
    refine ev_aload_n (j := 0) (i := 0) (q := 0) rfl rfl d8_canPlan_34 ?_
    obtain ⟨h10, hf⟩ := gd_some hf
    refine ev_getI cls8 (j := 5) (by decide) rfl w121 h10 d8_canPlan_35 ?_
    rcases ite_some hf with ⟨c11, hf⟩ | ⟨c11, hf⟩
    · refine ev_icmp_ge_P (tgt := 69) c11 (by decide) d8_canPlan_38 ?_
      refine ev_iload_n (j := 1) (i := 1) (q := 1) rfl rfl d8_canPlan_41 ?_
      refine ev_iload_n (j := 3) (i := 3) (q := 2) rfl rfl d8_canPlan_42 ?_
      refine ev_ishr d8_canPlan_43 ?_
      refine ev_iconst ci_1 d8_canPlan_44 ?_
      refine ev_iand d8_canPlan_45 ?_
      refine ev_iconst ci_1 d8_canPlan_46 ?_
      rcases ite_some hf with ⟨c12, hf⟩ | ⟨c12, hf⟩
      · refine ev_icmp_ne_P (tgt := 63) c12 (by decide) d8_canPlan_47 ?_
        refine ev_aload_n (j := 0) (i := 0) (q := 0) rfl rfl d8_canPlan_50 ?_
        obtain ⟨b13, e14, hf⟩ := lt_some hf
        obtain ⟨h15, hf⟩ := gd_some hf
        refine ev_getRb cls8 (j := 3) (by decide) rfl w114 h10 e14 (nz_ne h15) d8_canPlan_51 ?_
        refine ev_iload_n (j := 3) (i := 3) (q := 2) rfl rfl d8_canPlan_54 ?_
        obtain ⟨h16, hf⟩ := gd_some hf
        obtain ⟨h17, hf⟩ := gd_some hf
        refine ev_iald h16 h17 d8_canPlan_55 ?_
        refine ev_bipush cb_m2 d8_canPlan_56 ?_
        rcases ite_some hf with ⟨c18, hf⟩ | ⟨c18, hf⟩
        · refine ev_icmp_ne_P (tgt := 63) c18 (by decide) d8_canPlan_58 ?_
          refine ev_iconst ci_0 d8_canPlan_61 ?_
          obtain ⟨rfl, rfl⟩ := ret_some hf
          exact ev_zret rfl (by decide) d8_canPlan_62
        · refine ev_icmp_ne_Q (tgt := 63) c18 (by decide) d8_canPlan_58 ?_
          exact Ev.sub [0, 1, 2] rfl (s8_canPlan_p63 ih _ _ _ _ _ _ hf)
      · refine ev_icmp_ne_Q (tgt := 63) c12 (by decide) d8_canPlan_47 ?_
        exact Ev.sub [0, 1, 2] rfl (s8_canPlan_p63 ih _ _ _ _ _ _ hf)
    · refine ev_icmp_ge_Q (tgt := 69) c11 (by decide) d8_canPlan_38 ?_
      refine ev_iconst ci_1 d8_canPlan_69 ?_
      obtain ⟨rfl, rfl⟩ := ret_some hf
      exact ev_zret rfl (by decide) d8_canPlan_70
def f8_canPlan (σ : St) (v0 : Nat) (v1 : Int32) : Option (Int32 × St) :=
  bd (fJ6_bitCount_0f7a4 σ v1) fun r1 t2 => (
  (if v1 < (0 : Int32) then
  some ((0 : Int32), t2)
  else
  gd (ob t2 v0 8) (
  (if v1 < ((1 : Int32) <<< ((sI t2 v0 5) &&& 31)) then
  (if r1 < (1 : Int32) then
  some ((0 : Int32), t2)
  else
  (if r1 ≤ (3 : Int32) then
  f8_canPlan_p33 FU t2 v0 v1 (0 : Int32)
  else
  some ((0 : Int32), t2)))
  else
  some ((0 : Int32), t2)))))
set_option maxRecDepth 50000 in
theorem s8_canPlan : ∀ (σ : St) (v0 : Nat) (v1 : Int32) (r : Int32) (τ : St), f8_canPlan σ v0 v1 = some (r, τ) → Call 3 m8_canPlan [.ref v0, .int v1] σ (some (.int r)) τ := by
  intro σ v0 v1 r τ hf
  unfold f8_canPlan at hf
  refine Call.of (by decide +kernel) rfl (Nat.le_of_ble_eq_true rfl) ?_
  refine ev_iload_n (j := 1) (i := 1) (q := 1) rfl rfl d8_canPlan_0 ?_
  obtain ⟨r1, t2, k3, hf⟩ := bd_some hf
  have q4 := sJ6_bitCount_0f7a4 _ _ _ _ k3
  refine ev_callS (vs := [.int v1]) (sk := []) q4 (by decide) (Nat.le_of_ble_eq_true rfl) w1020 w1021 w21 w1022 kJ6_bitCount_0f7a4 rfl (Nat.le_of_ble_eq_true rfl) d8_canPlan_1 ?_
  refine ev_istore_n (lv2 := [(2, .int r1), (0, .ref v0), (1, .int v1)]) (j := 2) (i := 2) rfl (by decide) rfl d8_canPlan_4 ?_
  refine ev_iload_n (j := 1) (i := 1) (q := 2) rfl rfl d8_canPlan_5 ?_
  rcases ite_some hf with ⟨c5, hf⟩ | ⟨c5, hf⟩
  · refine ev_if_lt_P (tgt := 29) c5 (by decide) d8_canPlan_6 ?_
    refine ev_iconst ci_0 d8_canPlan_29 ?_
    obtain ⟨rfl, rfl⟩ := ret_some hf
    exact ev_zret rfl (by decide) d8_canPlan_30
  · refine ev_if_lt_Q (tgt := 29) c5 (by decide) d8_canPlan_6 ?_
    refine ev_iload_n (j := 1) (i := 1) (q := 2) rfl rfl d8_canPlan_9 ?_
    refine ev_iconst ci_1 d8_canPlan_10 ?_
    refine ev_aload_n (j := 0) (i := 0) (q := 1) rfl rfl d8_canPlan_11 ?_
    obtain ⟨h6, hf⟩ := gd_some hf
    refine ev_getI cls8 (j := 5) (by decide) rfl w121 h6 d8_canPlan_12 ?_
    refine ev_ishl d8_canPlan_15 ?_
    rcases ite_some hf with ⟨c7, hf⟩ | ⟨c7, hf⟩
    · refine ev_icmp_ge_P (tgt := 29) c7 (by decide) d8_canPlan_16 ?_
      refine ev_iload_n (j := 2) (i := 2) (q := 0) rfl rfl d8_canPlan_19 ?_
      refine ev_iconst ci_1 d8_canPlan_20 ?_
      rcases ite_some hf with ⟨c8, hf⟩ | ⟨c8, hf⟩
      · refine ev_icmp_lt_P (tgt := 29) c8 (by decide) d8_canPlan_21 ?_
        refine ev_iconst ci_0 d8_canPlan_29 ?_
        obtain ⟨rfl, rfl⟩ := ret_some hf
        exact ev_zret rfl (by decide) d8_canPlan_30
      · refine ev_icmp_lt_Q (tgt := 29) c8 (by decide) d8_canPlan_21 ?_
        refine ev_iload_n (j := 2) (i := 2) (q := 0) rfl rfl d8_canPlan_24 ?_
        refine ev_iconst ci_3 d8_canPlan_25 ?_
        rcases ite_some hf with ⟨c9, hf⟩ | ⟨c9, hf⟩
        · refine ev_icmp_le_P (tgt := 31) c9 (by decide) d8_canPlan_26 ?_
          refine ev_iconst ci_0 d8_canPlan_31 ?_
          refine ev_istore_n (lv2 := [(3, .int (0 : Int32)), (2, .int r1), (0, .ref v0), (1, .int v1)]) (j := 3) (i := 3) rfl (by decide) rfl d8_canPlan_32 ?_
          exact Ev.sub [2, 3, 0] rfl (s8_canPlan_p33 FU _ _ _ _ _ _ hf)
        · refine ev_icmp_le_Q (tgt := 31) c9 (by decide) d8_canPlan_26 ?_
          refine ev_iconst ci_0 d8_canPlan_29 ?_
          obtain ⟨rfl, rfl⟩ := ret_some hf
          exact ev_zret rfl (by decide) d8_canPlan_30
    · refine ev_icmp_ge_Q (tgt := 29) c7 (by decide) d8_canPlan_16 ?_
      refine ev_iconst ci_0 d8_canPlan_29 ?_
      obtain ⟨rfl, rfl⟩ := ret_some hf
      exact ev_zret rfl (by decide) d8_canPlan_30
abbrev m8_sacksGround : MD := ("MillBoats$River", ⟨"MillBoats$River", "sacksGround", "()I"⟩, prog_10_method_16_code, 3, (some Jvm.ClassFile.FieldType.int))
theorem k8_sacksGround : okY m8_sacksGround.2.1 0 := ⟨by decide +kernel, by decide +kernel, by decide +kernel⟩
def f8_sacksGround_p4 : Nat → St → Nat → Int32 → Int32 → Option (Int32 × St)
  | 0, _, _, _, _ => none
  | n + 1, σ, v0, v1, v2 =>
  gd (ob σ v0 8) (
  (if v2 < (sI σ v0 5) then
  lt (sR σ v0 2) fun b3 => (
  gd (nz b3) (
  gd (ob σ b3 17) (
  gd (inb σ b3 v2) (
  lt (sR σ b3 (ix v2)) fun b8 => (
  gd (nz b8) (
  gd (ob σ b8 0) (
  lt (v1 + (sI σ b8 4)) fun y12 => (
  lt (v2 + (1 : Int32)) fun y14 => (
  (f8_sacksGround_p4 n) σ v0 y12 y14)))))))))
  else
  some (v1, σ)))
set_option maxRecDepth 20000 in
theorem s8_sacksGround_p4 : ∀ (n : Nat) (σ : St) (v0 : Nat) (v1 : Int32) (v2 : Int32) (r : Int32) (τ : St), f8_sacksGround_p4 n σ v0 v1 v2 = some (r, τ) → Ev 2 m8_sacksGround 4 [(0, .ref v0), (1, .int v1), (2, .int v2)] [] σ (some (.int r)) τ := by
  intro n
  induction n with
  | zero =>
    intro σ v0 v1 v2 r τ hf
    cases hf
  | succ n ih =>
    intro σ v0 v1 v2 r τ hf
    rw [f8_sacksGround_p4] at hf
    refine ev_iload_n (j := 2) (i := 2) (q := 2) rfl rfl d8_sacksGround_4 ?_
    refine ev_aload_n (j := 0) (i := 0) (q := 0) rfl rfl d8_sacksGround_5 ?_
    obtain ⟨h1, hf⟩ := gd_some hf
    refine ev_getI cls8 (j := 5) (by decide) rfl w121 h1 d8_sacksGround_6 ?_
    rcases ite_some hf with ⟨c2, hf⟩ | ⟨c2, hf⟩
    · refine ev_icmp_ge_P (tgt := 30) c2 (by decide) d8_sacksGround_9 ?_
      refine ev_iload_n (j := 1) (i := 1) (q := 1) rfl rfl d8_sacksGround_12 ?_
      refine ev_aload_n (j := 0) (i := 0) (q := 0) rfl rfl d8_sacksGround_13 ?_
      obtain ⟨b3, e4, hf⟩ := lt_some hf
      obtain ⟨h5, hf⟩ := gd_some hf
      refine ev_getRb cls8 (j := 2) (by decide) rfl w108 h1 e4 (nz_ne h5) d8_sacksGround_14 ?_
      refine ev_iload_n (j := 2) (i := 2) (q := 2) rfl rfl d8_sacksGround_17 ?_
      obtain ⟨h6, hf⟩ := gd_some hf
      obtain ⟨h7, hf⟩ := gd_some hf
      obtain ⟨b8, e9, hf⟩ := lt_some hf
      obtain ⟨h10, hf⟩ := gd_some hf
      refine ev_qaldb (kd := 17) (by decide) (by decide) rfl h6 h7 e9 (nz_ne h10) d8_sacksGround_18 ?_
      obtain ⟨h11, hf⟩ := gd_some hf
      refine ev_getIN cls0 (j := 4) (by decide) rfl w77 h11 d8_sacksGround_19 ?_
      refine ev_iadd d8_sacksGround_22 ?_
      obtain ⟨y12, e13, hf⟩ := lt_some hf
      refine ev_nmI e13 ?_
      refine ev_istore_n (lv2 := [(1, .int y12), (0, .ref v0), (2, .int v2)]) (j := 1) (i := 1) rfl (by decide) rfl d8_sacksGround_23 ?_
      obtain ⟨y14, e15, hf⟩ := lt_some hf
      refine ev_iinc (lv2 := [(2, .int y14), (1, .int y12), (0, .ref v0)]) (i := 2) (q := 2) (v := y14) (n := 1) rfl (by rw [ci_1]; exact e15.symm) (by decide) rfl d8_sacksGround_24 ?_
      refine ev_goto (tgt := 4) (by decide) d8_sacksGround_27 ?_
      exact Ev.sub [2, 1, 0] rfl (ih _ _ _ _ _ _ hf)
    · refine ev_icmp_ge_Q (tgt := 30) c2 (by decide) d8_sacksGround_9 ?_
      refine ev_iload_n (j := 1) (i := 1) (q := 1) rfl rfl d8_sacksGround_30 ?_
      obtain ⟨rfl, rfl⟩ := ret_some hf
      exact ev_iret rfl d8_sacksGround_31
def f8_sacksGround (σ : St) (v0 : Nat) : Option (Int32 × St) :=
  f8_sacksGround_p4 FU σ v0 (0 : Int32) (0 : Int32)
set_option maxRecDepth 50000 in
theorem s8_sacksGround : ∀ (σ : St) (v0 : Nat) (r : Int32) (τ : St), f8_sacksGround σ v0 = some (r, τ) → Call 2 m8_sacksGround [.ref v0] σ (some (.int r)) τ := by
  intro σ v0 r τ hf
  unfold f8_sacksGround at hf
  refine Call.of (by decide +kernel) rfl (Nat.le_of_ble_eq_true rfl) ?_
  refine ev_iconst ci_0 d8_sacksGround_0 ?_
  refine ev_istore_n (lv2 := [(1, .int (0 : Int32)), (0, .ref v0)]) (j := 1) (i := 1) rfl (by decide) rfl d8_sacksGround_1 ?_
  refine ev_iconst ci_0 d8_sacksGround_2 ?_
  refine ev_istore_n (lv2 := [(2, .int (0 : Int32)), (1, .int (0 : Int32)), (0, .ref v0)]) (j := 2) (i := 2) rfl (by decide) rfl d8_sacksGround_3 ?_
  exact Ev.sub [2, 1, 0] rfl (s8_sacksGround_p4 FU _ _ _ _ _ _ hf)
abbrev m8_tollsTaken : MD := ("MillBoats$River", ⟨"MillBoats$River", "tollsTaken", "()I"⟩, prog_10_method_17_code, 3, (some Jvm.ClassFile.FieldType.int))
theorem k8_tollsTaken : okY m8_tollsTaken.2.1 0 := ⟨by decide +kernel, by decide +kernel, by decide +kernel⟩
def f8_tollsTaken_p4 : Nat → St → Nat → Int32 → Int32 → Option (Int32 × St)
  | 0, _, _, _, _ => none
  | n + 1, σ, v0, v1, v2 =>
  gd (ob σ v0 8) (
  (if v2 < (sI σ v0 5) then
  lt (sR σ v0 2) fun b3 => (
  gd (nz b3) (
  gd (ob σ b3 17) (
  gd (inb σ b3 v2) (
  lt (sR σ b3 (ix v2)) fun b8 => (
  gd (nz b8) (
  gd (ob σ b8 0) (
  lt (v1 + (sI σ b8 5)) fun y12 => (
  lt (v2 + (1 : Int32)) fun y14 => (
  (f8_tollsTaken_p4 n) σ v0 y12 y14)))))))))
  else
  some (v1, σ)))
set_option maxRecDepth 20000 in
theorem s8_tollsTaken_p4 : ∀ (n : Nat) (σ : St) (v0 : Nat) (v1 : Int32) (v2 : Int32) (r : Int32) (τ : St), f8_tollsTaken_p4 n σ v0 v1 v2 = some (r, τ) → Ev 2 m8_tollsTaken 4 [(0, .ref v0), (1, .int v1), (2, .int v2)] [] σ (some (.int r)) τ := by
  intro n
  induction n with
  | zero =>
    intro σ v0 v1 v2 r τ hf
    cases hf
  | succ n ih =>
    intro σ v0 v1 v2 r τ hf
    rw [f8_tollsTaken_p4] at hf
    refine ev_iload_n (j := 2) (i := 2) (q := 2) rfl rfl d8_tollsTaken_4 ?_
    refine ev_aload_n (j := 0) (i := 0) (q := 0) rfl rfl d8_tollsTaken_5 ?_
    obtain ⟨h1, hf⟩ := gd_some hf
    refine ev_getI cls8 (j := 5) (by decide) rfl w121 h1 d8_tollsTaken_6 ?_
    rcases ite_some hf with ⟨c2, hf⟩ | ⟨c2, hf⟩
    · refine ev_icmp_ge_P (tgt := 30) c2 (by decide) d8_tollsTaken_9 ?_
      refine ev_iload_n (j := 1) (i := 1) (q := 1) rfl rfl d8_tollsTaken_12 ?_
      refine ev_aload_n (j := 0) (i := 0) (q := 0) rfl rfl d8_tollsTaken_13 ?_
      obtain ⟨b3, e4, hf⟩ := lt_some hf
      obtain ⟨h5, hf⟩ := gd_some hf
      refine ev_getRb cls8 (j := 2) (by decide) rfl w108 h1 e4 (nz_ne h5) d8_tollsTaken_14 ?_
      refine ev_iload_n (j := 2) (i := 2) (q := 2) rfl rfl d8_tollsTaken_17 ?_
      obtain ⟨h6, hf⟩ := gd_some hf
      obtain ⟨h7, hf⟩ := gd_some hf
      obtain ⟨b8, e9, hf⟩ := lt_some hf
      obtain ⟨h10, hf⟩ := gd_some hf
      refine ev_qaldb (kd := 17) (by decide) (by decide) rfl h6 h7 e9 (nz_ne h10) d8_tollsTaken_18 ?_
      obtain ⟨h11, hf⟩ := gd_some hf
      refine ev_getIN cls0 (j := 5) (by decide) rfl w80 h11 d8_tollsTaken_19 ?_
      refine ev_iadd d8_tollsTaken_22 ?_
      obtain ⟨y12, e13, hf⟩ := lt_some hf
      refine ev_nmI e13 ?_
      refine ev_istore_n (lv2 := [(1, .int y12), (0, .ref v0), (2, .int v2)]) (j := 1) (i := 1) rfl (by decide) rfl d8_tollsTaken_23 ?_
      obtain ⟨y14, e15, hf⟩ := lt_some hf
      refine ev_iinc (lv2 := [(2, .int y14), (1, .int y12), (0, .ref v0)]) (i := 2) (q := 2) (v := y14) (n := 1) rfl (by rw [ci_1]; exact e15.symm) (by decide) rfl d8_tollsTaken_24 ?_
      refine ev_goto (tgt := 4) (by decide) d8_tollsTaken_27 ?_
      exact Ev.sub [2, 1, 0] rfl (ih _ _ _ _ _ _ hf)
    · refine ev_icmp_ge_Q (tgt := 30) c2 (by decide) d8_tollsTaken_9 ?_
      refine ev_iload_n (j := 1) (i := 1) (q := 1) rfl rfl d8_tollsTaken_30 ?_
      obtain ⟨rfl, rfl⟩ := ret_some hf
      exact ev_iret rfl d8_tollsTaken_31
def f8_tollsTaken (σ : St) (v0 : Nat) : Option (Int32 × St) :=
  f8_tollsTaken_p4 FU σ v0 (0 : Int32) (0 : Int32)
set_option maxRecDepth 50000 in
theorem s8_tollsTaken : ∀ (σ : St) (v0 : Nat) (r : Int32) (τ : St), f8_tollsTaken σ v0 = some (r, τ) → Call 2 m8_tollsTaken [.ref v0] σ (some (.int r)) τ := by
  intro σ v0 r τ hf
  unfold f8_tollsTaken at hf
  refine Call.of (by decide +kernel) rfl (Nat.le_of_ble_eq_true rfl) ?_
  refine ev_iconst ci_0 d8_tollsTaken_0 ?_
  refine ev_istore_n (lv2 := [(1, .int (0 : Int32)), (0, .ref v0)]) (j := 1) (i := 1) rfl (by decide) rfl d8_tollsTaken_1 ?_
  refine ev_iconst ci_0 d8_tollsTaken_2 ?_
  refine ev_istore_n (lv2 := [(2, .int (0 : Int32)), (1, .int (0 : Int32)), (0, .ref v0)]) (j := 2) (i := 2) rfl (by decide) rfl d8_tollsTaken_3 ?_
  exact Ev.sub [2, 1, 0] rfl (s8_tollsTaken_p4 FU _ _ _ _ _ _ hf)
abbrev m8_lyingAtBerths : MD := ("MillBoats$River", ⟨"MillBoats$River", "lyingAtBerths", "()I"⟩, prog_10_method_18_code, 3, (some Jvm.ClassFile.FieldType.int))
theorem k8_lyingAtBerths : okY m8_lyingAtBerths.2.1 0 := ⟨by decide +kernel, by decide +kernel, by decide +kernel⟩
def f8_lyingAtBerths_p27 (K4 : St → Nat → Int32 → Int32 → Option (Int32 × St)) (σ : St) (v0 : Nat) (v2 : Int32) (x0 : Int32) (x1 : Int32) : Option (Int32 × St) :=
  lt (x1 + x0) fun y9 => (
  lt (v2 + (1 : Int32)) fun y11 => (
  K4 σ v0 y9 y11))
set_option maxRecDepth 20000 in
theorem s8_lyingAtBerths_p27 {K4 : St → Nat → Int32 → Int32 → Option (Int32 × St)} (hK4 : ∀ (σ : St) (v0 : Nat) (v1 : Int32) (v2 : Int32) (r : Int32) (τ : St), K4 σ v0 v1 v2 = some (r, τ) → Ev 2 m8_lyingAtBerths 4 [(0, .ref v0), (1, .int v1), (2, .int v2)] [] σ (some (.int r)) τ) : ∀ (σ : St) (v0 : Nat) (v2 : Int32) (x0 : Int32) (x1 : Int32) (r : Int32) (τ : St), f8_lyingAtBerths_p27 K4 σ v0 v2 x0 x1 = some (r, τ) → Ev 2 m8_lyingAtBerths 27 [(0, .ref v0), (2, .int v2)] [.int x0, .int x1] σ (some (.int r)) τ := by
  intro σ v0 v2 x0 x1 r τ hf
  unfold f8_lyingAtBerths_p27 at hf
  refine ev_iadd d8_lyingAtBerths_27 ?_
  obtain ⟨y9, e10, hf⟩ := lt_some hf
  refine ev_nmI e10 ?_
  refine ev_istore_n (lv2 := [(1, .int y9), (0, .ref v0), (2, .int v2)]) (j := 1) (i := 1) rfl (by decide) rfl d8_lyingAtBerths_28 ?_
  obtain ⟨y11, e12, hf⟩ := lt_some hf
  refine ev_iinc (lv2 := [(2, .int y11), (1, .int y9), (0, .ref v0)]) (i := 2) (q := 2) (v := y11) (n := 1) rfl (by rw [ci_1]; exact e12.symm) (by decide) rfl d8_lyingAtBerths_29 ?_
  refine ev_goto (tgt := 4) (by decide) d8_lyingAtBerths_32 ?_
  exact Ev.sub [2, 1, 0] rfl (hK4 _ _ _ _ _ _ hf)
def f8_lyingAtBerths_p4 : Nat → St → Nat → Int32 → Int32 → Option (Int32 × St)
  | 0, _, _, _, _ => none
  | n + 1, σ, v0, v1, v2 =>
  gd (ob σ v0 8) (
  (if v2 < (sI σ v0 5) then
  lt (sR σ v0 3) fun b3 => (
  gd (nz b3) (
  gd (ob σ b3 14) (
  gd (inb σ b3 v2) (
  (if (sI σ b3 (ix v2)) < (0 : Int32) then
  f8_lyingAtBerths_p27 (f8_lyingAtBerths_p4 n) σ v0 v2 (0 : Int32) v1
  else
  f8_lyingAtBerths_p27 (f8_lyingAtBerths_p4 n) σ v0 v2 (1 : Int32) v1)))))
  else
  some (v1, σ)))
set_option maxRecDepth 20000 in
theorem s8_lyingAtBerths_p4 : ∀ (n : Nat) (σ : St) (v0 : Nat) (v1 : Int32) (v2 : Int32) (r : Int32) (τ : St), f8_lyingAtBerths_p4 n σ v0 v1 v2 = some (r, τ) → Ev 2 m8_lyingAtBerths 4 [(0, .ref v0), (1, .int v1), (2, .int v2)] [] σ (some (.int r)) τ := by
  intro n
  induction n with
  | zero =>
    intro σ v0 v1 v2 r τ hf
    cases hf
  | succ n ih =>
    intro σ v0 v1 v2 r τ hf
    rw [f8_lyingAtBerths_p4] at hf
    refine ev_iload_n (j := 2) (i := 2) (q := 2) rfl rfl d8_lyingAtBerths_4 ?_
    refine ev_aload_n (j := 0) (i := 0) (q := 0) rfl rfl d8_lyingAtBerths_5 ?_
    obtain ⟨h1, hf⟩ := gd_some hf
    refine ev_getI cls8 (j := 5) (by decide) rfl w121 h1 d8_lyingAtBerths_6 ?_
    rcases ite_some hf with ⟨c2, hf⟩ | ⟨c2, hf⟩
    · refine ev_icmp_ge_P (tgt := 35) c2 (by decide) d8_lyingAtBerths_9 ?_
      refine ev_iload_n (j := 1) (i := 1) (q := 1) rfl rfl d8_lyingAtBerths_12 ?_
      refine ev_aload_n (j := 0) (i := 0) (q := 0) rfl rfl d8_lyingAtBerths_13 ?_
      obtain ⟨b3, e4, hf⟩ := lt_some hf
      obtain ⟨h5, hf⟩ := gd_some hf
      refine ev_getRb cls8 (j := 3) (by decide) rfl w114 h1 e4 (nz_ne h5) d8_lyingAtBerths_14 ?_
      refine ev_iload_n (j := 2) (i := 2) (q := 2) rfl rfl d8_lyingAtBerths_17 ?_
      obtain ⟨h6, hf⟩ := gd_some hf
      obtain ⟨h7, hf⟩ := gd_some hf
      refine ev_iald h6 h7 d8_lyingAtBerths_18 ?_
      rcases ite_some hf with ⟨c8, hf⟩ | ⟨c8, hf⟩
      · refine ev_if_lt_P (tgt := 26) c8 (by decide) d8_lyingAtBerths_19 ?_
        refine ev_iconst ci_0 d8_lyingAtBerths_26 ?_
        exact Ev.sub [0, 2] rfl (s8_lyingAtBerths_p27 ih _ _ _ _ _ _ _ hf)
      · refine ev_if_lt_Q (tgt := 26) c8 (by decide) d8_lyingAtBerths_19 ?_
        refine ev_iconst ci_1 d8_lyingAtBerths_22 ?_
        refine ev_goto (tgt := 27) (by decide) d8_lyingAtBerths_23 ?_
        exact Ev.sub [0, 2] rfl (s8_lyingAtBerths_p27 ih _ _ _ _ _ _ _ hf)
    · refine ev_icmp_ge_Q (tgt := 35) c2 (by decide) d8_lyingAtBerths_9 ?_
      refine ev_iload_n (j := 1) (i := 1) (q := 1) rfl rfl d8_lyingAtBerths_35 ?_
      obtain ⟨rfl, rfl⟩ := ret_some hf
      exact ev_iret rfl d8_lyingAtBerths_36
def f8_lyingAtBerths (σ : St) (v0 : Nat) : Option (Int32 × St) :=
  f8_lyingAtBerths_p4 FU σ v0 (0 : Int32) (0 : Int32)
set_option maxRecDepth 50000 in
theorem s8_lyingAtBerths : ∀ (σ : St) (v0 : Nat) (r : Int32) (τ : St), f8_lyingAtBerths σ v0 = some (r, τ) → Call 2 m8_lyingAtBerths [.ref v0] σ (some (.int r)) τ := by
  intro σ v0 r τ hf
  unfold f8_lyingAtBerths at hf
  refine Call.of (by decide +kernel) rfl (Nat.le_of_ble_eq_true rfl) ?_
  refine ev_iconst ci_0 d8_lyingAtBerths_0 ?_
  refine ev_istore_n (lv2 := [(1, .int (0 : Int32)), (0, .ref v0)]) (j := 1) (i := 1) rfl (by decide) rfl d8_lyingAtBerths_1 ?_
  refine ev_iconst ci_0 d8_lyingAtBerths_2 ?_
  refine ev_istore_n (lv2 := [(2, .int (0 : Int32)), (1, .int (0 : Int32)), (0, .ref v0)]) (j := 2) (i := 2) rfl (by decide) rfl d8_lyingAtBerths_3 ?_
  exact Ev.sub [2, 1, 0] rfl (s8_lyingAtBerths_p4 FU _ _ _ _ _ _ hf)
abbrev m8_goneBoats : MD := ("MillBoats$River", ⟨"MillBoats$River", "goneBoats", "()I"⟩, prog_10_method_19_code, 3, (some Jvm.ClassFile.FieldType.int))
theorem k8_goneBoats : okY m8_goneBoats.2.1 0 := ⟨by decide +kernel, by decide +kernel, by decide +kernel⟩
def f8_goneBoats_p29 (K4 : St → Nat → Int32 → Int32 → Option (Int32 × St)) (σ : St) (v0 : Nat) (v2 : Int32) (x0 : Int32) (x1 : Int32) : Option (Int32 × St) :=
  lt (x1 + x0) fun y9 => (
  lt (v2 + (1 : Int32)) fun y11 => (
  K4 σ v0 y9 y11))
set_option maxRecDepth 20000 in
theorem s8_goneBoats_p29 {K4 : St → Nat → Int32 → Int32 → Option (Int32 × St)} (hK4 : ∀ (σ : St) (v0 : Nat) (v1 : Int32) (v2 : Int32) (r : Int32) (τ : St), K4 σ v0 v1 v2 = some (r, τ) → Ev 2 m8_goneBoats 4 [(0, .ref v0), (1, .int v1), (2, .int v2)] [] σ (some (.int r)) τ) : ∀ (σ : St) (v0 : Nat) (v2 : Int32) (x0 : Int32) (x1 : Int32) (r : Int32) (τ : St), f8_goneBoats_p29 K4 σ v0 v2 x0 x1 = some (r, τ) → Ev 2 m8_goneBoats 29 [(0, .ref v0), (2, .int v2)] [.int x0, .int x1] σ (some (.int r)) τ := by
  intro σ v0 v2 x0 x1 r τ hf
  unfold f8_goneBoats_p29 at hf
  refine ev_iadd d8_goneBoats_29 ?_
  obtain ⟨y9, e10, hf⟩ := lt_some hf
  refine ev_nmI e10 ?_
  refine ev_istore_n (lv2 := [(1, .int y9), (0, .ref v0), (2, .int v2)]) (j := 1) (i := 1) rfl (by decide) rfl d8_goneBoats_30 ?_
  obtain ⟨y11, e12, hf⟩ := lt_some hf
  refine ev_iinc (lv2 := [(2, .int y11), (1, .int y9), (0, .ref v0)]) (i := 2) (q := 2) (v := y11) (n := 1) rfl (by rw [ci_1]; exact e12.symm) (by decide) rfl d8_goneBoats_31 ?_
  refine ev_goto (tgt := 4) (by decide) d8_goneBoats_34 ?_
  exact Ev.sub [2, 1, 0] rfl (hK4 _ _ _ _ _ _ hf)
def f8_goneBoats_p4 : Nat → St → Nat → Int32 → Int32 → Option (Int32 × St)
  | 0, _, _, _, _ => none
  | n + 1, σ, v0, v1, v2 =>
  gd (ob σ v0 8) (
  (if v2 < (sI σ v0 5) then
  lt (sR σ v0 3) fun b3 => (
  gd (nz b3) (
  gd (ob σ b3 14) (
  gd (inb σ b3 v2) (
  (if (sI σ b3 (ix v2)) = (-2 : Int32) then
  f8_goneBoats_p29 (f8_goneBoats_p4 n) σ v0 v2 (1 : Int32) v1
  else
  f8_goneBoats_p29 (f8_goneBoats_p4 n) σ v0 v2 (0 : Int32) v1)))))
  else
  some (v1, σ)))
set_option maxRecDepth 20000 in
theorem s8_goneBoats_p4 : ∀ (n : Nat) (σ : St) (v0 : Nat) (v1 : Int32) (v2 : Int32) (r : Int32) (τ : St), f8_goneBoats_p4 n σ v0 v1 v2 = some (r, τ) → Ev 2 m8_goneBoats 4 [(0, .ref v0), (1, .int v1), (2, .int v2)] [] σ (some (.int r)) τ := by
  intro n
  induction n with
  | zero =>
    intro σ v0 v1 v2 r τ hf
    cases hf
  | succ n ih =>
    intro σ v0 v1 v2 r τ hf
    rw [f8_goneBoats_p4] at hf
    refine ev_iload_n (j := 2) (i := 2) (q := 2) rfl rfl d8_goneBoats_4 ?_
    refine ev_aload_n (j := 0) (i := 0) (q := 0) rfl rfl d8_goneBoats_5 ?_
    obtain ⟨h1, hf⟩ := gd_some hf
    refine ev_getI cls8 (j := 5) (by decide) rfl w121 h1 d8_goneBoats_6 ?_
    rcases ite_some hf with ⟨c2, hf⟩ | ⟨c2, hf⟩
    · refine ev_icmp_ge_P (tgt := 37) c2 (by decide) d8_goneBoats_9 ?_
      refine ev_iload_n (j := 1) (i := 1) (q := 1) rfl rfl d8_goneBoats_12 ?_
      refine ev_aload_n (j := 0) (i := 0) (q := 0) rfl rfl d8_goneBoats_13 ?_
      obtain ⟨b3, e4, hf⟩ := lt_some hf
      obtain ⟨h5, hf⟩ := gd_some hf
      refine ev_getRb cls8 (j := 3) (by decide) rfl w114 h1 e4 (nz_ne h5) d8_goneBoats_14 ?_
      refine ev_iload_n (j := 2) (i := 2) (q := 2) rfl rfl d8_goneBoats_17 ?_
      obtain ⟨h6, hf⟩ := gd_some hf
      obtain ⟨h7, hf⟩ := gd_some hf
      refine ev_iald h6 h7 d8_goneBoats_18 ?_
      refine ev_bipush cb_m2 d8_goneBoats_19 ?_
      rcases ite_some hf with ⟨c8, hf⟩ | ⟨c8, hf⟩
      · refine ev_icmp_ne_P (tgt := 28) c8 (by decide) d8_goneBoats_21 ?_
        refine ev_iconst ci_1 d8_goneBoats_24 ?_
        refine ev_goto (tgt := 29) (by decide) d8_goneBoats_25 ?_
        exact Ev.sub [0, 2] rfl (s8_goneBoats_p29 ih _ _ _ _ _ _ _ hf)
      · refine ev_icmp_ne_Q (tgt := 28) c8 (by decide) d8_goneBoats_21 ?_
        refine ev_iconst ci_0 d8_goneBoats_28 ?_
        exact Ev.sub [0, 2] rfl (s8_goneBoats_p29 ih _ _ _ _ _ _ _ hf)
    · refine ev_icmp_ge_Q (tgt := 37) c2 (by decide) d8_goneBoats_9 ?_
      refine ev_iload_n (j := 1) (i := 1) (q := 1) rfl rfl d8_goneBoats_37 ?_
      obtain ⟨rfl, rfl⟩ := ret_some hf
      exact ev_iret rfl d8_goneBoats_38
def f8_goneBoats (σ : St) (v0 : Nat) : Option (Int32 × St) :=
  f8_goneBoats_p4 FU σ v0 (0 : Int32) (0 : Int32)
set_option maxRecDepth 50000 in
theorem s8_goneBoats : ∀ (σ : St) (v0 : Nat) (r : Int32) (τ : St), f8_goneBoats σ v0 = some (r, τ) → Call 2 m8_goneBoats [.ref v0] σ (some (.int r)) τ := by
  intro σ v0 r τ hf
  unfold f8_goneBoats at hf
  refine Call.of (by decide +kernel) rfl (Nat.le_of_ble_eq_true rfl) ?_
  refine ev_iconst ci_0 d8_goneBoats_0 ?_
  refine ev_istore_n (lv2 := [(1, .int (0 : Int32)), (0, .ref v0)]) (j := 1) (i := 1) rfl (by decide) rfl d8_goneBoats_1 ?_
  refine ev_iconst ci_0 d8_goneBoats_2 ?_
  refine ev_istore_n (lv2 := [(2, .int (0 : Int32)), (1, .int (0 : Int32)), (0, .ref v0)]) (j := 2) (i := 2) rfl (by decide) rfl d8_goneBoats_3 ?_
  exact Ev.sub [2, 1, 0] rfl (s8_goneBoats_p4 FU _ _ _ _ _ _ hf)
