theorem d12_readLet_0 : decode prog_14_method_57_code 0 = .ok (.aload_n 0, 1) := by decide +kernel
theorem d12_readLet_1 : decode prog_14_method_57_code 1 = .ok (.invokevirtual 285, 3) := by decide +kernel
theorem d12_readLet_4 : decode prog_14_method_57_code 4 = .ok (.aload_n 0, 1) := by decide +kernel
theorem d12_readLet_5 : decode prog_14_method_57_code 5 = .ok (.getfield 247, 3) := by decide +kernel
theorem d12_readLet_8 : decode prog_14_method_57_code 8 = .ok (.iconst 3, 1) := by decide +kernel
theorem d12_readLet_9 : decode prog_14_method_57_code 9 = .ok (.if_icmp .ne 14, 3) := by decide +kernel
theorem d12_readLet_12 : decode prog_14_method_57_code 12 = .ok (.aload_n 0, 1) := by decide +kernel
theorem d12_readLet_13 : decode prog_14_method_57_code 13 = .ok (.invokevirtual 340, 3) := by decide +kernel
theorem d12_readLet_16 : decode prog_14_method_57_code 16 = .ok (.ifCond .ne 7, 3) := by decide +kernel
theorem d12_readLet_19 : decode prog_14_method_57_code 19 = .ok (.iconst 1, 1) := by decide +kernel
theorem d12_readLet_20 : decode prog_14_method_57_code 20 = .ok (.goto 4, 3) := by decide +kernel
theorem d12_readLet_23 : decode prog_14_method_57_code 23 = .ok (.iconst 0, 1) := by decide +kernel
theorem d12_readLet_24 : decode prog_14_method_57_code 24 = .ok (.istore_n 1, 1) := by decide +kernel
theorem d12_readLet_25 : decode prog_14_method_57_code 25 = .ok (.iload_n 1, 1) := by decide +kernel
theorem d12_readLet_26 : decode prog_14_method_57_code 26 = .ok (.ifCond .ne 11, 3) := by decide +kernel
theorem d12_readLet_29 : decode prog_14_method_57_code 29 = .ok (.aload_n 0, 1) := by decide +kernel
theorem d12_readLet_30 : decode prog_14_method_57_code 30 = .ok (.iconst 1, 1) := by decide +kernel
theorem d12_readLet_31 : decode prog_14_method_57_code 31 = .ok (.invokevirtual 288, 3) := by decide +kernel
theorem d12_readLet_34 : decode prog_14_method_57_code 34 = .ok (.goto 33, 3) := by decide +kernel
theorem d12_readLet_37 : decode prog_14_method_57_code 37 = .ok (.aload_n 0, 1) := by decide +kernel
theorem d12_readLet_38 : decode prog_14_method_57_code 38 = .ok (.invokevirtual 343, 3) := by decide +kernel
theorem d12_readLet_41 : decode prog_14_method_57_code 41 = .ok (.iconst (-1), 1) := by decide +kernel
theorem d12_readLet_42 : decode prog_14_method_57_code 42 = .ok (.if_icmp .eq 11, 3) := by decide +kernel
theorem d12_readLet_45 : decode prog_14_method_57_code 45 = .ok (.aload_n 0, 1) := by decide +kernel
theorem d12_readLet_46 : decode prog_14_method_57_code 46 = .ok (.iconst 3, 1) := by decide +kernel
theorem d12_readLet_47 : decode prog_14_method_57_code 47 = .ok (.invokevirtual 288, 3) := by decide +kernel
theorem d12_readLet_50 : decode prog_14_method_57_code 50 = .ok (.goto 17, 3) := by decide +kernel
theorem d12_readLet_53 : decode prog_14_method_57_code 53 = .ok (.aload_n 0, 1) := by decide +kernel
theorem d12_readLet_54 : decode prog_14_method_57_code 54 = .ok (.getfield 331, 3) := by decide +kernel
theorem d12_readLet_57 : decode prog_14_method_57_code 57 = .ok (.bipush 6, 2) := by decide +kernel
theorem d12_readLet_59 : decode prog_14_method_57_code 59 = .ok (.if_icmp .ne 8, 3) := by decide +kernel
theorem d12_readLet_62 : decode prog_14_method_57_code 62 = .ok (.aload_n 0, 1) := by decide +kernel
theorem d12_readLet_63 : decode prog_14_method_57_code 63 = .ok (.iconst 4, 1) := by decide +kernel
theorem d12_readLet_64 : decode prog_14_method_57_code 64 = .ok (.invokevirtual 288, 3) := by decide +kernel
theorem d12_readLet_67 : decode prog_14_method_57_code 67 = .ok (.aload_n 0, 1) := by decide +kernel
theorem d12_readLet_68 : decode prog_14_method_57_code 68 = .ok (.invokevirtual 278, 3) := by decide +kernel
theorem d12_readLet_71 : decode prog_14_method_57_code 71 = .ok (.ifCond .ne 4, 3) := by decide +kernel
theorem d12_readLet_74 : decode prog_14_method_57_code 74 = .ok (.return_, 1) := by decide +kernel
theorem d12_readLet_75 : decode prog_14_method_57_code 75 = .ok (.aload_n 0, 1) := by decide +kernel
theorem d12_readLet_76 : decode prog_14_method_57_code 76 = .ok (.getfield 244, 3) := by decide +kernel
theorem d12_readLet_79 : decode prog_14_method_57_code 79 = .ok (.istore_n 2, 1) := by decide +kernel
theorem d12_readLet_80 : decode prog_14_method_57_code 80 = .ok (.aload_n 0, 1) := by decide +kernel
theorem d12_readLet_81 : decode prog_14_method_57_code 81 = .ok (.getfield 241, 3) := by decide +kernel
theorem d12_readLet_84 : decode prog_14_method_57_code 84 = .ok (.aload_n 0, 1) := by decide +kernel
theorem d12_readLet_85 : decode prog_14_method_57_code 85 = .ok (.getfield 244, 3) := by decide +kernel
theorem d12_readLet_88 : decode prog_14_method_57_code 88 = .ok (.isub, 1) := by decide +kernel
theorem d12_readLet_89 : decode prog_14_method_57_code 89 = .ok (.istore_n 3, 1) := by decide +kernel
theorem d12_readLet_90 : decode prog_14_method_57_code 90 = .ok (.aload_n 0, 1) := by decide +kernel
theorem d12_readLet_91 : decode prog_14_method_57_code 91 = .ok (.invokevirtual 285, 3) := by decide +kernel
theorem d12_readLet_94 : decode prog_14_method_57_code 94 = .ok (.aload_n 0, 1) := by decide +kernel
theorem d12_readLet_95 : decode prog_14_method_57_code 95 = .ok (.bipush 61, 2) := by decide +kernel
theorem d12_readLet_97 : decode prog_14_method_57_code 97 = .ok (.invokevirtual 352, 3) := by decide +kernel
theorem d12_readLet_100 : decode prog_14_method_57_code 100 = .ok (.aload_n 0, 1) := by decide +kernel
theorem d12_readLet_101 : decode prog_14_method_57_code 101 = .ok (.invokevirtual 349, 3) := by decide +kernel
theorem d12_readLet_104 : decode prog_14_method_57_code 104 = .ok (.aload_n 0, 1) := by decide +kernel
theorem d12_readLet_105 : decode prog_14_method_57_code 105 = .ok (.invokevirtual 278, 3) := by decide +kernel
theorem d12_readLet_108 : decode prog_14_method_57_code 108 = .ok (.ifCond .ne 4, 3) := by decide +kernel
theorem d12_readLet_111 : decode prog_14_method_57_code 111 = .ok (.return_, 1) := by decide +kernel
theorem d12_readLet_112 : decode prog_14_method_57_code 112 = .ok (.aload_n 0, 1) := by decide +kernel
theorem d12_readLet_113 : decode prog_14_method_57_code 113 = .ok (.getfield 112, 3) := by decide +kernel
theorem d12_readLet_116 : decode prog_14_method_57_code 116 = .ok (.aload_n 0, 1) := by decide +kernel
theorem d12_readLet_117 : decode prog_14_method_57_code 117 = .ok (.getfield 331, 3) := by decide +kernel
theorem d12_readLet_120 : decode prog_14_method_57_code 120 = .ok (.iload_n 3, 1) := by decide +kernel
theorem d12_readLet_121 : decode prog_14_method_57_code 121 = .ok (.iastore, 1) := by decide +kernel
theorem d12_readLet_122 : decode prog_14_method_57_code 122 = .ok (.iconst 0, 1) := by decide +kernel
theorem d12_readLet_123 : decode prog_14_method_57_code 123 = .ok (.istore 4, 2) := by decide +kernel
theorem d12_readLet_125 : decode prog_14_method_57_code 125 = .ok (.iload 4, 2) := by decide +kernel
theorem d12_readLet_127 : decode prog_14_method_57_code 127 = .ok (.iload_n 3, 1) := by decide +kernel
theorem d12_readLet_128 : decode prog_14_method_57_code 128 = .ok (.if_icmp .ge 33, 3) := by decide +kernel
theorem d12_readLet_131 : decode prog_14_method_57_code 131 = .ok (.aload_n 0, 1) := by decide +kernel
theorem d12_readLet_132 : decode prog_14_method_57_code 132 = .ok (.getfield 109, 3) := by decide +kernel
theorem d12_readLet_135 : decode prog_14_method_57_code 135 = .ok (.bipush 8, 2) := by decide +kernel
theorem d12_readLet_137 : decode prog_14_method_57_code 137 = .ok (.aload_n 0, 1) := by decide +kernel
theorem d12_readLet_138 : decode prog_14_method_57_code 138 = .ok (.getfield 331, 3) := by decide +kernel
theorem d12_readLet_141 : decode prog_14_method_57_code 141 = .ok (.imul, 1) := by decide +kernel
theorem d12_readLet_142 : decode prog_14_method_57_code 142 = .ok (.iload 4, 2) := by decide +kernel
theorem d12_readLet_144 : decode prog_14_method_57_code 144 = .ok (.iadd, 1) := by decide +kernel
theorem d12_readLet_145 : decode prog_14_method_57_code 145 = .ok (.aload_n 0, 1) := by decide +kernel
theorem d12_readLet_146 : decode prog_14_method_57_code 146 = .ok (.getfield 102, 3) := by decide +kernel
theorem d12_readLet_149 : decode prog_14_method_57_code 149 = .ok (.iload_n 2, 1) := by decide +kernel
theorem d12_readLet_150 : decode prog_14_method_57_code 150 = .ok (.iload 4, 2) := by decide +kernel
theorem d12_readLet_152 : decode prog_14_method_57_code 152 = .ok (.iadd, 1) := by decide +kernel
theorem d12_readLet_153 : decode prog_14_method_57_code 153 = .ok (.baload, 1) := by decide +kernel
theorem d12_readLet_154 : decode prog_14_method_57_code 154 = .ok (.bastore, 1) := by decide +kernel
theorem d12_readLet_155 : decode prog_14_method_57_code 155 = .ok (.iinc 4 1, 3) := by decide +kernel
theorem d12_readLet_158 : decode prog_14_method_57_code 158 = .ok (.goto (-33), 3) := by decide +kernel
theorem d12_readLet_161 : decode prog_14_method_57_code 161 = .ok (.aload_n 0, 1) := by decide +kernel
theorem d12_readLet_162 : decode prog_14_method_57_code 162 = .ok (.dup, 1) := by decide +kernel
theorem d12_readLet_163 : decode prog_14_method_57_code 163 = .ok (.getfield 331, 3) := by decide +kernel
theorem d12_readLet_166 : decode prog_14_method_57_code 166 = .ok (.iconst 1, 1) := by decide +kernel
theorem d12_readLet_167 : decode prog_14_method_57_code 167 = .ok (.iadd, 1) := by decide +kernel
theorem d12_readLet_168 : decode prog_14_method_57_code 168 = .ok (.putfield 331, 3) := by decide +kernel
theorem d12_readLet_171 : decode prog_14_method_57_code 171 = .ok (.return_, 1) := by decide +kernel
theorem d12_readToll_0 : decode prog_14_method_58_code 0 = .ok (.aload_n 0, 1) := by decide +kernel
theorem d12_readToll_1 : decode prog_14_method_58_code 1 = .ok (.invokevirtual 285, 3) := by decide +kernel
theorem d12_readToll_4 : decode prog_14_method_58_code 4 = .ok (.aload_n 0, 1) := by decide +kernel
theorem d12_readToll_5 : decode prog_14_method_58_code 5 = .ok (.getfield 81, 3) := by decide +kernel
theorem d12_readToll_8 : decode prog_14_method_58_code 8 = .ok (.iload_n 1, 1) := by decide +kernel
theorem d12_readToll_9 : decode prog_14_method_58_code 9 = .ok (.aload_n 0, 1) := by decide +kernel
theorem d12_readToll_10 : decode prog_14_method_58_code 10 = .ok (.invokevirtual 373, 3) := by decide +kernel
theorem d12_readToll_13 : decode prog_14_method_58_code 13 = .ok (.iastore, 1) := by decide +kernel
theorem d12_readToll_14 : decode prog_14_method_58_code 14 = .ok (.aload_n 0, 1) := by decide +kernel
theorem d12_readToll_15 : decode prog_14_method_58_code 15 = .ok (.invokevirtual 278, 3) := by decide +kernel
theorem d12_readToll_18 : decode prog_14_method_58_code 18 = .ok (.ifCond .eq 7, 3) := by decide +kernel
theorem d12_readToll_21 : decode prog_14_method_58_code 21 = .ok (.aload_n 0, 1) := by decide +kernel
theorem d12_readToll_22 : decode prog_14_method_58_code 22 = .ok (.invokevirtual 285, 3) := by decide +kernel
theorem d12_readToll_25 : decode prog_14_method_58_code 25 = .ok (.aload_n 0, 1) := by decide +kernel
theorem d12_readToll_26 : decode prog_14_method_58_code 26 = .ok (.ldc_w 304, 3) := by decide +kernel
theorem d12_readToll_29 : decode prog_14_method_58_code 29 = .ok (.invokevirtual 376, 3) := by decide +kernel
theorem d12_readToll_32 : decode prog_14_method_58_code 32 = .ok (.aload_n 0, 1) := by decide +kernel
theorem d12_readToll_33 : decode prog_14_method_58_code 33 = .ok (.getfield 84, 3) := by decide +kernel
theorem d12_readToll_36 : decode prog_14_method_58_code 36 = .ok (.iload_n 1, 1) := by decide +kernel
theorem d12_readToll_37 : decode prog_14_method_58_code 37 = .ok (.aload_n 0, 1) := by decide +kernel
theorem d12_readToll_38 : decode prog_14_method_58_code 38 = .ok (.invokevirtual 373, 3) := by decide +kernel
theorem d12_readToll_41 : decode prog_14_method_58_code 41 = .ok (.iastore, 1) := by decide +kernel
theorem d12_readToll_42 : decode prog_14_method_58_code 42 = .ok (.aload_n 0, 1) := by decide +kernel
theorem d12_readToll_43 : decode prog_14_method_58_code 43 = .ok (.invokevirtual 278, 3) := by decide +kernel
theorem d12_readToll_46 : decode prog_14_method_58_code 46 = .ok (.ifCond .eq 32, 3) := by decide +kernel
theorem d12_readToll_49 : decode prog_14_method_58_code 49 = .ok (.aload_n 0, 1) := by decide +kernel
theorem d12_readToll_50 : decode prog_14_method_58_code 50 = .ok (.getfield 84, 3) := by decide +kernel
theorem d12_readToll_53 : decode prog_14_method_58_code 53 = .ok (.iload_n 1, 1) := by decide +kernel
theorem d12_readToll_54 : decode prog_14_method_58_code 54 = .ok (.iaload, 1) := by decide +kernel
theorem d12_readToll_55 : decode prog_14_method_58_code 55 = .ok (.ifCond .eq 18, 3) := by decide +kernel
theorem d12_readToll_58 : decode prog_14_method_58_code 58 = .ok (.aload_n 0, 1) := by decide +kernel
theorem d12_readToll_59 : decode prog_14_method_58_code 59 = .ok (.getfield 84, 3) := by decide +kernel
theorem d12_readToll_62 : decode prog_14_method_58_code 62 = .ok (.iload_n 1, 1) := by decide +kernel
theorem d12_readToll_63 : decode prog_14_method_58_code 63 = .ok (.iaload, 1) := by decide +kernel
theorem d12_readToll_64 : decode prog_14_method_58_code 64 = .ok (.aload_n 0, 1) := by decide +kernel
theorem d12_readToll_65 : decode prog_14_method_58_code 65 = .ok (.getfield 81, 3) := by decide +kernel
theorem d12_readToll_68 : decode prog_14_method_58_code 68 = .ok (.iload_n 1, 1) := by decide +kernel
theorem d12_readToll_69 : decode prog_14_method_58_code 69 = .ok (.iaload, 1) := by decide +kernel
theorem d12_readToll_70 : decode prog_14_method_58_code 70 = .ok (.if_icmp .ge 8, 3) := by decide +kernel
theorem d12_readToll_73 : decode prog_14_method_58_code 73 = .ok (.aload_n 0, 1) := by decide +kernel
theorem d12_readToll_74 : decode prog_14_method_58_code 74 = .ok (.iconst 2, 1) := by decide +kernel
theorem d12_readToll_75 : decode prog_14_method_58_code 75 = .ok (.invokevirtual 288, 3) := by decide +kernel
theorem d12_readToll_78 : decode prog_14_method_58_code 78 = .ok (.aload_n 0, 1) := by decide +kernel
theorem d12_readToll_79 : decode prog_14_method_58_code 79 = .ok (.invokevirtual 278, 3) := by decide +kernel
theorem d12_readToll_82 : decode prog_14_method_58_code 82 = .ok (.ifCond .eq 7, 3) := by decide +kernel
theorem d12_readToll_85 : decode prog_14_method_58_code 85 = .ok (.aload_n 0, 1) := by decide +kernel
theorem d12_readToll_86 : decode prog_14_method_58_code 86 = .ok (.invokevirtual 285, 3) := by decide +kernel
theorem d12_readToll_89 : decode prog_14_method_58_code 89 = .ok (.return_, 1) := by decide +kernel
theorem d12_readWay_0 : decode prog_14_method_59_code 0 = .ok (.aload_n 0, 1) := by decide +kernel
theorem d12_readWay_1 : decode prog_14_method_59_code 1 = .ok (.invokevirtual 285, 3) := by decide +kernel
theorem d12_readWay_4 : decode prog_14_method_59_code 4 = .ok (.aload_n 0, 1) := by decide +kernel
theorem d12_readWay_5 : decode prog_14_method_59_code 5 = .ok (.getfield 81, 3) := by decide +kernel
theorem d12_readWay_8 : decode prog_14_method_59_code 8 = .ok (.iload_n 1, 1) := by decide +kernel
theorem d12_readWay_9 : decode prog_14_method_59_code 9 = .ok (.aload_n 0, 1) := by decide +kernel
theorem d12_readWay_10 : decode prog_14_method_59_code 10 = .ok (.invokevirtual 373, 3) := by decide +kernel
theorem d12_readWay_13 : decode prog_14_method_59_code 13 = .ok (.iastore, 1) := by decide +kernel
theorem d12_readWay_14 : decode prog_14_method_59_code 14 = .ok (.aload_n 0, 1) := by decide +kernel
theorem d12_readWay_15 : decode prog_14_method_59_code 15 = .ok (.invokevirtual 278, 3) := by decide +kernel
theorem d12_readWay_18 : decode prog_14_method_59_code 18 = .ok (.ifCond .eq 19, 3) := by decide +kernel
theorem d12_readWay_21 : decode prog_14_method_59_code 21 = .ok (.aload_n 0, 1) := by decide +kernel
theorem d12_readWay_22 : decode prog_14_method_59_code 22 = .ok (.getfield 81, 3) := by decide +kernel
theorem d12_readWay_25 : decode prog_14_method_59_code 25 = .ok (.iload_n 1, 1) := by decide +kernel
theorem d12_readWay_26 : decode prog_14_method_59_code 26 = .ok (.iaload, 1) := by decide +kernel
theorem d12_readWay_27 : decode prog_14_method_59_code 27 = .ok (.bipush 6, 2) := by decide +kernel
theorem d12_readWay_29 : decode prog_14_method_59_code 29 = .ok (.if_icmp .le 8, 3) := by decide +kernel
theorem d12_readWay_32 : decode prog_14_method_59_code 32 = .ok (.aload_n 0, 1) := by decide +kernel
theorem d12_readWay_33 : decode prog_14_method_59_code 33 = .ok (.iconst 2, 1) := by decide +kernel
theorem d12_readWay_34 : decode prog_14_method_59_code 34 = .ok (.invokevirtual 288, 3) := by decide +kernel
theorem d12_readWay_37 : decode prog_14_method_59_code 37 = .ok (.aload_n 0, 1) := by decide +kernel
theorem d12_readWay_38 : decode prog_14_method_59_code 38 = .ok (.invokevirtual 278, 3) := by decide +kernel
theorem d12_readWay_41 : decode prog_14_method_59_code 41 = .ok (.ifCond .eq 7, 3) := by decide +kernel
theorem d12_readWay_44 : decode prog_14_method_59_code 44 = .ok (.aload_n 0, 1) := by decide +kernel
theorem d12_readWay_45 : decode prog_14_method_59_code 45 = .ok (.invokevirtual 285, 3) := by decide +kernel
theorem d12_readWay_48 : decode prog_14_method_59_code 48 = .ok (.return_, 1) := by decide +kernel
theorem d12_readRule_0 : decode prog_14_method_60_code 0 = .ok (.aload_n 0, 1) := by decide +kernel
theorem d12_readRule_1 : decode prog_14_method_60_code 1 = .ok (.ldc_w 296, 3) := by decide +kernel
theorem d12_readRule_4 : decode prog_14_method_60_code 4 = .ok (.invokevirtual 292, 3) := by decide +kernel
theorem d12_readRule_7 : decode prog_14_method_60_code 7 = .ok (.ifCond .eq 7, 3) := by decide +kernel
theorem d12_readRule_10 : decode prog_14_method_60_code 10 = .ok (.iconst 0, 1) := by decide +kernel
theorem d12_readRule_11 : decode prog_14_method_60_code 11 = .ok (.goto 60, 3) := by decide +kernel
theorem d12_readRule_14 : decode prog_14_method_60_code 14 = .ok (.aload_n 0, 1) := by decide +kernel
theorem d12_readRule_15 : decode prog_14_method_60_code 15 = .ok (.ldc_w 298, 3) := by decide +kernel
theorem d12_readRule_18 : decode prog_14_method_60_code 18 = .ok (.invokevirtual 292, 3) := by decide +kernel
theorem d12_readRule_21 : decode prog_14_method_60_code 21 = .ok (.ifCond .eq 7, 3) := by decide +kernel
theorem d12_readRule_24 : decode prog_14_method_60_code 24 = .ok (.iconst 1, 1) := by decide +kernel
theorem d12_readRule_25 : decode prog_14_method_60_code 25 = .ok (.goto 46, 3) := by decide +kernel
theorem d12_readRule_28 : decode prog_14_method_60_code 28 = .ok (.aload_n 0, 1) := by decide +kernel
theorem d12_readRule_29 : decode prog_14_method_60_code 29 = .ok (.ldc_w 300, 3) := by decide +kernel
theorem d12_readRule_32 : decode prog_14_method_60_code 32 = .ok (.invokevirtual 292, 3) := by decide +kernel
theorem d12_readRule_35 : decode prog_14_method_60_code 35 = .ok (.ifCond .eq 7, 3) := by decide +kernel
theorem d12_readRule_38 : decode prog_14_method_60_code 38 = .ok (.iconst 2, 1) := by decide +kernel
theorem d12_readRule_39 : decode prog_14_method_60_code 39 = .ok (.goto 32, 3) := by decide +kernel
theorem d12_readRule_42 : decode prog_14_method_60_code 42 = .ok (.aload_n 0, 1) := by decide +kernel
theorem d12_readRule_43 : decode prog_14_method_60_code 43 = .ok (.ldc_w 302, 3) := by decide +kernel
theorem d12_readRule_46 : decode prog_14_method_60_code 46 = .ok (.invokevirtual 292, 3) := by decide +kernel
theorem d12_readRule_49 : decode prog_14_method_60_code 49 = .ok (.ifCond .eq 7, 3) := by decide +kernel
theorem d12_readRule_52 : decode prog_14_method_60_code 52 = .ok (.iconst 3, 1) := by decide +kernel
theorem d12_readRule_53 : decode prog_14_method_60_code 53 = .ok (.goto 18, 3) := by decide +kernel
theorem d12_readRule_56 : decode prog_14_method_60_code 56 = .ok (.aload_n 0, 1) := by decide +kernel
theorem d12_readRule_57 : decode prog_14_method_60_code 57 = .ok (.ldc_w 306, 3) := by decide +kernel
theorem d12_readRule_60 : decode prog_14_method_60_code 60 = .ok (.invokevirtual 292, 3) := by decide +kernel
theorem d12_readRule_63 : decode prog_14_method_60_code 63 = .ok (.ifCond .eq 7, 3) := by decide +kernel
theorem d12_readRule_66 : decode prog_14_method_60_code 66 = .ok (.iconst 4, 1) := by decide +kernel
theorem d12_readRule_67 : decode prog_14_method_60_code 67 = .ok (.goto 4, 3) := by decide +kernel
theorem d12_readRule_70 : decode prog_14_method_60_code 70 = .ok (.iconst (-1), 1) := by decide +kernel
theorem d12_readRule_71 : decode prog_14_method_60_code 71 = .ok (.istore_n 1, 1) := by decide +kernel
theorem d12_readRule_72 : decode prog_14_method_60_code 72 = .ok (.iload_n 1, 1) := by decide +kernel
theorem d12_readRule_73 : decode prog_14_method_60_code 73 = .ok (.iconst (-1), 1) := by decide +kernel
theorem d12_readRule_74 : decode prog_14_method_60_code 74 = .ok (.if_icmp .ne 11, 3) := by decide +kernel
theorem d12_readRule_77 : decode prog_14_method_60_code 77 = .ok (.aload_n 0, 1) := by decide +kernel
theorem d12_readRule_78 : decode prog_14_method_60_code 78 = .ok (.iconst 1, 1) := by decide +kernel
theorem d12_readRule_79 : decode prog_14_method_60_code 79 = .ok (.invokevirtual 288, 3) := by decide +kernel
theorem d12_readRule_82 : decode prog_14_method_60_code 82 = .ok (.goto 20, 3) := by decide +kernel
theorem d12_readRule_85 : decode prog_14_method_60_code 85 = .ok (.aload_n 0, 1) := by decide +kernel
theorem d12_readRule_86 : decode prog_14_method_60_code 86 = .ok (.getfield 75, 3) := by decide +kernel
theorem d12_readRule_89 : decode prog_14_method_60_code 89 = .ok (.bipush 24, 2) := by decide +kernel
theorem d12_readRule_91 : decode prog_14_method_60_code 91 = .ok (.iaload, 1) := by decide +kernel
theorem d12_readRule_92 : decode prog_14_method_60_code 92 = .ok (.bipush 20, 2) := by decide +kernel
theorem d12_readRule_94 : decode prog_14_method_60_code 94 = .ok (.if_icmp .ne 8, 3) := by decide +kernel
theorem d12_readRule_97 : decode prog_14_method_60_code 97 = .ok (.aload_n 0, 1) := by decide +kernel
theorem d12_readRule_98 : decode prog_14_method_60_code 98 = .ok (.iconst 4, 1) := by decide +kernel
theorem d12_readRule_99 : decode prog_14_method_60_code 99 = .ok (.invokevirtual 288, 3) := by decide +kernel
theorem d12_readRule_102 : decode prog_14_method_60_code 102 = .ok (.aload_n 0, 1) := by decide +kernel
theorem d12_readRule_103 : decode prog_14_method_60_code 103 = .ok (.invokevirtual 278, 3) := by decide +kernel
theorem d12_readRule_106 : decode prog_14_method_60_code 106 = .ok (.ifCond .ne 4, 3) := by decide +kernel
theorem d12_readRule_109 : decode prog_14_method_60_code 109 = .ok (.return_, 1) := by decide +kernel
theorem d12_readRule_110 : decode prog_14_method_60_code 110 = .ok (.sipush 480, 3) := by decide +kernel
theorem d12_readRule_113 : decode prog_14_method_60_code 113 = .ok (.aload_n 0, 1) := by decide +kernel
theorem d12_readRule_114 : decode prog_14_method_60_code 114 = .ok (.getfield 75, 3) := by decide +kernel
theorem d12_readRule_117 : decode prog_14_method_60_code 117 = .ok (.bipush 24, 2) := by decide +kernel
theorem d12_readRule_119 : decode prog_14_method_60_code 119 = .ok (.iaload, 1) := by decide +kernel
theorem d12_readRule_120 : decode prog_14_method_60_code 120 = .ok (.iadd, 1) := by decide +kernel
theorem d12_readRule_121 : decode prog_14_method_60_code 121 = .ok (.istore_n 2, 1) := by decide +kernel
theorem d12_readRule_122 : decode prog_14_method_60_code 122 = .ok (.aload_n 0, 1) := by decide +kernel
theorem d12_readRule_123 : decode prog_14_method_60_code 123 = .ok (.getfield 75, 3) := by decide +kernel
theorem d12_readRule_126 : decode prog_14_method_60_code 126 = .ok (.bipush 24, 2) := by decide +kernel
theorem d12_readRule_128 : decode prog_14_method_60_code 128 = .ok (.dup2, 1) := by decide +kernel
theorem d12_readRule_129 : decode prog_14_method_60_code 129 = .ok (.iaload, 1) := by decide +kernel
theorem d12_readRule_130 : decode prog_14_method_60_code 130 = .ok (.iconst 1, 1) := by decide +kernel
theorem d12_readRule_131 : decode prog_14_method_60_code 131 = .ok (.iadd, 1) := by decide +kernel
theorem d12_readRule_132 : decode prog_14_method_60_code 132 = .ok (.iastore, 1) := by decide +kernel
theorem d12_readRule_133 : decode prog_14_method_60_code 133 = .ok (.aload_n 0, 1) := by decide +kernel
theorem d12_readRule_134 : decode prog_14_method_60_code 134 = .ok (.getfield 78, 3) := by decide +kernel
theorem d12_readRule_137 : decode prog_14_method_60_code 137 = .ok (.iload_n 2, 1) := by decide +kernel
theorem d12_readRule_138 : decode prog_14_method_60_code 138 = .ok (.iload_n 1, 1) := by decide +kernel
theorem d12_readRule_139 : decode prog_14_method_60_code 139 = .ok (.iastore, 1) := by decide +kernel
theorem d12_readRule_140 : decode prog_14_method_60_code 140 = .ok (.aload_n 0, 1) := by decide +kernel
theorem d12_readRule_141 : decode prog_14_method_60_code 141 = .ok (.getfield 87, 3) := by decide +kernel
theorem d12_readRule_144 : decode prog_14_method_60_code 144 = .ok (.iload_n 2, 1) := by decide +kernel
theorem d12_readRule_145 : decode prog_14_method_60_code 145 = .ok (.aload_n 0, 1) := by decide +kernel
theorem d12_readRule_146 : decode prog_14_method_60_code 146 = .ok (.getfield 72, 3) := by decide +kernel
theorem d12_readRule_149 : decode prog_14_method_60_code 149 = .ok (.bipush 24, 2) := by decide +kernel
theorem d12_readRule_151 : decode prog_14_method_60_code 151 = .ok (.iaload, 1) := by decide +kernel
theorem d12_readRule_152 : decode prog_14_method_60_code 152 = .ok (.iastore, 1) := by decide +kernel
theorem d12_readRule_153 : decode prog_14_method_60_code 153 = .ok (.iload_n 1, 1) := by decide +kernel
theorem d12_readRule_154 : decode prog_14_method_60_code 154 = .ok (.ifCond .ne 10, 3) := by decide +kernel
theorem d12_readRule_157 : decode prog_14_method_60_code 157 = .ok (.aload_n 0, 1) := by decide +kernel
theorem d12_readRule_158 : decode prog_14_method_60_code 158 = .ok (.invokevirtual 380, 3) := by decide +kernel
theorem d12_readRule_161 : decode prog_14_method_60_code 161 = .ok (.goto 44, 3) := by decide +kernel
theorem d12_readRule_164 : decode prog_14_method_60_code 164 = .ok (.iload_n 1, 1) := by decide +kernel
theorem d12_readRule_165 : decode prog_14_method_60_code 165 = .ok (.iconst 3, 1) := by decide +kernel
theorem d12_readRule_166 : decode prog_14_method_60_code 166 = .ok (.if_icmp .ne 11, 3) := by decide +kernel
theorem d12_readRule_169 : decode prog_14_method_60_code 169 = .ok (.aload_n 0, 1) := by decide +kernel
theorem d12_readRule_170 : decode prog_14_method_60_code 170 = .ok (.iload_n 2, 1) := by decide +kernel
theorem d12_readRule_171 : decode prog_14_method_60_code 171 = .ok (.invokevirtual 383, 3) := by decide +kernel
theorem d12_readRule_174 : decode prog_14_method_60_code 174 = .ok (.goto 20, 3) := by decide +kernel
theorem d12_readRule_177 : decode prog_14_method_60_code 177 = .ok (.iload_n 1, 1) := by decide +kernel
theorem d12_readRule_178 : decode prog_14_method_60_code 178 = .ok (.iconst 4, 1) := by decide +kernel
theorem d12_readRule_179 : decode prog_14_method_60_code 179 = .ok (.if_icmp .ne 11, 3) := by decide +kernel
theorem d12_readRule_182 : decode prog_14_method_60_code 182 = .ok (.aload_n 0, 1) := by decide +kernel
theorem d12_readRule_183 : decode prog_14_method_60_code 183 = .ok (.iload_n 2, 1) := by decide +kernel
theorem d12_readRule_184 : decode prog_14_method_60_code 184 = .ok (.invokevirtual 386, 3) := by decide +kernel
theorem d12_readRule_187 : decode prog_14_method_60_code 187 = .ok (.goto 7, 3) := by decide +kernel
theorem d12_readRule_190 : decode prog_14_method_60_code 190 = .ok (.aload_n 0, 1) := by decide +kernel
theorem d12_readRule_191 : decode prog_14_method_60_code 191 = .ok (.invokevirtual 285, 3) := by decide +kernel
theorem d12_readRule_194 : decode prog_14_method_60_code 194 = .ok (.aload_n 0, 1) := by decide +kernel
theorem d12_readRule_195 : decode prog_14_method_60_code 195 = .ok (.ldc_w 308, 3) := by decide +kernel
theorem d12_readRule_198 : decode prog_14_method_60_code 198 = .ok (.invokevirtual 376, 3) := by decide +kernel
theorem d12_readRule_201 : decode prog_14_method_60_code 201 = .ok (.aload_n 0, 1) := by decide +kernel
theorem d12_readRule_202 : decode prog_14_method_60_code 202 = .ok (.invokevirtual 361, 3) := by decide +kernel
theorem d12_readRule_205 : decode prog_14_method_60_code 205 = .ok (.aload_n 0, 1) := by decide +kernel
theorem d12_readRule_206 : decode prog_14_method_60_code 206 = .ok (.bipush 59, 2) := by decide +kernel
theorem d12_readRule_208 : decode prog_14_method_60_code 208 = .ok (.invokevirtual 352, 3) := by decide +kernel
theorem d12_readRule_211 : decode prog_14_method_60_code 211 = .ok (.aload_n 0, 1) := by decide +kernel
theorem d12_readRule_212 : decode prog_14_method_60_code 212 = .ok (.getfield 90, 3) := by decide +kernel
theorem d12_readRule_215 : decode prog_14_method_60_code 215 = .ok (.iload_n 2, 1) := by decide +kernel
theorem d12_readRule_216 : decode prog_14_method_60_code 216 = .ok (.aload_n 0, 1) := by decide +kernel
theorem d12_readRule_217 : decode prog_14_method_60_code 217 = .ok (.getfield 72, 3) := by decide +kernel
theorem d12_readRule_220 : decode prog_14_method_60_code 220 = .ok (.bipush 24, 2) := by decide +kernel
theorem d12_readRule_222 : decode prog_14_method_60_code 222 = .ok (.iaload, 1) := by decide +kernel
theorem d12_readRule_223 : decode prog_14_method_60_code 223 = .ok (.iastore, 1) := by decide +kernel
theorem d12_readRule_224 : decode prog_14_method_60_code 224 = .ok (.return_, 1) := by decide +kernel
theorem d12_copyText_0 : decode prog_14_method_61_code 0 = .ok (.aload_n 0, 1) := by decide +kernel
theorem d12_copyText_1 : decode prog_14_method_61_code 1 = .ok (.getfield 72, 3) := by decide +kernel
theorem d12_copyText_4 : decode prog_14_method_61_code 4 = .ok (.iload_n 1, 1) := by decide +kernel
theorem d12_copyText_5 : decode prog_14_method_61_code 5 = .ok (.aload_n 0, 1) := by decide +kernel
theorem d12_copyText_6 : decode prog_14_method_61_code 6 = .ok (.getfield 72, 3) := by decide +kernel
theorem d12_copyText_9 : decode prog_14_method_61_code 9 = .ok (.bipush 24, 2) := by decide +kernel
theorem d12_copyText_11 : decode prog_14_method_61_code 11 = .ok (.iaload, 1) := by decide +kernel
theorem d12_copyText_12 : decode prog_14_method_61_code 12 = .ok (.iastore, 1) := by decide +kernel
theorem d12_copyText_13 : decode prog_14_method_61_code 13 = .ok (.aload_n 0, 1) := by decide +kernel
theorem d12_copyText_14 : decode prog_14_method_61_code 14 = .ok (.getfield 75, 3) := by decide +kernel
theorem d12_copyText_17 : decode prog_14_method_61_code 17 = .ok (.iload_n 1, 1) := by decide +kernel
theorem d12_copyText_18 : decode prog_14_method_61_code 18 = .ok (.aload_n 0, 1) := by decide +kernel
theorem d12_copyText_19 : decode prog_14_method_61_code 19 = .ok (.getfield 75, 3) := by decide +kernel
theorem d12_copyText_22 : decode prog_14_method_61_code 22 = .ok (.bipush 24, 2) := by decide +kernel
theorem d12_copyText_24 : decode prog_14_method_61_code 24 = .ok (.iaload, 1) := by decide +kernel
theorem d12_copyText_25 : decode prog_14_method_61_code 25 = .ok (.iastore, 1) := by decide +kernel
theorem d12_copyText_26 : decode prog_14_method_61_code 26 = .ok (.iconst 0, 1) := by decide +kernel
theorem d12_copyText_27 : decode prog_14_method_61_code 27 = .ok (.istore_n 2, 1) := by decide +kernel
theorem d12_copyText_28 : decode prog_14_method_61_code 28 = .ok (.iload_n 2, 1) := by decide +kernel
theorem d12_copyText_29 : decode prog_14_method_61_code 29 = .ok (.aload_n 0, 1) := by decide +kernel
theorem d12_copyText_30 : decode prog_14_method_61_code 30 = .ok (.getfield 72, 3) := by decide +kernel
theorem d12_copyText_33 : decode prog_14_method_61_code 33 = .ok (.bipush 24, 2) := by decide +kernel
theorem d12_copyText_35 : decode prog_14_method_61_code 35 = .ok (.iaload, 1) := by decide +kernel
theorem d12_copyText_36 : decode prog_14_method_61_code 36 = .ok (.if_icmp .ge 31, 3) := by decide +kernel
theorem d12_copyText_39 : decode prog_14_method_61_code 39 = .ok (.aload_n 0, 1) := by decide +kernel
theorem d12_copyText_40 : decode prog_14_method_61_code 40 = .ok (.getfield 69, 3) := by decide +kernel
theorem d12_copyText_43 : decode prog_14_method_61_code 43 = .ok (.sipush 420, 3) := by decide +kernel
theorem d12_copyText_46 : decode prog_14_method_61_code 46 = .ok (.iload_n 1, 1) := by decide +kernel
theorem d12_copyText_47 : decode prog_14_method_61_code 47 = .ok (.imul, 1) := by decide +kernel
theorem d12_copyText_48 : decode prog_14_method_61_code 48 = .ok (.iload_n 2, 1) := by decide +kernel
theorem d12_copyText_49 : decode prog_14_method_61_code 49 = .ok (.iadd, 1) := by decide +kernel
theorem d12_copyText_50 : decode prog_14_method_61_code 50 = .ok (.aload_n 0, 1) := by decide +kernel
theorem d12_copyText_51 : decode prog_14_method_61_code 51 = .ok (.getfield 69, 3) := by decide +kernel
theorem d12_copyText_54 : decode prog_14_method_61_code 54 = .ok (.sipush 10080, 3) := by decide +kernel
theorem d12_copyText_57 : decode prog_14_method_61_code 57 = .ok (.iload_n 2, 1) := by decide +kernel
theorem d12_copyText_58 : decode prog_14_method_61_code 58 = .ok (.iadd, 1) := by decide +kernel
theorem d12_copyText_59 : decode prog_14_method_61_code 59 = .ok (.iaload, 1) := by decide +kernel
theorem d12_copyText_60 : decode prog_14_method_61_code 60 = .ok (.iastore, 1) := by decide +kernel
theorem d12_copyText_61 : decode prog_14_method_61_code 61 = .ok (.iinc 2 1, 3) := by decide +kernel
theorem d12_copyText_64 : decode prog_14_method_61_code 64 = .ok (.goto (-36), 3) := by decide +kernel
theorem d12_copyText_67 : decode prog_14_method_61_code 67 = .ok (.iconst 0, 1) := by decide +kernel
theorem d12_copyText_68 : decode prog_14_method_61_code 68 = .ok (.istore_n 2, 1) := by decide +kernel
theorem d12_copyText_69 : decode prog_14_method_61_code 69 = .ok (.iload_n 2, 1) := by decide +kernel
theorem d12_copyText_70 : decode prog_14_method_61_code 70 = .ok (.aload_n 0, 1) := by decide +kernel
theorem d12_copyText_71 : decode prog_14_method_61_code 71 = .ok (.getfield 75, 3) := by decide +kernel
theorem d12_copyText_74 : decode prog_14_method_61_code 74 = .ok (.bipush 24, 2) := by decide +kernel
theorem d12_copyText_76 : decode prog_14_method_61_code 76 = .ok (.iaload, 1) := by decide +kernel
theorem d12_copyText_77 : decode prog_14_method_61_code 77 = .ok (.if_icmp .ge 88, 3) := by decide +kernel
theorem d12_copyText_80 : decode prog_14_method_61_code 80 = .ok (.sipush 480, 3) := by decide +kernel
theorem d12_copyText_83 : decode prog_14_method_61_code 83 = .ok (.iload_n 2, 1) := by decide +kernel
theorem d12_copyText_84 : decode prog_14_method_61_code 84 = .ok (.iadd, 1) := by decide +kernel
theorem d12_copyText_85 : decode prog_14_method_61_code 85 = .ok (.istore_n 3, 1) := by decide +kernel
theorem d12_copyText_86 : decode prog_14_method_61_code 86 = .ok (.bipush 20, 2) := by decide +kernel
theorem d12_copyText_88 : decode prog_14_method_61_code 88 = .ok (.iload_n 1, 1) := by decide +kernel
theorem d12_copyText_89 : decode prog_14_method_61_code 89 = .ok (.imul, 1) := by decide +kernel
theorem d12_copyText_90 : decode prog_14_method_61_code 90 = .ok (.iload_n 2, 1) := by decide +kernel
theorem d12_copyText_91 : decode prog_14_method_61_code 91 = .ok (.iadd, 1) := by decide +kernel
theorem d12_copyText_92 : decode prog_14_method_61_code 92 = .ok (.istore 4, 2) := by decide +kernel
theorem d12_copyText_94 : decode prog_14_method_61_code 94 = .ok (.aload_n 0, 1) := by decide +kernel
theorem d12_copyText_95 : decode prog_14_method_61_code 95 = .ok (.getfield 78, 3) := by decide +kernel
theorem d12_copyText_98 : decode prog_14_method_61_code 98 = .ok (.iload 4, 2) := by decide +kernel
theorem d12_copyText_100 : decode prog_14_method_61_code 100 = .ok (.aload_n 0, 1) := by decide +kernel
theorem d12_copyText_101 : decode prog_14_method_61_code 101 = .ok (.getfield 78, 3) := by decide +kernel
theorem d12_copyText_104 : decode prog_14_method_61_code 104 = .ok (.iload_n 3, 1) := by decide +kernel
theorem d12_copyText_105 : decode prog_14_method_61_code 105 = .ok (.iaload, 1) := by decide +kernel
theorem d12_copyText_106 : decode prog_14_method_61_code 106 = .ok (.iastore, 1) := by decide +kernel
theorem d12_copyText_107 : decode prog_14_method_61_code 107 = .ok (.aload_n 0, 1) := by decide +kernel
theorem d12_copyText_108 : decode prog_14_method_61_code 108 = .ok (.getfield 81, 3) := by decide +kernel
theorem d12_copyText_111 : decode prog_14_method_61_code 111 = .ok (.iload 4, 2) := by decide +kernel
theorem d12_copyText_113 : decode prog_14_method_61_code 113 = .ok (.aload_n 0, 1) := by decide +kernel
theorem d12_copyText_114 : decode prog_14_method_61_code 114 = .ok (.getfield 81, 3) := by decide +kernel
theorem d12_copyText_117 : decode prog_14_method_61_code 117 = .ok (.iload_n 3, 1) := by decide +kernel
theorem d12_copyText_118 : decode prog_14_method_61_code 118 = .ok (.iaload, 1) := by decide +kernel
theorem d12_copyText_119 : decode prog_14_method_61_code 119 = .ok (.iastore, 1) := by decide +kernel
theorem d12_copyText_120 : decode prog_14_method_61_code 120 = .ok (.aload_n 0, 1) := by decide +kernel
theorem d12_copyText_121 : decode prog_14_method_61_code 121 = .ok (.getfield 84, 3) := by decide +kernel
theorem d12_copyText_124 : decode prog_14_method_61_code 124 = .ok (.iload 4, 2) := by decide +kernel
theorem d12_copyText_126 : decode prog_14_method_61_code 126 = .ok (.aload_n 0, 1) := by decide +kernel
theorem d12_copyText_127 : decode prog_14_method_61_code 127 = .ok (.getfield 84, 3) := by decide +kernel
theorem d12_copyText_130 : decode prog_14_method_61_code 130 = .ok (.iload_n 3, 1) := by decide +kernel
theorem d12_copyText_131 : decode prog_14_method_61_code 131 = .ok (.iaload, 1) := by decide +kernel
theorem d12_copyText_132 : decode prog_14_method_61_code 132 = .ok (.iastore, 1) := by decide +kernel
theorem d12_copyText_133 : decode prog_14_method_61_code 133 = .ok (.aload_n 0, 1) := by decide +kernel
theorem d12_copyText_134 : decode prog_14_method_61_code 134 = .ok (.getfield 87, 3) := by decide +kernel
theorem d12_copyText_137 : decode prog_14_method_61_code 137 = .ok (.iload 4, 2) := by decide +kernel
theorem d12_copyText_139 : decode prog_14_method_61_code 139 = .ok (.aload_n 0, 1) := by decide +kernel
theorem d12_copyText_140 : decode prog_14_method_61_code 140 = .ok (.getfield 87, 3) := by decide +kernel
theorem d12_copyText_143 : decode prog_14_method_61_code 143 = .ok (.iload_n 3, 1) := by decide +kernel
theorem d12_copyText_144 : decode prog_14_method_61_code 144 = .ok (.iaload, 1) := by decide +kernel
theorem d12_copyText_145 : decode prog_14_method_61_code 145 = .ok (.iastore, 1) := by decide +kernel
theorem d12_copyText_146 : decode prog_14_method_61_code 146 = .ok (.aload_n 0, 1) := by decide +kernel
theorem d12_copyText_147 : decode prog_14_method_61_code 147 = .ok (.getfield 90, 3) := by decide +kernel
theorem d12_copyText_150 : decode prog_14_method_61_code 150 = .ok (.iload 4, 2) := by decide +kernel
theorem d12_copyText_152 : decode prog_14_method_61_code 152 = .ok (.aload_n 0, 1) := by decide +kernel
theorem d12_copyText_153 : decode prog_14_method_61_code 153 = .ok (.getfield 90, 3) := by decide +kernel
theorem d12_copyText_156 : decode prog_14_method_61_code 156 = .ok (.iload_n 3, 1) := by decide +kernel
theorem d12_copyText_157 : decode prog_14_method_61_code 157 = .ok (.iaload, 1) := by decide +kernel
theorem d12_copyText_158 : decode prog_14_method_61_code 158 = .ok (.iastore, 1) := by decide +kernel
theorem d12_copyText_159 : decode prog_14_method_61_code 159 = .ok (.iinc 2 1, 3) := by decide +kernel
theorem d12_copyText_162 : decode prog_14_method_61_code 162 = .ok (.goto (-93), 3) := by decide +kernel
theorem d12_copyText_165 : decode prog_14_method_61_code 165 = .ok (.return_, 1) := by decide +kernel
theorem d12_rules_0 : decode prog_14_method_62_code 0 = .ok (.aload_n 0, 1) := by decide +kernel
theorem d12_rules_1 : decode prog_14_method_62_code 1 = .ok (.iconst 0, 1) := by decide +kernel
theorem d12_rules_2 : decode prog_14_method_62_code 2 = .ok (.putfield 1, 3) := by decide +kernel
theorem d12_rules_5 : decode prog_14_method_62_code 5 = .ok (.iload_n 1, 1) := by decide +kernel
theorem d12_rules_6 : decode prog_14_method_62_code 6 = .ok (.iconst 0, 1) := by decide +kernel
theorem d12_rules_7 : decode prog_14_method_62_code 7 = .ok (.iconst 1, 1) := by decide +kernel
theorem d12_rules_8 : decode prog_14_method_62_code 8 = .ok (.invokestatic 176, 3) := by decide +kernel
theorem d12_rules_11 : decode prog_14_method_62_code 11 = .ok (.ifCond .eq 21, 3) := by decide +kernel
theorem d12_rules_14 : decode prog_14_method_62_code 14 = .ok (.iload_n 2, 1) := by decide +kernel
theorem d12_rules_15 : decode prog_14_method_62_code 15 = .ok (.invokestatic 220, 3) := by decide +kernel
theorem d12_rules_18 : decode prog_14_method_62_code 18 = .ok (.ifCond .eq 14, 3) := by decide +kernel
theorem d12_rules_21 : decode prog_14_method_62_code 21 = .ok (.aload_n 0, 1) := by decide +kernel
theorem d12_rules_22 : decode prog_14_method_62_code 22 = .ok (.getfield 99, 3) := by decide +kernel
theorem d12_rules_25 : decode prog_14_method_62_code 25 = .ok (.iload_n 1, 1) := by decide +kernel
theorem d12_rules_26 : decode prog_14_method_62_code 26 = .ok (.iaload, 1) := by decide +kernel
theorem d12_rules_27 : decode prog_14_method_62_code 27 = .ok (.bipush 12, 2) := by decide +kernel
theorem d12_rules_29 : decode prog_14_method_62_code 29 = .ok (.if_icmp .ne 5, 3) := by decide +kernel
theorem d12_rules_32 : decode prog_14_method_62_code 32 = .ok (.iconst (-1), 1) := by decide +kernel
theorem d12_rules_33 : decode prog_14_method_62_code 33 = .ok (.ireturn, 1) := by decide +kernel
theorem d12_rules_34 : decode prog_14_method_62_code 34 = .ok (.aload_n 0, 1) := by decide +kernel
theorem d12_rules_35 : decode prog_14_method_62_code 35 = .ok (.iconst 0, 1) := by decide +kernel
theorem d12_rules_36 : decode prog_14_method_62_code 36 = .ok (.putfield 272, 3) := by decide +kernel
theorem d12_rules_39 : decode prog_14_method_62_code 39 = .ok (.aload_n 0, 1) := by decide +kernel
theorem d12_rules_40 : decode prog_14_method_62_code 40 = .ok (.iconst 0, 1) := by decide +kernel
theorem d12_rules_41 : decode prog_14_method_62_code 41 = .ok (.putfield 241, 3) := by decide +kernel
theorem d12_rules_44 : decode prog_14_method_62_code 44 = .ok (.aload_n 0, 1) := by decide +kernel
theorem d12_rules_45 : decode prog_14_method_62_code 45 = .ok (.iconst 0, 1) := by decide +kernel
theorem d12_rules_46 : decode prog_14_method_62_code 46 = .ok (.putfield 334, 3) := by decide +kernel
theorem d12_rules_49 : decode prog_14_method_62_code 49 = .ok (.aload_n 0, 1) := by decide +kernel
theorem d12_rules_50 : decode prog_14_method_62_code 50 = .ok (.iconst 0, 1) := by decide +kernel
theorem d12_rules_51 : decode prog_14_method_62_code 51 = .ok (.putfield 331, 3) := by decide +kernel
theorem d12_rules_54 : decode prog_14_method_62_code 54 = .ok (.aload_n 0, 1) := by decide +kernel
theorem d12_rules_55 : decode prog_14_method_62_code 55 = .ok (.getfield 72, 3) := by decide +kernel
theorem d12_rules_58 : decode prog_14_method_62_code 58 = .ok (.bipush 24, 2) := by decide +kernel
theorem d12_rules_60 : decode prog_14_method_62_code 60 = .ok (.iconst 0, 1) := by decide +kernel
theorem d12_rules_61 : decode prog_14_method_62_code 61 = .ok (.iastore, 1) := by decide +kernel
theorem d12_rules_62 : decode prog_14_method_62_code 62 = .ok (.aload_n 0, 1) := by decide +kernel
theorem d12_rules_63 : decode prog_14_method_62_code 63 = .ok (.getfield 75, 3) := by decide +kernel
theorem d12_rules_66 : decode prog_14_method_62_code 66 = .ok (.bipush 24, 2) := by decide +kernel
theorem d12_rules_68 : decode prog_14_method_62_code 68 = .ok (.iconst 0, 1) := by decide +kernel
theorem d12_rules_69 : decode prog_14_method_62_code 69 = .ok (.iastore, 1) := by decide +kernel
theorem d12_rules_70 : decode prog_14_method_62_code 70 = .ok (.aload_n 0, 1) := by decide +kernel
theorem d12_rules_71 : decode prog_14_method_62_code 71 = .ok (.invokevirtual 285, 3) := by decide +kernel
theorem d12_rules_74 : decode prog_14_method_62_code 74 = .ok (.aload_n 0, 1) := by decide +kernel
theorem d12_rules_75 : decode prog_14_method_62_code 75 = .ok (.invokevirtual 278, 3) := by decide +kernel
theorem d12_rules_78 : decode prog_14_method_62_code 78 = .ok (.ifCond .eq 17, 3) := by decide +kernel
theorem d12_rules_81 : decode prog_14_method_62_code 81 = .ok (.aload_n 0, 1) := by decide +kernel
theorem d12_rules_82 : decode prog_14_method_62_code 82 = .ok (.getfield 247, 3) := by decide +kernel
theorem d12_rules_85 : decode prog_14_method_62_code 85 = .ok (.ifCond .eq 10, 3) := by decide +kernel
theorem d12_rules_88 : decode prog_14_method_62_code 88 = .ok (.aload_n 0, 1) := by decide +kernel
theorem d12_rules_89 : decode prog_14_method_62_code 89 = .ok (.invokevirtual 389, 3) := by decide +kernel
theorem d12_rules_92 : decode prog_14_method_62_code 92 = .ok (.goto (-18), 3) := by decide +kernel
theorem d12_rules_95 : decode prog_14_method_62_code 95 = .ok (.aload_n 0, 1) := by decide +kernel
theorem d12_rules_96 : decode prog_14_method_62_code 96 = .ok (.iconst 0, 1) := by decide +kernel
theorem d12_rules_97 : decode prog_14_method_62_code 97 = .ok (.putfield 238, 3) := by decide +kernel
theorem d12_rules_100 : decode prog_14_method_62_code 100 = .ok (.aload_n 0, 1) := by decide +kernel
theorem d12_rules_101 : decode prog_14_method_62_code 101 = .ok (.aload_n 0, 1) := by decide +kernel
theorem d12_rules_102 : decode prog_14_method_62_code 102 = .ok (.invokevirtual 278, 3) := by decide +kernel
theorem d12_rules_105 : decode prog_14_method_62_code 105 = .ok (.ifCond .eq 7, 3) := by decide +kernel
theorem d12_rules_108 : decode prog_14_method_62_code 108 = .ok (.iconst (-1), 1) := by decide +kernel
theorem d12_rules_109 : decode prog_14_method_62_code 109 = .ok (.goto 7, 3) := by decide +kernel
theorem d12_rules_112 : decode prog_14_method_62_code 112 = .ok (.aload_n 0, 1) := by decide +kernel
theorem d12_rules_113 : decode prog_14_method_62_code 113 = .ok (.getfield 275, 3) := by decide +kernel
theorem d12_rules_116 : decode prog_14_method_62_code 116 = .ok (.putfield 106, 3) := by decide +kernel
theorem d12_rules_119 : decode prog_14_method_62_code 119 = .ok (.aload_n 0, 1) := by decide +kernel
theorem d12_rules_120 : decode prog_14_method_62_code 120 = .ok (.invokevirtual 278, 3) := by decide +kernel
theorem d12_rules_123 : decode prog_14_method_62_code 123 = .ok (.ifCond .ne 10, 3) := by decide +kernel
theorem d12_rules_126 : decode prog_14_method_62_code 126 = .ok (.iconst (-1), 1) := by decide +kernel
theorem d12_rules_127 : decode prog_14_method_62_code 127 = .ok (.aload_n 0, 1) := by decide +kernel
theorem d12_rules_128 : decode prog_14_method_62_code 128 = .ok (.getfield 272, 3) := by decide +kernel
theorem d12_rules_131 : decode prog_14_method_62_code 131 = .ok (.isub, 1) := by decide +kernel
theorem d12_rules_132 : decode prog_14_method_62_code 132 = .ok (.ireturn, 1) := by decide +kernel
theorem d12_rules_133 : decode prog_14_method_62_code 133 = .ok (.bipush 12, 2) := by decide +kernel
theorem d12_rules_135 : decode prog_14_method_62_code 135 = .ok (.iload_n 1, 1) := by decide +kernel
theorem d12_rules_136 : decode prog_14_method_62_code 136 = .ok (.imul, 1) := by decide +kernel
theorem d12_rules_137 : decode prog_14_method_62_code 137 = .ok (.aload_n 0, 1) := by decide +kernel
theorem d12_rules_138 : decode prog_14_method_62_code 138 = .ok (.getfield 99, 3) := by decide +kernel
theorem d12_rules_141 : decode prog_14_method_62_code 141 = .ok (.iload_n 1, 1) := by decide +kernel
theorem d12_rules_142 : decode prog_14_method_62_code 142 = .ok (.iaload, 1) := by decide +kernel
theorem d12_rules_143 : decode prog_14_method_62_code 143 = .ok (.iadd, 1) := by decide +kernel
theorem d12_rules_144 : decode prog_14_method_62_code 144 = .ok (.istore_n 3, 1) := by decide +kernel
theorem d12_rules_145 : decode prog_14_method_62_code 145 = .ok (.aload_n 0, 1) := by decide +kernel
theorem d12_rules_146 : decode prog_14_method_62_code 146 = .ok (.iload_n 3, 1) := by decide +kernel
theorem d12_rules_147 : decode prog_14_method_62_code 147 = .ok (.invokevirtual 392, 3) := by decide +kernel
theorem d12_rules_150 : decode prog_14_method_62_code 150 = .ok (.aload_n 0, 1) := by decide +kernel
theorem d12_rules_151 : decode prog_14_method_62_code 151 = .ok (.getfield 93, 3) := by decide +kernel
theorem d12_rules_154 : decode prog_14_method_62_code 154 = .ok (.iload_n 3, 1) := by decide +kernel
theorem d12_rules_155 : decode prog_14_method_62_code 155 = .ok (.iload_n 2, 1) := by decide +kernel
theorem d12_rules_156 : decode prog_14_method_62_code 156 = .ok (.iastore, 1) := by decide +kernel
theorem d12_rules_157 : decode prog_14_method_62_code 157 = .ok (.aload_n 0, 1) := by decide +kernel
theorem d12_rules_158 : decode prog_14_method_62_code 158 = .ok (.getfield 96, 3) := by decide +kernel
theorem d12_rules_161 : decode prog_14_method_62_code 161 = .ok (.iload_n 3, 1) := by decide +kernel
theorem d12_rules_162 : decode prog_14_method_62_code 162 = .ok (.aload_n 0, 1) := by decide +kernel
theorem d12_rules_163 : decode prog_14_method_62_code 163 = .ok (.getfield 194, 3) := by decide +kernel
theorem d12_rules_166 : decode prog_14_method_62_code 166 = .ok (.iastore, 1) := by decide +kernel
theorem d12_rules_167 : decode prog_14_method_62_code 167 = .ok (.aload_n 0, 1) := by decide +kernel
theorem d12_rules_168 : decode prog_14_method_62_code 168 = .ok (.getfield 99, 3) := by decide +kernel
theorem d12_rules_171 : decode prog_14_method_62_code 171 = .ok (.iload_n 1, 1) := by decide +kernel
theorem d12_rules_172 : decode prog_14_method_62_code 172 = .ok (.dup2, 1) := by decide +kernel
theorem d12_rules_173 : decode prog_14_method_62_code 173 = .ok (.iaload, 1) := by decide +kernel
theorem d12_rules_174 : decode prog_14_method_62_code 174 = .ok (.iconst 1, 1) := by decide +kernel
theorem d12_rules_175 : decode prog_14_method_62_code 175 = .ok (.iadd, 1) := by decide +kernel
theorem d12_rules_176 : decode prog_14_method_62_code 176 = .ok (.iastore, 1) := by decide +kernel
theorem d12_rules_177 : decode prog_14_method_62_code 177 = .ok (.aload_n 0, 1) := by decide +kernel
theorem d12_rules_178 : decode prog_14_method_62_code 178 = .ok (.getfield 75, 3) := by decide +kernel
theorem d12_rules_181 : decode prog_14_method_62_code 181 = .ok (.iload_n 3, 1) := by decide +kernel
theorem d12_rules_182 : decode prog_14_method_62_code 182 = .ok (.iaload, 1) := by decide +kernel
theorem d12_rules_183 : decode prog_14_method_62_code 183 = .ok (.ireturn, 1) := by decide +kernel
theorem d12_place_0 : decode prog_14_method_63_code 0 = .ok (.aload_n 0, 1) := by decide +kernel
theorem d12_place_1 : decode prog_14_method_63_code 1 = .ok (.iconst 0, 1) := by decide +kernel
theorem d12_place_2 : decode prog_14_method_63_code 2 = .ok (.putfield 1, 3) := by decide +kernel
theorem d12_place_5 : decode prog_14_method_63_code 5 = .ok (.aload_n 0, 1) := by decide +kernel
theorem d12_place_6 : decode prog_14_method_63_code 6 = .ok (.getfield 106, 3) := by decide +kernel
theorem d12_place_9 : decode prog_14_method_63_code 9 = .ok (.ireturn, 1) := by decide +kernel
theorem d12_textOf_0 : decode prog_14_method_64_code 0 = .ok (.iconst (-1), 1) := by decide +kernel
theorem d12_textOf_1 : decode prog_14_method_64_code 1 = .ok (.istore 4, 2) := by decide +kernel
theorem d12_textOf_3 : decode prog_14_method_64_code 3 = .ok (.bipush 12, 2) := by decide +kernel
theorem d12_textOf_5 : decode prog_14_method_64_code 5 = .ok (.iload_n 1, 1) := by decide +kernel
theorem d12_textOf_6 : decode prog_14_method_64_code 6 = .ok (.imul, 1) := by decide +kernel
theorem d12_textOf_7 : decode prog_14_method_64_code 7 = .ok (.istore 5, 2) := by decide +kernel
theorem d12_textOf_9 : decode prog_14_method_64_code 9 = .ok (.iload 5, 2) := by decide +kernel
theorem d12_textOf_11 : decode prog_14_method_64_code 11 = .ok (.bipush 12, 2) := by decide +kernel
theorem d12_textOf_13 : decode prog_14_method_64_code 13 = .ok (.iload_n 1, 1) := by decide +kernel
theorem d12_textOf_14 : decode prog_14_method_64_code 14 = .ok (.imul, 1) := by decide +kernel
theorem d12_textOf_15 : decode prog_14_method_64_code 15 = .ok (.aload_n 0, 1) := by decide +kernel
theorem d12_textOf_16 : decode prog_14_method_64_code 16 = .ok (.getfield 99, 3) := by decide +kernel
theorem d12_textOf_19 : decode prog_14_method_64_code 19 = .ok (.iload_n 1, 1) := by decide +kernel
theorem d12_textOf_20 : decode prog_14_method_64_code 20 = .ok (.iaload, 1) := by decide +kernel
theorem d12_textOf_21 : decode prog_14_method_64_code 21 = .ok (.iadd, 1) := by decide +kernel
theorem d12_textOf_22 : decode prog_14_method_64_code 22 = .ok (.if_icmp .ge 61, 3) := by decide +kernel
theorem d12_textOf_25 : decode prog_14_method_64_code 25 = .ok (.aload_n 0, 1) := by decide +kernel
theorem d12_textOf_26 : decode prog_14_method_64_code 26 = .ok (.getfield 96, 3) := by decide +kernel
theorem d12_textOf_29 : decode prog_14_method_64_code 29 = .ok (.iload 5, 2) := by decide +kernel
theorem d12_textOf_31 : decode prog_14_method_64_code 31 = .ok (.iaload, 1) := by decide +kernel
theorem d12_textOf_32 : decode prog_14_method_64_code 32 = .ok (.iload_n 3, 1) := by decide +kernel
theorem d12_textOf_33 : decode prog_14_method_64_code 33 = .ok (.if_icmp .gt 44, 3) := by decide +kernel
theorem d12_textOf_36 : decode prog_14_method_64_code 36 = .ok (.aload_n 0, 1) := by decide +kernel
theorem d12_textOf_37 : decode prog_14_method_64_code 37 = .ok (.getfield 93, 3) := by decide +kernel
theorem d12_textOf_40 : decode prog_14_method_64_code 40 = .ok (.iload 5, 2) := by decide +kernel
theorem d12_textOf_42 : decode prog_14_method_64_code 42 = .ok (.iaload, 1) := by decide +kernel
theorem d12_textOf_43 : decode prog_14_method_64_code 43 = .ok (.iload_n 2, 1) := by decide +kernel
theorem d12_textOf_44 : decode prog_14_method_64_code 44 = .ok (.if_icmp .le 6, 3) := by decide +kernel
theorem d12_textOf_47 : decode prog_14_method_64_code 47 = .ok (.goto 30, 3) := by decide +kernel
theorem d12_textOf_50 : decode prog_14_method_64_code 50 = .ok (.iload 4, 2) := by decide +kernel
theorem d12_textOf_52 : decode prog_14_method_64_code 52 = .ok (.iconst (-1), 1) := by decide +kernel
theorem d12_textOf_53 : decode prog_14_method_64_code 53 = .ok (.if_icmp .eq 20, 3) := by decide +kernel
theorem d12_textOf_56 : decode prog_14_method_64_code 56 = .ok (.aload_n 0, 1) := by decide +kernel
theorem d12_textOf_57 : decode prog_14_method_64_code 57 = .ok (.getfield 93, 3) := by decide +kernel
theorem d12_textOf_60 : decode prog_14_method_64_code 60 = .ok (.iload 5, 2) := by decide +kernel
theorem d12_textOf_62 : decode prog_14_method_64_code 62 = .ok (.iaload, 1) := by decide +kernel
theorem d12_textOf_63 : decode prog_14_method_64_code 63 = .ok (.aload_n 0, 1) := by decide +kernel
theorem d12_textOf_64 : decode prog_14_method_64_code 64 = .ok (.getfield 93, 3) := by decide +kernel
theorem d12_textOf_67 : decode prog_14_method_64_code 67 = .ok (.iload 4, 2) := by decide +kernel
theorem d12_textOf_69 : decode prog_14_method_64_code 69 = .ok (.iaload, 1) := by decide +kernel
theorem d12_textOf_70 : decode prog_14_method_64_code 70 = .ok (.if_icmp .lt 7, 3) := by decide +kernel
theorem d12_textOf_73 : decode prog_14_method_64_code 73 = .ok (.iload 5, 2) := by decide +kernel
theorem d12_textOf_75 : decode prog_14_method_64_code 75 = .ok (.istore 4, 2) := by decide +kernel
theorem d12_textOf_77 : decode prog_14_method_64_code 77 = .ok (.iinc 5 1, 3) := by decide +kernel
theorem d12_textOf_80 : decode prog_14_method_64_code 80 = .ok (.goto (-71), 3) := by decide +kernel
theorem d12_textOf_83 : decode prog_14_method_64_code 83 = .ok (.iload 4, 2) := by decide +kernel
theorem d12_textOf_85 : decode prog_14_method_64_code 85 = .ok (.ireturn, 1) := by decide +kernel
theorem d12_bounded_0 : decode prog_14_method_65_code 0 = .ok (.lload_n 0, 1) := by decide +kernel
theorem d12_bounded_1 : decode prog_14_method_65_code 1 = .ok (.ldc2_w 395, 3) := by decide +kernel
theorem d12_bounded_4 : decode prog_14_method_65_code 4 = .ok (.lcmp, 1) := by decide +kernel
theorem d12_bounded_5 : decode prog_14_method_65_code 5 = .ok (.ifCond .le 9, 3) := by decide +kernel
theorem d12_bounded_8 : decode prog_14_method_65_code 8 = .ok (.ldc_w 397, 3) := by decide +kernel
theorem d12_bounded_11 : decode prog_14_method_65_code 11 = .ok (.goto 19, 3) := by decide +kernel
theorem d12_bounded_14 : decode prog_14_method_65_code 14 = .ok (.lload_n 0, 1) := by decide +kernel
theorem d12_bounded_15 : decode prog_14_method_65_code 15 = .ok (.ldc2_w 398, 3) := by decide +kernel
theorem d12_bounded_18 : decode prog_14_method_65_code 18 = .ok (.lcmp, 1) := by decide +kernel
theorem d12_bounded_19 : decode prog_14_method_65_code 19 = .ok (.ifCond .ge 9, 3) := by decide +kernel
theorem d12_bounded_22 : decode prog_14_method_65_code 22 = .ok (.ldc_w 400, 3) := by decide +kernel
theorem d12_bounded_25 : decode prog_14_method_65_code 25 = .ok (.goto 5, 3) := by decide +kernel
theorem d12_bounded_28 : decode prog_14_method_65_code 28 = .ok (.lload_n 0, 1) := by decide +kernel
theorem d12_bounded_29 : decode prog_14_method_65_code 29 = .ok (.l2i, 1) := by decide +kernel
theorem d12_bounded_30 : decode prog_14_method_65_code 30 = .ok (.ireturn, 1) := by decide +kernel
theorem d12_joined_0 : decode prog_14_method_67_code 0 = .ok (.iload_n 0, 1) := by decide +kernel
theorem d12_joined_1 : decode prog_14_method_67_code 1 = .ok (.tableswitch 107 (-7) (-1) #[103, 92, 81, 70, 61, 52, 43], 43) := by decide +kernel
theorem d12_joined_44 : decode prog_14_method_67_code 44 = .ok (.iload_n 1, 1) := by decide +kernel
theorem d12_joined_45 : decode prog_14_method_67_code 45 = .ok (.i2l, 1) := by decide +kernel
theorem d12_joined_46 : decode prog_14_method_67_code 46 = .ok (.iload_n 2, 1) := by decide +kernel
theorem d12_joined_47 : decode prog_14_method_67_code 47 = .ok (.i2l, 1) := by decide +kernel
theorem d12_joined_48 : decode prog_14_method_67_code 48 = .ok (.ladd, 1) := by decide +kernel
theorem d12_joined_49 : decode prog_14_method_67_code 49 = .ok (.invokestatic 405, 3) := by decide +kernel
theorem d12_joined_52 : decode prog_14_method_67_code 52 = .ok (.ireturn, 1) := by decide +kernel
theorem d12_joined_53 : decode prog_14_method_67_code 53 = .ok (.iload_n 1, 1) := by decide +kernel
theorem d12_joined_54 : decode prog_14_method_67_code 54 = .ok (.i2l, 1) := by decide +kernel
theorem d12_joined_55 : decode prog_14_method_67_code 55 = .ok (.iload_n 2, 1) := by decide +kernel
theorem d12_joined_56 : decode prog_14_method_67_code 56 = .ok (.i2l, 1) := by decide +kernel
theorem d12_joined_57 : decode prog_14_method_67_code 57 = .ok (.lsub, 1) := by decide +kernel
theorem d12_joined_58 : decode prog_14_method_67_code 58 = .ok (.invokestatic 405, 3) := by decide +kernel
theorem d12_joined_61 : decode prog_14_method_67_code 61 = .ok (.ireturn, 1) := by decide +kernel
theorem d12_joined_62 : decode prog_14_method_67_code 62 = .ok (.iload_n 1, 1) := by decide +kernel
theorem d12_joined_63 : decode prog_14_method_67_code 63 = .ok (.i2l, 1) := by decide +kernel
theorem d12_joined_64 : decode prog_14_method_67_code 64 = .ok (.iload_n 2, 1) := by decide +kernel
theorem d12_joined_65 : decode prog_14_method_67_code 65 = .ok (.i2l, 1) := by decide +kernel
theorem d12_joined_66 : decode prog_14_method_67_code 66 = .ok (.lmul, 1) := by decide +kernel
theorem d12_joined_67 : decode prog_14_method_67_code 67 = .ok (.invokestatic 405, 3) := by decide +kernel
theorem d12_joined_70 : decode prog_14_method_67_code 70 = .ok (.ireturn, 1) := by decide +kernel
theorem d12_joined_71 : decode prog_14_method_67_code 71 = .ok (.iload_n 1, 1) := by decide +kernel
theorem d12_joined_72 : decode prog_14_method_67_code 72 = .ok (.iload_n 2, 1) := by decide +kernel
theorem d12_joined_73 : decode prog_14_method_67_code 73 = .ok (.if_icmp .ge 7, 3) := by decide +kernel
theorem d12_joined_76 : decode prog_14_method_67_code 76 = .ok (.iconst 1, 1) := by decide +kernel
theorem d12_joined_77 : decode prog_14_method_67_code 77 = .ok (.goto 4, 3) := by decide +kernel
theorem d12_joined_80 : decode prog_14_method_67_code 80 = .ok (.iconst 0, 1) := by decide +kernel
theorem d12_joined_81 : decode prog_14_method_67_code 81 = .ok (.ireturn, 1) := by decide +kernel
theorem d12_joined_82 : decode prog_14_method_67_code 82 = .ok (.iload_n 1, 1) := by decide +kernel
theorem d12_joined_83 : decode prog_14_method_67_code 83 = .ok (.iload_n 2, 1) := by decide +kernel
theorem d12_joined_84 : decode prog_14_method_67_code 84 = .ok (.if_icmp .le 7, 3) := by decide +kernel
theorem d12_joined_87 : decode prog_14_method_67_code 87 = .ok (.iconst 1, 1) := by decide +kernel
theorem d12_joined_88 : decode prog_14_method_67_code 88 = .ok (.goto 4, 3) := by decide +kernel
theorem d12_joined_91 : decode prog_14_method_67_code 91 = .ok (.iconst 0, 1) := by decide +kernel
theorem d12_joined_92 : decode prog_14_method_67_code 92 = .ok (.ireturn, 1) := by decide +kernel
theorem d12_joined_93 : decode prog_14_method_67_code 93 = .ok (.iload_n 1, 1) := by decide +kernel
theorem d12_joined_94 : decode prog_14_method_67_code 94 = .ok (.iload_n 2, 1) := by decide +kernel
theorem d12_joined_95 : decode prog_14_method_67_code 95 = .ok (.if_icmp .ne 7, 3) := by decide +kernel
theorem d12_joined_98 : decode prog_14_method_67_code 98 = .ok (.iconst 1, 1) := by decide +kernel
theorem d12_joined_99 : decode prog_14_method_67_code 99 = .ok (.goto 4, 3) := by decide +kernel
theorem d12_joined_102 : decode prog_14_method_67_code 102 = .ok (.iconst 0, 1) := by decide +kernel
theorem d12_joined_103 : decode prog_14_method_67_code 103 = .ok (.ireturn, 1) := by decide +kernel
theorem d12_joined_104 : decode prog_14_method_67_code 104 = .ok (.iload_n 1, 1) := by decide +kernel
theorem d12_joined_105 : decode prog_14_method_67_code 105 = .ok (.iload_n 2, 1) := by decide +kernel
theorem d12_joined_106 : decode prog_14_method_67_code 106 = .ok (.imul, 1) := by decide +kernel
theorem d12_joined_107 : decode prog_14_method_67_code 107 = .ok (.ireturn, 1) := by decide +kernel
theorem d12_joined_108 : decode prog_14_method_67_code 108 = .ok (.iload_n 1, 1) := by decide +kernel
theorem d12_joined_109 : decode prog_14_method_67_code 109 = .ok (.iload_n 2, 1) := by decide +kernel
theorem d12_joined_110 : decode prog_14_method_67_code 110 = .ok (.iadd, 1) := by decide +kernel
theorem d12_joined_111 : decode prog_14_method_67_code 111 = .ok (.ifCond .le 7, 3) := by decide +kernel
theorem d12_joined_114 : decode prog_14_method_67_code 114 = .ok (.iconst 1, 1) := by decide +kernel
theorem d12_joined_115 : decode prog_14_method_67_code 115 = .ok (.goto 4, 3) := by decide +kernel
theorem d12_joined_118 : decode prog_14_method_67_code 118 = .ok (.iconst 0, 1) := by decide +kernel
theorem d12_joined_119 : decode prog_14_method_67_code 119 = .ok (.ireturn, 1) := by decide +kernel
abbrev m12_readLet : MD := ("MillBoatsModel", ⟨"MillBoatsModel", "readLet", "()V"⟩, prog_14_method_57_code, 5, (none : Option Jvm.ClassFile.FieldType))
theorem k12_readLet : okY m12_readLet.2.1 0 := ⟨by decide +kernel, by decide +kernel, by decide +kernel⟩
def f12_readLet_p125 : Nat → St → Nat → Int32 → Int32 → Int32 → Option (Unit × St)
  | 0, _, _, _, _, _ => none
  | n + 1, σ, v0, v2, v3, v4 =>
  (if v4 < v3 then
  gd (ob σ v0 12) (
  lt (sR σ v0 45) fun b69 => (
  gd (nz b69) (
  lt (sR σ v0 34) fun b72 => (
  gd (nz b72) (
  gd (ob σ b72 13) (
  gd (inb σ b72 (v2 + v4)) (
  gd (ob σ b69 13) (
  gd (inb σ b69 (((8 : Int32) * (sI σ v0 44)) + v4)) (
  lt (wI σ b69 (ix (((8 : Int32) * (sI σ v0 44)) + v4)) (vp_nar .byte (sI σ b72 (ix (v2 + v4))))) fun t79 => (
  lt (v4 + (1 : Int32)) fun y81 => (
  (f12_readLet_p125 n) t79 v0 v2 v3 y81)))))))))))
  else
  gd (ob σ v0 12) (
  lt (wI σ v0 44 ((sI σ v0 44) + (1 : Int32))) fun t84 => (
  some ((), t84))))
set_option maxRecDepth 20000 in
theorem s12_readLet_p125 : ∀ (n : Nat) (σ : St) (v0 : Nat) (v2 : Int32) (v3 : Int32) (v4 : Int32) (r : Unit) (τ : St), f12_readLet_p125 n σ v0 v2 v3 v4 = some (r, τ) → Ev 35 m12_readLet 125 [(0, .ref v0), (2, .int v2), (3, .int v3), (4, .int v4)] [] σ none τ := by
  intro n
  induction n with
  | zero =>
    intro σ v0 v2 v3 v4 r τ hf
    cases hf
  | succ n ih =>
    intro σ v0 v2 v3 v4 r τ hf
    rw [f12_readLet_p125] at hf
    refine ev_iload (i := 4) (q := 3) rfl d12_readLet_125 ?_
    refine ev_iload_n (j := 3) (i := 3) (q := 2) rfl rfl d12_readLet_127 ?_
    rcases ite_some hf with ⟨c67, hf⟩ | ⟨c67, hf⟩
    · refine ev_icmp_ge_P (tgt := 161) c67 (by decide) d12_readLet_128 ?_
      refine ev_aload_n (j := 0) (i := 0) (q := 0) rfl rfl d12_readLet_131 ?_
      obtain ⟨h68, hf⟩ := gd_some hf
      obtain ⟨b69, e70, hf⟩ := lt_some hf
      obtain ⟨h71, hf⟩ := gd_some hf
      refine ev_getRb cls12 (j := 45) (by decide) rfl w1296 h68 e70 (nz_ne h71) d12_readLet_132 ?_
      refine ev_bipush cb_8 d12_readLet_135 ?_
      refine ev_aload_n (j := 0) (i := 0) (q := 0) rfl rfl d12_readLet_137 ?_
      refine ev_getI cls12 (j := 44) (by decide) rfl w1295 h68 d12_readLet_138 ?_
      refine ev_imul d12_readLet_141 ?_
      refine ev_iload (i := 4) (q := 3) rfl d12_readLet_142 ?_
      refine ev_iadd d12_readLet_144 ?_
      refine ev_aload_n (j := 0) (i := 0) (q := 0) rfl rfl d12_readLet_145 ?_
      obtain ⟨b72, e73, hf⟩ := lt_some hf
      obtain ⟨h74, hf⟩ := gd_some hf
      refine ev_getRb cls12 (j := 34) (by decide) rfl w1285 h68 e73 (nz_ne h74) d12_readLet_146 ?_
      refine ev_iload_n (j := 2) (i := 2) (q := 1) rfl rfl d12_readLet_149 ?_
      refine ev_iload (i := 4) (q := 3) rfl d12_readLet_150 ?_
      refine ev_iadd d12_readLet_152 ?_
      obtain ⟨h75, hf⟩ := gd_some hf
      obtain ⟨h76, hf⟩ := gd_some hf
      refine ev_bald h75 h76 d12_readLet_153 ?_
      obtain ⟨h77, hf⟩ := gd_some hf
      obtain ⟨h78, hf⟩ := gd_some hf
      obtain ⟨t79, e80, hf⟩ := lt_some hf
      refine ev_bast h77 h78 d12_readLet_154 (ev_nmS e80 ?_)
      obtain ⟨y81, e82, hf⟩ := lt_some hf
      refine ev_iinc (lv2 := [(4, .int y81), (0, .ref v0), (2, .int v2), (3, .int v3)]) (i := 4) (q := 3) (v := y81) (n := 1) rfl (by rw [ci_1]; exact e82.symm) (by decide) rfl d12_readLet_155 ?_
      refine ev_goto (tgt := 125) (by decide) d12_readLet_158 ?_
      exact Ev.sub [1, 2, 3, 0] rfl (ih _ _ _ _ _ _ _ hf)
    · refine ev_icmp_ge_Q (tgt := 161) c67 (by decide) d12_readLet_128 ?_
      refine ev_aload_n (j := 0) (i := 0) (q := 0) rfl rfl d12_readLet_161 ?_
      refine ev_dup rfl d12_readLet_162 ?_
      obtain ⟨h83, hf⟩ := gd_some hf
      refine ev_getI cls12 (j := 44) (by decide) rfl w1295 h83 d12_readLet_163 ?_
      refine ev_iconst ci_1 d12_readLet_166 ?_
      refine ev_iadd d12_readLet_167 ?_
      obtain ⟨t84, e85, hf⟩ := lt_some hf
      refine ev_putI cls12 (j := 44) (by decide) rfl rfl w1295 h83 (fun _ => ⟨rfl, rfl⟩) d12_readLet_168 (ev_nmS e85 ?_)
      obtain ⟨-, rfl⟩ := ret_some hf
      exact ev_vret rfl d12_readLet_171
def f12_readLet_p67 (σ : St) (v0 : Nat) : Option (Unit × St) :=
  gd (ob σ v0 12) (
  bd (f12_isWell σ v0) fun r34 t35 => (
  (if r34 = (0 : Int32) then
  some ((), t35)
  else
  lt (sI t35 v0 37) fun y39 => (
  lt ((sI t35 v0 36) - (sI t35 v0 37)) fun y41 => (
  bd (f12_next t35 v0) fun r43 t44 => (
  bd (f12_wantSign t44 v0 (61 : Int32)) fun r47 t48 => (
  bd (f12_sum 8 t48 v0) fun r51 t52 => (
  bd (f12_isWell t52 v0) fun r55 t56 => (
  (if r55 = (0 : Int32) then
  some ((), t56)
  else
  lt (sR t56 v0 46) fun b60 => (
  gd (nz b60) (
  gd (ob t56 b60 14) (
  gd (inb t56 b60 (sI t56 v0 44)) (
  lt (wI t56 b60 (ix (sI t56 v0 44)) y41) fun t65 => (
  f12_readLet_p125 FU t65 v0 y39 y41 (0 : Int32))))))))))))))))
set_option maxRecDepth 20000 in
theorem s12_readLet_p67 : ∀ (σ : St) (v0 : Nat) (r : Unit) (τ : St), f12_readLet_p67 σ v0 = some (r, τ) → Ev 35 m12_readLet 67 [(0, .ref v0)] [] σ none τ := by
  intro σ v0 r τ hf
  unfold f12_readLet_p67 at hf
  refine ev_aload_n (j := 0) (i := 0) (q := 0) rfl rfl d12_readLet_67 ?_
  obtain ⟨h33, hf⟩ := gd_some hf
  obtain ⟨r34, t35, k36, hf⟩ := bd_some hf
  have q37 := s12_isWell _ _ _ _ k36
  refine ev_callV (vs := []) (sk := []) cls12 h33 q37 (by decide) (Nat.le_of_ble_eq_true rfl) w1633 w1635 ws66 w19 w1636 k12_isWell rfl (Nat.le_of_ble_eq_true rfl) d12_readLet_68 ?_
  rcases ite_some hf with ⟨c38, hf⟩ | ⟨c38, hf⟩
  · refine ev_if_ne_P (tgt := 75) c38 (by decide) d12_readLet_71 ?_
    obtain ⟨-, rfl⟩ := ret_some hf
    exact ev_vret rfl d12_readLet_74
  · refine ev_if_ne_Q (tgt := 75) c38 (by decide) d12_readLet_71 ?_
    refine ev_aload_n (j := 0) (i := 0) (q := 0) rfl rfl d12_readLet_75 ?_
    refine ev_getI cls12 (j := 37) (by decide) rfl w1288 (mono_ob q37.1 h33) d12_readLet_76 ?_
    obtain ⟨y39, e40, hf⟩ := lt_some hf
    refine ev_nmI e40 ?_
    refine ev_istore_n (lv2 := [(2, .int y39), (0, .ref v0)]) (j := 2) (i := 2) rfl (by decide) rfl d12_readLet_79 ?_
    refine ev_aload_n (j := 0) (i := 0) (q := 1) rfl rfl d12_readLet_80 ?_
    refine ev_getI cls12 (j := 36) (by decide) rfl w1287 (mono_ob q37.1 h33) d12_readLet_81 ?_
    refine ev_aload_n (j := 0) (i := 0) (q := 1) rfl rfl d12_readLet_84 ?_
    refine ev_getI cls12 (j := 37) (by decide) rfl w1288 (mono_ob q37.1 h33) d12_readLet_85 ?_
    refine ev_isub d12_readLet_88 ?_
    obtain ⟨y41, e42, hf⟩ := lt_some hf
    refine ev_nmI e42 ?_
    refine ev_istore_n (lv2 := [(3, .int y41), (2, .int y39), (0, .ref v0)]) (j := 3) (i := 3) rfl (by decide) rfl d12_readLet_89 ?_
    refine ev_aload_n (j := 0) (i := 0) (q := 2) rfl rfl d12_readLet_90 ?_
    obtain ⟨r43, t44, k45, hf⟩ := bd_some hf
    have q46 := s12_next _ _ _ _ k45
    refine ev_callV (vs := []) (sk := []) cls12 (mono_ob q37.1 h33) q46 (by decide) (Nat.le_of_ble_eq_true rfl) w1619 w1621 ws64 w19 w1622 k12_next rfl (Nat.le_of_ble_eq_true rfl) d12_readLet_91 ?_
    refine ev_aload_n (j := 0) (i := 0) (q := 2) rfl rfl d12_readLet_94 ?_
    refine ev_bipush cb_61 d12_readLet_95 ?_
    obtain ⟨r47, t48, k49, hf⟩ := bd_some hf
    have q50 := s12_wantSign _ _ _ _ _ k49
    refine ev_callV (vs := [.int (61 : Int32)]) (sk := []) cls12 (mono_ob q46.1 (mono_ob q37.1 h33)) q50 (by decide) (Nat.le_of_ble_eq_true rfl) w1682 w1684 ws73 w19 w1685 k12_wantSign rfl (Nat.le_of_ble_eq_true rfl) d12_readLet_97 ?_
    refine ev_aload_n (j := 0) (i := 0) (q := 2) rfl rfl d12_readLet_100 ?_
    obtain ⟨r51, t52, k53, hf⟩ := bd_some hf
    have q54 := s12_sum 8 _ _ _ _ k53
    refine ev_callV (vs := []) (sk := []) cls12 (mono_ob q50.1 (mono_ob q46.1 (mono_ob q37.1 h33))) q54 (by omega) (Nat.le_of_ble_eq_true rfl) w1690 w1692 ws75 w19 w1693 k12_sum rfl (Nat.le_of_ble_eq_true rfl) d12_readLet_101 ?_
    refine ev_aload_n (j := 0) (i := 0) (q := 2) rfl rfl d12_readLet_104 ?_
    obtain ⟨r55, t56, k57, hf⟩ := bd_some hf
    have q58 := s12_isWell _ _ _ _ k57
    refine ev_callV (vs := []) (sk := []) cls12 (mono_ob q54.1 (mono_ob q50.1 (mono_ob q46.1 (mono_ob q37.1 h33)))) q58 (by decide) (Nat.le_of_ble_eq_true rfl) w1633 w1635 ws66 w19 w1636 k12_isWell rfl (Nat.le_of_ble_eq_true rfl) d12_readLet_105 ?_
    rcases ite_some hf with ⟨c59, hf⟩ | ⟨c59, hf⟩
    · refine ev_if_ne_P (tgt := 112) c59 (by decide) d12_readLet_108 ?_
      obtain ⟨-, rfl⟩ := ret_some hf
      exact ev_vret rfl d12_readLet_111
    · refine ev_if_ne_Q (tgt := 112) c59 (by decide) d12_readLet_108 ?_
      refine ev_aload_n (j := 0) (i := 0) (q := 2) rfl rfl d12_readLet_112 ?_
      obtain ⟨b60, e61, hf⟩ := lt_some hf
      obtain ⟨h62, hf⟩ := gd_some hf
      refine ev_getRb cls12 (j := 46) (by decide) rfl w1297 (mono_ob q58.1 (mono_ob q54.1 (mono_ob q50.1 (mono_ob q46.1 (mono_ob q37.1 h33))))) e61 (nz_ne h62) d12_readLet_113 ?_
      refine ev_aload_n (j := 0) (i := 0) (q := 2) rfl rfl d12_readLet_116 ?_
      refine ev_getI cls12 (j := 44) (by decide) rfl w1295 (mono_ob q58.1 (mono_ob q54.1 (mono_ob q50.1 (mono_ob q46.1 (mono_ob q37.1 h33))))) d12_readLet_117 ?_
      refine ev_iload_n (j := 3) (i := 3) (q := 0) rfl rfl d12_readLet_120 ?_
      obtain ⟨h63, hf⟩ := gd_some hf
      obtain ⟨h64, hf⟩ := gd_some hf
      obtain ⟨t65, e66, hf⟩ := lt_some hf
      refine ev_iast h63 h64 d12_readLet_121 (ev_nmS e66 ?_)
      refine ev_iconst ci_0 d12_readLet_122 ?_
      refine ev_istore (lv2 := [(4, .int (0 : Int32)), (3, .int y41), (2, .int y39), (0, .ref v0)]) (i := 4) (by decide) rfl d12_readLet_123 ?_
      exact Ev.sub [3, 2, 1, 0] rfl (s12_readLet_p125 FU _ _ _ _ _ _ _ hf)
def f12_readLet_p24 (σ : St) (v0 : Nat) (x0 : Int32) : Option (Unit × St) :=
  (if x0 = (0 : Int32) then
  gd (ob σ v0 12) (
  bd (f12_fails σ v0 (1 : Int32)) fun r14 t15 => (
  f12_readLet_p67 t15 v0))
  else
  gd (ob σ v0 12) (
  bd (f12_name σ v0) fun r19 t20 => (
  (if r19 = (-1 : Int32) then
  (if (sI t20 v0 44) = (6 : Int32) then
  bd (f12_fails t20 v0 (4 : Int32)) fun r25 t26 => (
  f12_readLet_p67 t26 v0)
  else
  f12_readLet_p67 t20 v0)
  else
  bd (f12_fails t20 v0 (3 : Int32)) fun r29 t30 => (
  f12_readLet_p67 t30 v0)))))
set_option maxRecDepth 20000 in
theorem s12_readLet_p24 : ∀ (σ : St) (v0 : Nat) (x0 : Int32) (r : Unit) (τ : St), f12_readLet_p24 σ v0 x0 = some (r, τ) → Ev 35 m12_readLet 24 [(0, .ref v0)] [.int x0] σ none τ := by
  intro σ v0 x0 r τ hf
  unfold f12_readLet_p24 at hf
  refine ev_istore_n (lv2 := [(1, .int x0), (0, .ref v0)]) (j := 1) (i := 1) rfl (by decide) rfl d12_readLet_24 ?_
  refine ev_iload_n (j := 1) (i := 1) (q := 0) rfl rfl d12_readLet_25 ?_
  rcases ite_some hf with ⟨c12, hf⟩ | ⟨c12, hf⟩
  · refine ev_if_ne_P (tgt := 37) c12 (by decide) d12_readLet_26 ?_
    refine ev_aload_n (j := 0) (i := 0) (q := 1) rfl rfl d12_readLet_29 ?_
    refine ev_iconst ci_1 d12_readLet_30 ?_
    obtain ⟨h13, hf⟩ := gd_some hf
    obtain ⟨r14, t15, k16, hf⟩ := bd_some hf
    have q17 := s12_fails _ _ _ _ _ k16
    refine ev_callV (vs := [.int (1 : Int32)]) (sk := []) cls12 h13 q17 (by decide) (Nat.le_of_ble_eq_true rfl) w1652 w1654 ws69 w19 w1655 k12_fails rfl (Nat.le_of_ble_eq_true rfl) d12_readLet_31 ?_
    refine ev_goto (tgt := 67) (by decide) d12_readLet_34 ?_
    exact Ev.sub [1] rfl (s12_readLet_p67 _ _ _ _ hf)
  · refine ev_if_ne_Q (tgt := 37) c12 (by decide) d12_readLet_26 ?_
    refine ev_aload_n (j := 0) (i := 0) (q := 1) rfl rfl d12_readLet_37 ?_
    obtain ⟨h18, hf⟩ := gd_some hf
    obtain ⟨r19, t20, k21, hf⟩ := bd_some hf
    have q22 := s12_name _ _ _ _ k21
    refine ev_callV (vs := []) (sk := []) cls12 h18 q22 (by decide) (Nat.le_of_ble_eq_true rfl) w1669 w1671 ws72 w19 w1672 k12_name rfl (Nat.le_of_ble_eq_true rfl) d12_readLet_38 ?_
    refine ev_iconst ci_m1 d12_readLet_41 ?_
    rcases ite_some hf with ⟨c23, hf⟩ | ⟨c23, hf⟩
    · refine ev_icmp_eq_P (tgt := 53) c23 (by decide) d12_readLet_42 ?_
      refine ev_aload_n (j := 0) (i := 0) (q := 1) rfl rfl d12_readLet_53 ?_
      refine ev_getI cls12 (j := 44) (by decide) rfl w1295 (mono_ob q22.1 h18) d12_readLet_54 ?_
      refine ev_bipush cb_6 d12_readLet_57 ?_
      rcases ite_some hf with ⟨c24, hf⟩ | ⟨c24, hf⟩
      · refine ev_icmp_ne_P (tgt := 67) c24 (by decide) d12_readLet_59 ?_
        refine ev_aload_n (j := 0) (i := 0) (q := 1) rfl rfl d12_readLet_62 ?_
        refine ev_iconst ci_4 d12_readLet_63 ?_
        obtain ⟨r25, t26, k27, hf⟩ := bd_some hf
        have q28 := s12_fails _ _ _ _ _ k27
        refine ev_callV (vs := [.int (4 : Int32)]) (sk := []) cls12 (mono_ob q22.1 h18) q28 (by decide) (Nat.le_of_ble_eq_true rfl) w1652 w1654 ws69 w19 w1655 k12_fails rfl (Nat.le_of_ble_eq_true rfl) d12_readLet_64 ?_
        exact Ev.sub [1] rfl (s12_readLet_p67 _ _ _ _ hf)
      · refine ev_icmp_ne_Q (tgt := 67) c24 (by decide) d12_readLet_59 ?_
        exact Ev.sub [1] rfl (s12_readLet_p67 _ _ _ _ hf)
    · refine ev_icmp_eq_Q (tgt := 53) c23 (by decide) d12_readLet_42 ?_
      refine ev_aload_n (j := 0) (i := 0) (q := 1) rfl rfl d12_readLet_45 ?_
      refine ev_iconst ci_3 d12_readLet_46 ?_
      obtain ⟨r29, t30, k31, hf⟩ := bd_some hf
      have q32 := s12_fails _ _ _ _ _ k31
      refine ev_callV (vs := [.int (3 : Int32)]) (sk := []) cls12 (mono_ob q22.1 h18) q32 (by decide) (Nat.le_of_ble_eq_true rfl) w1652 w1654 ws69 w19 w1655 k12_fails rfl (Nat.le_of_ble_eq_true rfl) d12_readLet_47 ?_
      refine ev_goto (tgt := 67) (by decide) d12_readLet_50 ?_
      exact Ev.sub [1] rfl (s12_readLet_p67 _ _ _ _ hf)
def f12_readLet_p23 (σ : St) (v0 : Nat) : Option (Unit × St) :=
  f12_readLet_p24 σ v0 (0 : Int32)
set_option maxRecDepth 20000 in
theorem s12_readLet_p23 : ∀ (σ : St) (v0 : Nat) (r : Unit) (τ : St), f12_readLet_p23 σ v0 = some (r, τ) → Ev 35 m12_readLet 23 [(0, .ref v0)] [] σ none τ := by
  intro σ v0 r τ hf
  unfold f12_readLet_p23 at hf
  refine ev_iconst ci_0 d12_readLet_23 ?_
  exact Ev.sub [0] rfl (s12_readLet_p24 _ _ _ _ _ hf)
def f12_readLet (σ : St) (v0 : Nat) : Option (Unit × St) :=
  gd (ob σ v0 12) (
  bd (f12_next σ v0) fun r2 t3 => (
  (if (sI t3 v0 38) = (3 : Int32) then
  bd (f12_isBarredWord t3 v0) fun r7 t8 => (
  (if r7 = (0 : Int32) then
  f12_readLet_p24 t8 v0 (1 : Int32)
  else
  f12_readLet_p23 t8 v0))
  else
  f12_readLet_p23 t3 v0)))
set_option maxRecDepth 50000 in
theorem s12_readLet : ∀ (σ : St) (v0 : Nat) (r : Unit) (τ : St), f12_readLet σ v0 = some (r, τ) → Call 35 m12_readLet [.ref v0] σ none τ := by
  intro σ v0 r τ hf
  unfold f12_readLet at hf
  refine Call.of (by decide +kernel) rfl (Nat.le_of_ble_eq_true rfl) ?_
  refine ev_aload_n (j := 0) (i := 0) (q := 0) rfl rfl d12_readLet_0 ?_
  obtain ⟨h1, hf⟩ := gd_some hf
  obtain ⟨r2, t3, k4, hf⟩ := bd_some hf
  have q5 := s12_next _ _ _ _ k4
  refine ev_callV (vs := []) (sk := []) cls12 h1 q5 (by decide) (Nat.le_of_ble_eq_true rfl) w1619 w1621 ws64 w19 w1622 k12_next rfl (Nat.le_of_ble_eq_true rfl) d12_readLet_1 ?_
  refine ev_aload_n (j := 0) (i := 0) (q := 0) rfl rfl d12_readLet_4 ?_
  refine ev_getI cls12 (j := 38) (by decide) rfl w1289 (mono_ob q5.1 h1) d12_readLet_5 ?_
  refine ev_iconst ci_3 d12_readLet_8 ?_
  rcases ite_some hf with ⟨c6, hf⟩ | ⟨c6, hf⟩
  · refine ev_icmp_ne_P (tgt := 23) c6 (by decide) d12_readLet_9 ?_
    refine ev_aload_n (j := 0) (i := 0) (q := 0) rfl rfl d12_readLet_12 ?_
    obtain ⟨r7, t8, k9, hf⟩ := bd_some hf
    have q10 := s12_isBarredWord _ _ _ _ k9
    refine ev_callV (vs := []) (sk := []) cls12 (mono_ob q5.1 h1) q10 (by decide) (Nat.le_of_ble_eq_true rfl) w1660 w1662 ws71 w19 w1663 k12_isBarredWord rfl (Nat.le_of_ble_eq_true rfl) d12_readLet_13 ?_
    rcases ite_some hf with ⟨c11, hf⟩ | ⟨c11, hf⟩
    · refine ev_if_ne_P (tgt := 23) c11 (by decide) d12_readLet_16 ?_
      refine ev_iconst ci_1 d12_readLet_19 ?_
      refine ev_goto (tgt := 24) (by decide) d12_readLet_20 ?_
      exact Ev.sub [0] rfl (s12_readLet_p24 _ _ _ _ _ hf)
    · refine ev_if_ne_Q (tgt := 23) c11 (by decide) d12_readLet_16 ?_
      exact Ev.sub [0] rfl (s12_readLet_p23 _ _ _ _ hf)
  · refine ev_icmp_ne_Q (tgt := 23) c6 (by decide) d12_readLet_9 ?_
    exact Ev.sub [0] rfl (s12_readLet_p23 _ _ _ _ hf)
abbrev m12_readToll : MD := ("MillBoatsModel", ⟨"MillBoatsModel", "readToll", "(I)V"⟩, prog_14_method_58_code, 2, (none : Option Jvm.ClassFile.FieldType))
theorem k12_readToll : okY m12_readToll.2.1 1 := ⟨by decide +kernel, by decide +kernel, by decide +kernel⟩
def f12_readToll_p78 (σ : St) (v0 : Nat) : Option (Unit × St) :=
  gd (ob σ v0 12) (
  bd (f12_isWell σ v0) fun r60 t61 => (
  (if r60 = (0 : Int32) then
  some ((), t61)
  else
  bd (f12_next t61 v0) fun r65 t66 => (
  some ((), t66)))))
set_option maxRecDepth 20000 in
theorem s12_readToll_p78 : ∀ (σ : St) (v0 : Nat) (r : Unit) (τ : St), f12_readToll_p78 σ v0 = some (r, τ) → Ev 10 m12_readToll 78 [(0, .ref v0)] [] σ none τ := by
  intro σ v0 r τ hf
  unfold f12_readToll_p78 at hf
  refine ev_aload_n (j := 0) (i := 0) (q := 0) rfl rfl d12_readToll_78 ?_
  obtain ⟨h59, hf⟩ := gd_some hf
  obtain ⟨r60, t61, k62, hf⟩ := bd_some hf
  have q63 := s12_isWell _ _ _ _ k62
  refine ev_callV (vs := []) (sk := []) cls12 h59 q63 (by decide) (Nat.le_of_ble_eq_true rfl) w1633 w1635 ws66 w19 w1636 k12_isWell rfl (Nat.le_of_ble_eq_true rfl) d12_readToll_79 ?_
  rcases ite_some hf with ⟨c64, hf⟩ | ⟨c64, hf⟩
  · refine ev_if_eq_P (tgt := 89) c64 (by decide) d12_readToll_82 ?_
    obtain ⟨-, rfl⟩ := ret_some hf
    exact ev_vret rfl d12_readToll_89
  · refine ev_if_eq_Q (tgt := 89) c64 (by decide) d12_readToll_82 ?_
    refine ev_aload_n (j := 0) (i := 0) (q := 0) rfl rfl d12_readToll_85 ?_
    obtain ⟨r65, t66, k67, hf⟩ := bd_some hf
    have q68 := s12_next _ _ _ _ k67
    refine ev_callV (vs := []) (sk := []) cls12 (mono_ob q63.1 h59) q68 (by decide) (Nat.le_of_ble_eq_true rfl) w1619 w1621 ws64 w19 w1622 k12_next rfl (Nat.le_of_ble_eq_true rfl) d12_readToll_86 ?_
    obtain ⟨-, rfl⟩ := ret_some hf
    exact ev_vret rfl d12_readToll_89
def f12_readToll_p73 (σ : St) (v0 : Nat) : Option (Unit × St) :=
  gd (ob σ v0 12) (
  bd (f12_fails σ v0 (2 : Int32)) fun r70 t71 => (
  f12_readToll_p78 t71 v0))
set_option maxRecDepth 20000 in
theorem s12_readToll_p73 : ∀ (σ : St) (v0 : Nat) (r : Unit) (τ : St), f12_readToll_p73 σ v0 = some (r, τ) → Ev 10 m12_readToll 73 [(0, .ref v0)] [] σ none τ := by
  intro σ v0 r τ hf
  unfold f12_readToll_p73 at hf
  refine ev_aload_n (j := 0) (i := 0) (q := 0) rfl rfl d12_readToll_73 ?_
  refine ev_iconst ci_2 d12_readToll_74 ?_
  obtain ⟨h69, hf⟩ := gd_some hf
  obtain ⟨r70, t71, k72, hf⟩ := bd_some hf
  have q73 := s12_fails _ _ _ _ _ k72
  refine ev_callV (vs := [.int (2 : Int32)]) (sk := []) cls12 h69 q73 (by decide) (Nat.le_of_ble_eq_true rfl) w1652 w1654 ws69 w19 w1655 k12_fails rfl (Nat.le_of_ble_eq_true rfl) d12_readToll_75 ?_
  exact Ev.sub [0] rfl (s12_readToll_p78 _ _ _ _ hf)
def f12_readToll_p25 (σ : St) (v0 : Nat) (v1 : Int32) : Option (Unit × St) :=
  gd (ob σ v0 12) (
  bd (f12_wantWord σ v0 8) fun r27 t28 => (
  lt (sR t28 v0 28) fun b31 => (
  gd (nz b31) (
  bd (f12_number t28 v0) fun r34 t35 => (
  gd (ob t35 b31 14) (
  gd (inb t35 b31 v1) (
  lt (wI t35 b31 (ix v1) r34) fun t40 => (
  bd (f12_isWell t40 v0) fun r42 t43 => (
  (if r42 = (0 : Int32) then
  f12_readToll_p78 t43 v0
  else
  lt (sR t43 v0 28) fun b47 => (
  gd (nz b47) (
  gd (ob t43 b47 14) (
  gd (inb t43 b47 v1) (
  (if (sI t43 b47 (ix v1)) = (0 : Int32) then
  f12_readToll_p73 t43 v0
  else
  lt (sR t43 v0 27) fun b53 => (
  gd (nz b53) (
  gd (ob t43 b53 14) (
  gd (inb t43 b53 v1) (
  (if (sI t43 b47 (ix v1)) < (sI t43 b53 (ix v1)) then
  f12_readToll_p73 t43 v0
  else
  f12_readToll_p78 t43 v0))))))))))))))))))))
set_option maxRecDepth 20000 in
theorem s12_readToll_p25 : ∀ (σ : St) (v0 : Nat) (v1 : Int32) (r : Unit) (τ : St), f12_readToll_p25 σ v0 v1 = some (r, τ) → Ev 10 m12_readToll 25 [(0, .ref v0), (1, .int v1)] [] σ none τ := by
  intro σ v0 v1 r τ hf
  unfold f12_readToll_p25 at hf
  refine ev_aload_n (j := 0) (i := 0) (q := 0) rfl rfl d12_readToll_25 ?_
  refine ev_ldcwS (i := 8) rfl d12_readToll_26 ?_
  obtain ⟨h26, hf⟩ := gd_some hf
  obtain ⟨r27, t28, k29, hf⟩ := bd_some hf
  have q30 := s12_wantWord _ _ _ _ _ k29
  refine ev_callV (vs := [.ref (STR + 8)]) (sk := []) cls12 h26 q30 (by decide) (Nat.le_of_ble_eq_true rfl) w1718 w1720 ws82 w19 w1721 k12_wantWord rfl (Nat.le_of_ble_eq_true rfl) d12_readToll_29 ?_
  refine ev_aload_n (j := 0) (i := 0) (q := 0) rfl rfl d12_readToll_32 ?_
  obtain ⟨b31, e32, hf⟩ := lt_some hf
  obtain ⟨h33, hf⟩ := gd_some hf
  refine ev_getRb cls12 (j := 28) (by decide) rfl w1279 (mono_ob q30.1 h26) e32 (nz_ne h33) d12_readToll_33 ?_
  refine ev_iload_n (j := 1) (i := 1) (q := 1) rfl rfl d12_readToll_36 ?_
  refine ev_aload_n (j := 0) (i := 0) (q := 0) rfl rfl d12_readToll_37 ?_
  obtain ⟨r34, t35, k36, hf⟩ := bd_some hf
  have q37 := s12_number _ _ _ _ k36
  refine ev_callV (vs := []) (sk := [.int v1, .ref b31]) cls12 (mono_ob q30.1 h26) q37 (by decide) (Nat.le_of_ble_eq_true rfl) w1714 w1716 ws81 w19 w1717 k12_number rfl (Nat.le_of_ble_eq_true rfl) d12_readToll_38 ?_
  obtain ⟨h38, hf⟩ := gd_some hf
  obtain ⟨h39, hf⟩ := gd_some hf
  obtain ⟨t40, e41, hf⟩ := lt_some hf
  refine ev_iast h38 h39 d12_readToll_41 (ev_nmS e41 ?_)
  refine ev_aload_n (j := 0) (i := 0) (q := 0) rfl rfl d12_readToll_42 ?_
  obtain ⟨r42, t43, k44, hf⟩ := bd_some hf
  have q45 := s12_isWell _ _ _ _ k44
  refine ev_callV (vs := []) (sk := []) cls12 (mono_ob (mono_eI e41) (mono_ob q37.1 (mono_ob q30.1 h26))) q45 (by decide) (Nat.le_of_ble_eq_true rfl) w1633 w1635 ws66 w19 w1636 k12_isWell rfl (Nat.le_of_ble_eq_true rfl) d12_readToll_43 ?_
  rcases ite_some hf with ⟨c46, hf⟩ | ⟨c46, hf⟩
  · refine ev_if_eq_P (tgt := 78) c46 (by decide) d12_readToll_46 ?_
    exact Ev.sub [0] rfl (s12_readToll_p78 _ _ _ _ hf)
  · refine ev_if_eq_Q (tgt := 78) c46 (by decide) d12_readToll_46 ?_
    refine ev_aload_n (j := 0) (i := 0) (q := 0) rfl rfl d12_readToll_49 ?_
    obtain ⟨b47, e48, hf⟩ := lt_some hf
    obtain ⟨h49, hf⟩ := gd_some hf
    refine ev_getRb cls12 (j := 28) (by decide) rfl w1279 (mono_ob q45.1 (mono_ob (mono_eI e41) (mono_ob q37.1 (mono_ob q30.1 h26)))) e48 (nz_ne h49) d12_readToll_50 ?_
    refine ev_iload_n (j := 1) (i := 1) (q := 1) rfl rfl d12_readToll_53 ?_
    obtain ⟨h50, hf⟩ := gd_some hf
    obtain ⟨h51, hf⟩ := gd_some hf
    refine ev_iald h50 h51 d12_readToll_54 ?_
    rcases ite_some hf with ⟨c52, hf⟩ | ⟨c52, hf⟩
    · refine ev_if_eq_P (tgt := 73) c52 (by decide) d12_readToll_55 ?_
      exact Ev.sub [0] rfl (s12_readToll_p73 _ _ _ _ hf)
    · refine ev_if_eq_Q (tgt := 73) c52 (by decide) d12_readToll_55 ?_
      refine ev_aload_n (j := 0) (i := 0) (q := 0) rfl rfl d12_readToll_58 ?_
      refine ev_getRb cls12 (j := 28) (by decide) rfl w1279 (mono_ob q45.1 (mono_ob (mono_eI e41) (mono_ob q37.1 (mono_ob q30.1 h26)))) e48 (nz_ne h49) d12_readToll_59 ?_
      refine ev_iload_n (j := 1) (i := 1) (q := 1) rfl rfl d12_readToll_62 ?_
      refine ev_iald h50 h51 d12_readToll_63 ?_
      refine ev_aload_n (j := 0) (i := 0) (q := 0) rfl rfl d12_readToll_64 ?_
      obtain ⟨b53, e54, hf⟩ := lt_some hf
      obtain ⟨h55, hf⟩ := gd_some hf
      refine ev_getRb cls12 (j := 27) (by decide) rfl w1278 (mono_ob q45.1 (mono_ob (mono_eI e41) (mono_ob q37.1 (mono_ob q30.1 h26)))) e54 (nz_ne h55) d12_readToll_65 ?_
      refine ev_iload_n (j := 1) (i := 1) (q := 1) rfl rfl d12_readToll_68 ?_
      obtain ⟨h56, hf⟩ := gd_some hf
      obtain ⟨h57, hf⟩ := gd_some hf
      refine ev_iald h56 h57 d12_readToll_69 ?_
      rcases ite_some hf with ⟨c58, hf⟩ | ⟨c58, hf⟩
      · refine ev_icmp_ge_P (tgt := 78) c58 (by decide) d12_readToll_70 ?_
        exact Ev.sub [0] rfl (s12_readToll_p73 _ _ _ _ hf)
      · refine ev_icmp_ge_Q (tgt := 78) c58 (by decide) d12_readToll_70 ?_
        exact Ev.sub [0] rfl (s12_readToll_p78 _ _ _ _ hf)
def f12_readToll (σ : St) (v0 : Nat) (v1 : Int32) : Option (Unit × St) :=
  gd (ob σ v0 12) (
  bd (f12_next σ v0) fun r2 t3 => (
  lt (sR t3 v0 27) fun b6 => (
  gd (nz b6) (
  bd (f12_number t3 v0) fun r9 t10 => (
  gd (ob t10 b6 14) (
  gd (inb t10 b6 v1) (
  lt (wI t10 b6 (ix v1) r9) fun t15 => (
  bd (f12_isWell t15 v0) fun r17 t18 => (
  (if r17 = (0 : Int32) then
  f12_readToll_p25 t18 v0 v1
  else
  bd (f12_next t18 v0) fun r22 t23 => (
  f12_readToll_p25 t23 v0 v1)))))))))))
set_option maxRecDepth 50000 in
theorem s12_readToll : ∀ (σ : St) (v0 : Nat) (v1 : Int32) (r : Unit) (τ : St), f12_readToll σ v0 v1 = some (r, τ) → Call 10 m12_readToll [.ref v0, .int v1] σ none τ := by
  intro σ v0 v1 r τ hf
  unfold f12_readToll at hf
  refine Call.of (by decide +kernel) rfl (Nat.le_of_ble_eq_true rfl) ?_
  refine ev_aload_n (j := 0) (i := 0) (q := 0) rfl rfl d12_readToll_0 ?_
  obtain ⟨h1, hf⟩ := gd_some hf
  obtain ⟨r2, t3, k4, hf⟩ := bd_some hf
  have q5 := s12_next _ _ _ _ k4
  refine ev_callV (vs := []) (sk := []) cls12 h1 q5 (by decide) (Nat.le_of_ble_eq_true rfl) w1619 w1621 ws64 w19 w1622 k12_next rfl (Nat.le_of_ble_eq_true rfl) d12_readToll_1 ?_
  refine ev_aload_n (j := 0) (i := 0) (q := 0) rfl rfl d12_readToll_4 ?_
  obtain ⟨b6, e7, hf⟩ := lt_some hf
  obtain ⟨h8, hf⟩ := gd_some hf
  refine ev_getRb cls12 (j := 27) (by decide) rfl w1278 (mono_ob q5.1 h1) e7 (nz_ne h8) d12_readToll_5 ?_
  refine ev_iload_n (j := 1) (i := 1) (q := 1) rfl rfl d12_readToll_8 ?_
  refine ev_aload_n (j := 0) (i := 0) (q := 0) rfl rfl d12_readToll_9 ?_
  obtain ⟨r9, t10, k11, hf⟩ := bd_some hf
  have q12 := s12_number _ _ _ _ k11
  refine ev_callV (vs := []) (sk := [.int v1, .ref b6]) cls12 (mono_ob q5.1 h1) q12 (by decide) (Nat.le_of_ble_eq_true rfl) w1714 w1716 ws81 w19 w1717 k12_number rfl (Nat.le_of_ble_eq_true rfl) d12_readToll_10 ?_
  obtain ⟨h13, hf⟩ := gd_some hf
  obtain ⟨h14, hf⟩ := gd_some hf
  obtain ⟨t15, e16, hf⟩ := lt_some hf
  refine ev_iast h13 h14 d12_readToll_13 (ev_nmS e16 ?_)
  refine ev_aload_n (j := 0) (i := 0) (q := 0) rfl rfl d12_readToll_14 ?_
  obtain ⟨r17, t18, k19, hf⟩ := bd_some hf
  have q20 := s12_isWell _ _ _ _ k19
  refine ev_callV (vs := []) (sk := []) cls12 (mono_ob (mono_eI e16) (mono_ob q12.1 (mono_ob q5.1 h1))) q20 (by decide) (Nat.le_of_ble_eq_true rfl) w1633 w1635 ws66 w19 w1636 k12_isWell rfl (Nat.le_of_ble_eq_true rfl) d12_readToll_15 ?_
  rcases ite_some hf with ⟨c21, hf⟩ | ⟨c21, hf⟩
  · refine ev_if_eq_P (tgt := 25) c21 (by decide) d12_readToll_18 ?_
    exact Ev.sub [0, 1] rfl (s12_readToll_p25 _ _ _ _ _ hf)
  · refine ev_if_eq_Q (tgt := 25) c21 (by decide) d12_readToll_18 ?_
    refine ev_aload_n (j := 0) (i := 0) (q := 0) rfl rfl d12_readToll_21 ?_
    obtain ⟨r22, t23, k24, hf⟩ := bd_some hf
    have q25 := s12_next _ _ _ _ k24
    refine ev_callV (vs := []) (sk := []) cls12 (mono_ob q20.1 (mono_ob (mono_eI e16) (mono_ob q12.1 (mono_ob q5.1 h1)))) q25 (by decide) (Nat.le_of_ble_eq_true rfl) w1619 w1621 ws64 w19 w1622 k12_next rfl (Nat.le_of_ble_eq_true rfl) d12_readToll_22 ?_
    exact Ev.sub [0, 1] rfl (s12_readToll_p25 _ _ _ _ _ hf)
abbrev m12_readWay : MD := ("MillBoatsModel", ⟨"MillBoatsModel", "readWay", "(I)V"⟩, prog_14_method_59_code, 2, (none : Option Jvm.ClassFile.FieldType))
theorem k12_readWay : okY m12_readWay.2.1 1 := ⟨by decide +kernel, by decide +kernel, by decide +kernel⟩
def f12_readWay_p37 (σ : St) (v0 : Nat) : Option (Unit × St) :=
  gd (ob σ v0 12) (
  bd (f12_isWell σ v0) fun r33 t34 => (
  (if r33 = (0 : Int32) then
  some ((), t34)
  else
  bd (f12_next t34 v0) fun r38 t39 => (
  some ((), t39)))))
set_option maxRecDepth 20000 in
theorem s12_readWay_p37 : ∀ (σ : St) (v0 : Nat) (r : Unit) (τ : St), f12_readWay_p37 σ v0 = some (r, τ) → Ev 4 m12_readWay 37 [(0, .ref v0)] [] σ none τ := by
  intro σ v0 r τ hf
  unfold f12_readWay_p37 at hf
  refine ev_aload_n (j := 0) (i := 0) (q := 0) rfl rfl d12_readWay_37 ?_
  obtain ⟨h32, hf⟩ := gd_some hf
  obtain ⟨r33, t34, k35, hf⟩ := bd_some hf
  have q36 := s12_isWell _ _ _ _ k35
  refine ev_callV (vs := []) (sk := []) cls12 h32 q36 (by decide) (Nat.le_of_ble_eq_true rfl) w1633 w1635 ws66 w19 w1636 k12_isWell rfl (Nat.le_of_ble_eq_true rfl) d12_readWay_38 ?_
  rcases ite_some hf with ⟨c37, hf⟩ | ⟨c37, hf⟩
  · refine ev_if_eq_P (tgt := 48) c37 (by decide) d12_readWay_41 ?_
    obtain ⟨-, rfl⟩ := ret_some hf
    exact ev_vret rfl d12_readWay_48
  · refine ev_if_eq_Q (tgt := 48) c37 (by decide) d12_readWay_41 ?_
    refine ev_aload_n (j := 0) (i := 0) (q := 0) rfl rfl d12_readWay_44 ?_
    obtain ⟨r38, t39, k40, hf⟩ := bd_some hf
    have q41 := s12_next _ _ _ _ k40
    refine ev_callV (vs := []) (sk := []) cls12 (mono_ob q36.1 h32) q41 (by decide) (Nat.le_of_ble_eq_true rfl) w1619 w1621 ws64 w19 w1622 k12_next rfl (Nat.le_of_ble_eq_true rfl) d12_readWay_45 ?_
    obtain ⟨-, rfl⟩ := ret_some hf
    exact ev_vret rfl d12_readWay_48
def f12_readWay (σ : St) (v0 : Nat) (v1 : Int32) : Option (Unit × St) :=
  gd (ob σ v0 12) (
  bd (f12_next σ v0) fun r2 t3 => (
  lt (sR t3 v0 27) fun b6 => (
  gd (nz b6) (
  bd (f12_number t3 v0) fun r9 t10 => (
  gd (ob t10 b6 14) (
  gd (inb t10 b6 v1) (
  lt (wI t10 b6 (ix v1) r9) fun t15 => (
  bd (f12_isWell t15 v0) fun r17 t18 => (
  (if r17 = (0 : Int32) then
  f12_readWay_p37 t18 v0
  else
  lt (sR t18 v0 27) fun b22 => (
  gd (nz b22) (
  gd (ob t18 b22 14) (
  gd (inb t18 b22 v1) (
  (if (sI t18 b22 (ix v1)) ≤ (6 : Int32) then
  f12_readWay_p37 t18 v0
  else
  bd (f12_fails t18 v0 (2 : Int32)) fun r28 t29 => (
  f12_readWay_p37 t29 v0))))))))))))))))
set_option maxRecDepth 50000 in
theorem s12_readWay : ∀ (σ : St) (v0 : Nat) (v1 : Int32) (r : Unit) (τ : St), f12_readWay σ v0 v1 = some (r, τ) → Call 4 m12_readWay [.ref v0, .int v1] σ none τ := by
  intro σ v0 v1 r τ hf
  unfold f12_readWay at hf
  refine Call.of (by decide +kernel) rfl (Nat.le_of_ble_eq_true rfl) ?_
  refine ev_aload_n (j := 0) (i := 0) (q := 0) rfl rfl d12_readWay_0 ?_
  obtain ⟨h1, hf⟩ := gd_some hf
  obtain ⟨r2, t3, k4, hf⟩ := bd_some hf
  have q5 := s12_next _ _ _ _ k4
  refine ev_callV (vs := []) (sk := []) cls12 h1 q5 (by decide) (Nat.le_of_ble_eq_true rfl) w1619 w1621 ws64 w19 w1622 k12_next rfl (Nat.le_of_ble_eq_true rfl) d12_readWay_1 ?_
  refine ev_aload_n (j := 0) (i := 0) (q := 0) rfl rfl d12_readWay_4 ?_
  obtain ⟨b6, e7, hf⟩ := lt_some hf
  obtain ⟨h8, hf⟩ := gd_some hf
  refine ev_getRb cls12 (j := 27) (by decide) rfl w1278 (mono_ob q5.1 h1) e7 (nz_ne h8) d12_readWay_5 ?_
  refine ev_iload_n (j := 1) (i := 1) (q := 1) rfl rfl d12_readWay_8 ?_
  refine ev_aload_n (j := 0) (i := 0) (q := 0) rfl rfl d12_readWay_9 ?_
  obtain ⟨r9, t10, k11, hf⟩ := bd_some hf
  have q12 := s12_number _ _ _ _ k11
  refine ev_callV (vs := []) (sk := [.int v1, .ref b6]) cls12 (mono_ob q5.1 h1) q12 (by decide) (Nat.le_of_ble_eq_true rfl) w1714 w1716 ws81 w19 w1717 k12_number rfl (Nat.le_of_ble_eq_true rfl) d12_readWay_10 ?_
  obtain ⟨h13, hf⟩ := gd_some hf
  obtain ⟨h14, hf⟩ := gd_some hf
  obtain ⟨t15, e16, hf⟩ := lt_some hf
  refine ev_iast h13 h14 d12_readWay_13 (ev_nmS e16 ?_)
  refine ev_aload_n (j := 0) (i := 0) (q := 0) rfl rfl d12_readWay_14 ?_
  obtain ⟨r17, t18, k19, hf⟩ := bd_some hf
  have q20 := s12_isWell _ _ _ _ k19
  refine ev_callV (vs := []) (sk := []) cls12 (mono_ob (mono_eI e16) (mono_ob q12.1 (mono_ob q5.1 h1))) q20 (by decide) (Nat.le_of_ble_eq_true rfl) w1633 w1635 ws66 w19 w1636 k12_isWell rfl (Nat.le_of_ble_eq_true rfl) d12_readWay_15 ?_
  rcases ite_some hf with ⟨c21, hf⟩ | ⟨c21, hf⟩
  · refine ev_if_eq_P (tgt := 37) c21 (by decide) d12_readWay_18 ?_
    exact Ev.sub [0] rfl (s12_readWay_p37 _ _ _ _ hf)
  · refine ev_if_eq_Q (tgt := 37) c21 (by decide) d12_readWay_18 ?_
    refine ev_aload_n (j := 0) (i := 0) (q := 0) rfl rfl d12_readWay_21 ?_
    obtain ⟨b22, e23, hf⟩ := lt_some hf
    obtain ⟨h24, hf⟩ := gd_some hf
    refine ev_getRb cls12 (j := 27) (by decide) rfl w1278 (mono_ob q20.1 (mono_ob (mono_eI e16) (mono_ob q12.1 (mono_ob q5.1 h1)))) e23 (nz_ne h24) d12_readWay_22 ?_
    refine ev_iload_n (j := 1) (i := 1) (q := 1) rfl rfl d12_readWay_25 ?_
    obtain ⟨h25, hf⟩ := gd_some hf
    obtain ⟨h26, hf⟩ := gd_some hf
    refine ev_iald h25 h26 d12_readWay_26 ?_
    refine ev_bipush cb_6 d12_readWay_27 ?_
    rcases ite_some hf with ⟨c27, hf⟩ | ⟨c27, hf⟩
    · refine ev_icmp_le_P (tgt := 37) c27 (by decide) d12_readWay_29 ?_
      exact Ev.sub [0] rfl (s12_readWay_p37 _ _ _ _ hf)
    · refine ev_icmp_le_Q (tgt := 37) c27 (by decide) d12_readWay_29 ?_
      refine ev_aload_n (j := 0) (i := 0) (q := 0) rfl rfl d12_readWay_32 ?_
      refine ev_iconst ci_2 d12_readWay_33 ?_
      obtain ⟨r28, t29, k30, hf⟩ := bd_some hf
      have q31 := s12_fails _ _ _ _ _ k30
      refine ev_callV (vs := [.int (2 : Int32)]) (sk := []) cls12 (mono_ob q20.1 (mono_ob (mono_eI e16) (mono_ob q12.1 (mono_ob q5.1 h1)))) q31 (by decide) (Nat.le_of_ble_eq_true rfl) w1652 w1654 ws69 w19 w1655 k12_fails rfl (Nat.le_of_ble_eq_true rfl) d12_readWay_34 ?_
      exact Ev.sub [0] rfl (s12_readWay_p37 _ _ _ _ hf)
abbrev m12_readRule : MD := ("MillBoatsModel", ⟨"MillBoatsModel", "readRule", "()V"⟩, prog_14_method_60_code, 3, (none : Option Jvm.ClassFile.FieldType))
theorem k12_readRule : okY m12_readRule.2.1 0 := ⟨by decide +kernel, by decide +kernel, by decide +kernel⟩
def f12_readRule_p205 (σ : St) (v0 : Nat) (v2 : Int32) : Option (Unit × St) :=
  gd (ob σ v0 12) (
  bd (f12_wantSign σ v0 (59 : Int32)) fun r98 t99 => (
  lt (sR t99 v0 30) fun b102 => (
  gd (nz b102) (
  lt (sR t99 v0 24) fun b105 => (
  gd (nz b105) (
  gd (ob t99 b105 14) (
  gd (inb t99 b105 (24 : Int32)) (
  gd (ob t99 b102 14) (
  gd (inb t99 b102 v2) (
  lt (wI t99 b102 (ix v2) (sI t99 b105 (ix (24 : Int32)))) fun t112 => (
  some ((), t112))))))))))))
set_option maxRecDepth 20000 in
theorem s12_readRule_p205 : ∀ (σ : St) (v0 : Nat) (v2 : Int32) (r : Unit) (τ : St), f12_readRule_p205 σ v0 v2 = some (r, τ) → Ev 61 m12_readRule 205 [(0, .ref v0), (2, .int v2)] [] σ none τ := by
  intro σ v0 v2 r τ hf
  unfold f12_readRule_p205 at hf
  refine ev_aload_n (j := 0) (i := 0) (q := 0) rfl rfl d12_readRule_205 ?_
  refine ev_bipush cb_59 d12_readRule_206 ?_
  obtain ⟨h97, hf⟩ := gd_some hf
  obtain ⟨r98, t99, k100, hf⟩ := bd_some hf
  have q101 := s12_wantSign _ _ _ _ _ k100
  refine ev_callV (vs := [.int (59 : Int32)]) (sk := []) cls12 h97 q101 (by decide) (Nat.le_of_ble_eq_true rfl) w1682 w1684 ws73 w19 w1685 k12_wantSign rfl (Nat.le_of_ble_eq_true rfl) d12_readRule_208 ?_
  refine ev_aload_n (j := 0) (i := 0) (q := 0) rfl rfl d12_readRule_211 ?_
  obtain ⟨b102, e103, hf⟩ := lt_some hf
  obtain ⟨h104, hf⟩ := gd_some hf
  refine ev_getRb cls12 (j := 30) (by decide) rfl w1281 (mono_ob q101.1 h97) e103 (nz_ne h104) d12_readRule_212 ?_
  refine ev_iload_n (j := 2) (i := 2) (q := 1) rfl rfl d12_readRule_215 ?_
  refine ev_aload_n (j := 0) (i := 0) (q := 0) rfl rfl d12_readRule_216 ?_
  obtain ⟨b105, e106, hf⟩ := lt_some hf
  obtain ⟨h107, hf⟩ := gd_some hf
  refine ev_getRb cls12 (j := 24) (by decide) rfl w1275 (mono_ob q101.1 h97) e106 (nz_ne h107) d12_readRule_217 ?_
  refine ev_bipush cb_24 d12_readRule_220 ?_
  obtain ⟨h108, hf⟩ := gd_some hf
  obtain ⟨h109, hf⟩ := gd_some hf
  refine ev_iald h108 h109 d12_readRule_222 ?_
  obtain ⟨h110, hf⟩ := gd_some hf
  obtain ⟨h111, hf⟩ := gd_some hf
  obtain ⟨t112, e113, hf⟩ := lt_some hf
  refine ev_iast h110 h111 d12_readRule_223 (ev_nmS e113 ?_)
  obtain ⟨-, rfl⟩ := ret_some hf
  exact ev_vret rfl d12_readRule_224
def f12_readRule_p194 (σ : St) (v0 : Nat) (v2 : Int32) : Option (Unit × St) :=
  gd (ob σ v0 12) (
  bd (f12_wantWord σ v0 9) fun r115 t116 => (
  bd (f12_cond 8 t116 v0) fun r119 t120 => (
  f12_readRule_p205 t120 v0 v2)))
set_option maxRecDepth 20000 in
theorem s12_readRule_p194 : ∀ (σ : St) (v0 : Nat) (v2 : Int32) (r : Unit) (τ : St), f12_readRule_p194 σ v0 v2 = some (r, τ) → Ev 61 m12_readRule 194 [(0, .ref v0), (2, .int v2)] [] σ none τ := by
  intro σ v0 v2 r τ hf
  unfold f12_readRule_p194 at hf
  refine ev_aload_n (j := 0) (i := 0) (q := 0) rfl rfl d12_readRule_194 ?_
  refine ev_ldcwS (i := 9) rfl d12_readRule_195 ?_
  obtain ⟨h114, hf⟩ := gd_some hf
  obtain ⟨r115, t116, k117, hf⟩ := bd_some hf
  have q118 := s12_wantWord _ _ _ _ _ k117
  refine ev_callV (vs := [.ref (STR + 9)]) (sk := []) cls12 h114 q118 (by decide) (Nat.le_of_ble_eq_true rfl) w1718 w1720 ws82 w19 w1721 k12_wantWord rfl (Nat.le_of_ble_eq_true rfl) d12_readRule_198 ?_
  refine ev_aload_n (j := 0) (i := 0) (q := 0) rfl rfl d12_readRule_201 ?_
  obtain ⟨r119, t120, k121, hf⟩ := bd_some hf
  have q122 := s12_cond 8 _ _ _ _ k121
  refine ev_callV (vs := []) (sk := []) cls12 (mono_ob q118.1 h114) q122 (by omega) (Nat.le_of_ble_eq_true rfl) w1726 w1728 ws84 w19 w1729 k12_cond rfl (Nat.le_of_ble_eq_true rfl) d12_readRule_202 ?_
  exact Ev.sub [0, 1] rfl (s12_readRule_p205 _ _ _ _ _ hf)
def f12_readRule_p102 (σ : St) (v0 : Nat) (v1 : Int32) : Option (Unit × St) :=
  gd (ob σ v0 12) (
  bd (f12_isWell σ v0) fun r45 t46 => (
  (if r45 = (0 : Int32) then
  some ((), t46)
  else
  lt (sR t46 v0 25) fun b50 => (
  gd (nz b50) (
  gd (ob t46 b50 14) (
  gd (inb t46 b50 (24 : Int32)) (
  lt ((480 : Int32) + (sI t46 b50 (ix (24 : Int32)))) fun y55 => (
  lt (wI t46 b50 (ix (24 : Int32)) ((sI t46 b50 (ix (24 : Int32))) + (1 : Int32))) fun t57 => (
  lt (sR t57 v0 26) fun b59 => (
  gd (nz b59) (
  gd (ob t57 b59 14) (
  gd (inb t57 b59 y55) (
  lt (wI t57 b59 (ix y55) v1) fun t64 => (
  lt (sR t64 v0 29) fun b66 => (
  gd (nz b66) (
  lt (sR t64 v0 24) fun b69 => (
  gd (nz b69) (
  gd (ob t64 b69 14) (
  gd (inb t64 b69 (24 : Int32)) (
  gd (ob t64 b66 14) (
  gd (inb t64 b66 y55) (
  lt (wI t64 b66 (ix y55) (sI t64 b69 (ix (24 : Int32)))) fun t76 => (
  (if v1 = (0 : Int32) then
  bd (f12_readLet t76 v0) fun r79 t80 => (
  f12_readRule_p205 t80 v0 y55)
  else
  (if v1 = (3 : Int32) then
  bd (f12_readToll t76 v0 y55) fun r84 t85 => (
  f12_readRule_p194 t85 v0 y55)
  else
  (if v1 = (4 : Int32) then
  bd (f12_readWay t76 v0 y55) fun r89 t90 => (
  f12_readRule_p194 t90 v0 y55)
  else
  bd (f12_next t76 v0) fun r93 t94 => (
  f12_readRule_p194 t94 v0 y55)))))))))))))))))))))))))))
set_option maxRecDepth 20000 in
theorem s12_readRule_p102 : ∀ (σ : St) (v0 : Nat) (v1 : Int32) (r : Unit) (τ : St), f12_readRule_p102 σ v0 v1 = some (r, τ) → Ev 61 m12_readRule 102 [(0, .ref v0), (1, .int v1)] [] σ none τ := by
  intro σ v0 v1 r τ hf
  unfold f12_readRule_p102 at hf
  refine ev_aload_n (j := 0) (i := 0) (q := 0) rfl rfl d12_readRule_102 ?_
  obtain ⟨h44, hf⟩ := gd_some hf
  obtain ⟨r45, t46, k47, hf⟩ := bd_some hf
  have q48 := s12_isWell _ _ _ _ k47
  refine ev_callV (vs := []) (sk := []) cls12 h44 q48 (by decide) (Nat.le_of_ble_eq_true rfl) w1633 w1635 ws66 w19 w1636 k12_isWell rfl (Nat.le_of_ble_eq_true rfl) d12_readRule_103 ?_
  rcases ite_some hf with ⟨c49, hf⟩ | ⟨c49, hf⟩
  · refine ev_if_ne_P (tgt := 110) c49 (by decide) d12_readRule_106 ?_
    obtain ⟨-, rfl⟩ := ret_some hf
    exact ev_vret rfl d12_readRule_109
  · refine ev_if_ne_Q (tgt := 110) c49 (by decide) d12_readRule_106 ?_
    refine ev_sipush cs_480 d12_readRule_110 ?_
    refine ev_aload_n (j := 0) (i := 0) (q := 0) rfl rfl d12_readRule_113 ?_
    obtain ⟨b50, e51, hf⟩ := lt_some hf
    obtain ⟨h52, hf⟩ := gd_some hf
    refine ev_getRb cls12 (j := 25) (by decide) rfl w1276 (mono_ob q48.1 h44) e51 (nz_ne h52) d12_readRule_114 ?_
    refine ev_bipush cb_24 d12_readRule_117 ?_
    obtain ⟨h53, hf⟩ := gd_some hf
    obtain ⟨h54, hf⟩ := gd_some hf
    refine ev_iald h53 h54 d12_readRule_119 ?_
    refine ev_iadd d12_readRule_120 ?_
    obtain ⟨y55, e56, hf⟩ := lt_some hf
    refine ev_nmI e56 ?_
    refine ev_istore_n (lv2 := [(2, .int y55), (0, .ref v0), (1, .int v1)]) (j := 2) (i := 2) rfl (by decide) rfl d12_readRule_121 ?_
    refine ev_aload_n (j := 0) (i := 0) (q := 1) rfl rfl d12_readRule_122 ?_
    refine ev_getRb cls12 (j := 25) (by decide) rfl w1276 (mono_ob q48.1 h44) e51 (nz_ne h52) d12_readRule_123 ?_
    refine ev_bipush cb_24 d12_readRule_126 ?_
    refine ev_dup2 rfl rfl d12_readRule_128 ?_
    refine ev_iald h53 h54 d12_readRule_129 ?_
    refine ev_iconst ci_1 d12_readRule_130 ?_
    refine ev_iadd d12_readRule_131 ?_
    obtain ⟨t57, e58, hf⟩ := lt_some hf
    refine ev_iast h53 h54 d12_readRule_132 (ev_nmS e58 ?_)
    refine ev_aload_n (j := 0) (i := 0) (q := 1) rfl rfl d12_readRule_133 ?_
    obtain ⟨b59, e60, hf⟩ := lt_some hf
    obtain ⟨h61, hf⟩ := gd_some hf
    refine ev_getRb cls12 (j := 26) (by decide) rfl w1277 (mono_ob (mono_eI e58) (mono_ob q48.1 h44)) e60 (nz_ne h61) d12_readRule_134 ?_
    refine ev_iload_n (j := 2) (i := 2) (q := 0) rfl rfl d12_readRule_137 ?_
    refine ev_iload_n (j := 1) (i := 1) (q := 2) rfl rfl d12_readRule_138 ?_
    obtain ⟨h62, hf⟩ := gd_some hf
    obtain ⟨h63, hf⟩ := gd_some hf
    obtain ⟨t64, e65, hf⟩ := lt_some hf
    refine ev_iast h62 h63 d12_readRule_139 (ev_nmS e65 ?_)
    refine ev_aload_n (j := 0) (i := 0) (q := 1) rfl rfl d12_readRule_140 ?_
    obtain ⟨b66, e67, hf⟩ := lt_some hf
    obtain ⟨h68, hf⟩ := gd_some hf
    refine ev_getRb cls12 (j := 29) (by decide) rfl w1280 (mono_ob (mono_eI e65) (mono_ob (mono_eI e58) (mono_ob q48.1 h44))) e67 (nz_ne h68) d12_readRule_141 ?_
    refine ev_iload_n (j := 2) (i := 2) (q := 0) rfl rfl d12_readRule_144 ?_
    refine ev_aload_n (j := 0) (i := 0) (q := 1) rfl rfl d12_readRule_145 ?_
    obtain ⟨b69, e70, hf⟩ := lt_some hf
    obtain ⟨h71, hf⟩ := gd_some hf
    refine ev_getRb cls12 (j := 24) (by decide) rfl w1275 (mono_ob (mono_eI e65) (mono_ob (mono_eI e58) (mono_ob q48.1 h44))) e70 (nz_ne h71) d12_readRule_146 ?_
    refine ev_bipush cb_24 d12_readRule_149 ?_
    obtain ⟨h72, hf⟩ := gd_some hf
    obtain ⟨h73, hf⟩ := gd_some hf
    refine ev_iald h72 h73 d12_readRule_151 ?_
    obtain ⟨h74, hf⟩ := gd_some hf
    obtain ⟨h75, hf⟩ := gd_some hf
    obtain ⟨t76, e77, hf⟩ := lt_some hf
    refine ev_iast h74 h75 d12_readRule_152 (ev_nmS e77 ?_)
    refine ev_iload_n (j := 1) (i := 1) (q := 2) rfl rfl d12_readRule_153 ?_
    rcases ite_some hf with ⟨c78, hf⟩ | ⟨c78, hf⟩
    · refine ev_if_ne_P (tgt := 164) c78 (by decide) d12_readRule_154 ?_
      refine ev_aload_n (j := 0) (i := 0) (q := 1) rfl rfl d12_readRule_157 ?_
      obtain ⟨r79, t80, k81, hf⟩ := bd_some hf
      have q82 := s12_readLet _ _ _ _ k81
      refine ev_callV (vs := []) (sk := []) cls12 (mono_ob (mono_eI e77) (mono_ob (mono_eI e65) (mono_ob (mono_eI e58) (mono_ob q48.1 h44)))) q82 (by decide) (Nat.le_of_ble_eq_true rfl) w1656 w1658 ws70 w19 w1659 k12_readLet rfl (Nat.le_of_ble_eq_true rfl) d12_readRule_158 ?_
      refine ev_goto (tgt := 205) (by decide) d12_readRule_161 ?_
      exact Ev.sub [1, 0] rfl (s12_readRule_p205 _ _ _ _ _ hf)
    · refine ev_if_ne_Q (tgt := 164) c78 (by decide) d12_readRule_154 ?_
      refine ev_iload_n (j := 1) (i := 1) (q := 2) rfl rfl d12_readRule_164 ?_
      refine ev_iconst ci_3 d12_readRule_165 ?_
      rcases ite_some hf with ⟨c83, hf⟩ | ⟨c83, hf⟩
      · refine ev_icmp_ne_P (tgt := 177) c83 (by decide) d12_readRule_166 ?_
        refine ev_aload_n (j := 0) (i := 0) (q := 1) rfl rfl d12_readRule_169 ?_
        refine ev_iload_n (j := 2) (i := 2) (q := 0) rfl rfl d12_readRule_170 ?_
        obtain ⟨r84, t85, k86, hf⟩ := bd_some hf
        have q87 := s12_readToll _ _ _ _ _ k86
        refine ev_callV (vs := [.int y55]) (sk := []) cls12 (mono_ob (mono_eI e77) (mono_ob (mono_eI e65) (mono_ob (mono_eI e58) (mono_ob q48.1 h44)))) q87 (by decide) (Nat.le_of_ble_eq_true rfl) w1710 w1712 ws80 w19 w1713 k12_readToll rfl (Nat.le_of_ble_eq_true rfl) d12_readRule_171 ?_
        refine ev_goto (tgt := 194) (by decide) d12_readRule_174 ?_
        exact Ev.sub [1, 0] rfl (s12_readRule_p194 _ _ _ _ _ hf)
      · refine ev_icmp_ne_Q (tgt := 177) c83 (by decide) d12_readRule_166 ?_
        refine ev_iload_n (j := 1) (i := 1) (q := 2) rfl rfl d12_readRule_177 ?_
        refine ev_iconst ci_4 d12_readRule_178 ?_
        rcases ite_some hf with ⟨c88, hf⟩ | ⟨c88, hf⟩
        · refine ev_icmp_ne_P (tgt := 190) c88 (by decide) d12_readRule_179 ?_
          refine ev_aload_n (j := 0) (i := 0) (q := 1) rfl rfl d12_readRule_182 ?_
          refine ev_iload_n (j := 2) (i := 2) (q := 0) rfl rfl d12_readRule_183 ?_
          obtain ⟨r89, t90, k91, hf⟩ := bd_some hf
          have q92 := s12_readWay _ _ _ _ _ k91
          refine ev_callV (vs := [.int y55]) (sk := []) cls12 (mono_ob (mono_eI e77) (mono_ob (mono_eI e65) (mono_ob (mono_eI e58) (mono_ob q48.1 h44)))) q92 (by decide) (Nat.le_of_ble_eq_true rfl) w1722 w1724 ws83 w19 w1725 k12_readWay rfl (Nat.le_of_ble_eq_true rfl) d12_readRule_184 ?_
          refine ev_goto (tgt := 194) (by decide) d12_readRule_187 ?_
          exact Ev.sub [1, 0] rfl (s12_readRule_p194 _ _ _ _ _ hf)
        · refine ev_icmp_ne_Q (tgt := 190) c88 (by decide) d12_readRule_179 ?_
          refine ev_aload_n (j := 0) (i := 0) (q := 1) rfl rfl d12_readRule_190 ?_
          obtain ⟨r93, t94, k95, hf⟩ := bd_some hf
          have q96 := s12_next _ _ _ _ k95
          refine ev_callV (vs := []) (sk := []) cls12 (mono_ob (mono_eI e77) (mono_ob (mono_eI e65) (mono_ob (mono_eI e58) (mono_ob q48.1 h44)))) q96 (by decide) (Nat.le_of_ble_eq_true rfl) w1619 w1621 ws64 w19 w1622 k12_next rfl (Nat.le_of_ble_eq_true rfl) d12_readRule_191 ?_
          exact Ev.sub [1, 0] rfl (s12_readRule_p194 _ _ _ _ _ hf)
def f12_readRule_p71 (σ : St) (v0 : Nat) (x0 : Int32) : Option (Unit × St) :=
  (if x0 = (-1 : Int32) then
  gd (ob σ v0 12) (
  bd (f12_fails σ v0 (1 : Int32)) fun r29 t30 => (
  f12_readRule_p102 t30 v0 x0))
  else
  gd (ob σ v0 12) (
  lt (sR σ v0 25) fun b34 => (
  gd (nz b34) (
  gd (ob σ b34 14) (
  gd (inb σ b34 (24 : Int32)) (
  (if (sI σ b34 (ix (24 : Int32))) = (20 : Int32) then
  bd (f12_fails σ v0 (4 : Int32)) fun r40 t41 => (
  f12_readRule_p102 t41 v0 x0)
  else
  f12_readRule_p102 σ v0 x0)))))))
set_option maxRecDepth 20000 in
theorem s12_readRule_p71 : ∀ (σ : St) (v0 : Nat) (x0 : Int32) (r : Unit) (τ : St), f12_readRule_p71 σ v0 x0 = some (r, τ) → Ev 61 m12_readRule 71 [(0, .ref v0)] [.int x0] σ none τ := by
  intro σ v0 x0 r τ hf
  unfold f12_readRule_p71 at hf
  refine ev_istore_n (lv2 := [(1, .int x0), (0, .ref v0)]) (j := 1) (i := 1) rfl (by decide) rfl d12_readRule_71 ?_
  refine ev_iload_n (j := 1) (i := 1) (q := 0) rfl rfl d12_readRule_72 ?_
  refine ev_iconst ci_m1 d12_readRule_73 ?_
  rcases ite_some hf with ⟨c27, hf⟩ | ⟨c27, hf⟩
  · refine ev_icmp_ne_P (tgt := 85) c27 (by decide) d12_readRule_74 ?_
    refine ev_aload_n (j := 0) (i := 0) (q := 1) rfl rfl d12_readRule_77 ?_
    refine ev_iconst ci_1 d12_readRule_78 ?_
    obtain ⟨h28, hf⟩ := gd_some hf
    obtain ⟨r29, t30, k31, hf⟩ := bd_some hf
    have q32 := s12_fails _ _ _ _ _ k31
    refine ev_callV (vs := [.int (1 : Int32)]) (sk := []) cls12 h28 q32 (by decide) (Nat.le_of_ble_eq_true rfl) w1652 w1654 ws69 w19 w1655 k12_fails rfl (Nat.le_of_ble_eq_true rfl) d12_readRule_79 ?_
    refine ev_goto (tgt := 102) (by decide) d12_readRule_82 ?_
    exact Ev.sub [1, 0] rfl (s12_readRule_p102 _ _ _ _ _ hf)
  · refine ev_icmp_ne_Q (tgt := 85) c27 (by decide) d12_readRule_74 ?_
    refine ev_aload_n (j := 0) (i := 0) (q := 1) rfl rfl d12_readRule_85 ?_
    obtain ⟨h33, hf⟩ := gd_some hf
    obtain ⟨b34, e35, hf⟩ := lt_some hf
    obtain ⟨h36, hf⟩ := gd_some hf
    refine ev_getRb cls12 (j := 25) (by decide) rfl w1276 h33 e35 (nz_ne h36) d12_readRule_86 ?_
    refine ev_bipush cb_24 d12_readRule_89 ?_
    obtain ⟨h37, hf⟩ := gd_some hf
    obtain ⟨h38, hf⟩ := gd_some hf
    refine ev_iald h37 h38 d12_readRule_91 ?_
    refine ev_bipush cb_20 d12_readRule_92 ?_
    rcases ite_some hf with ⟨c39, hf⟩ | ⟨c39, hf⟩
    · refine ev_icmp_ne_P (tgt := 102) c39 (by decide) d12_readRule_94 ?_
      refine ev_aload_n (j := 0) (i := 0) (q := 1) rfl rfl d12_readRule_97 ?_
      refine ev_iconst ci_4 d12_readRule_98 ?_
      obtain ⟨r40, t41, k42, hf⟩ := bd_some hf
      have q43 := s12_fails _ _ _ _ _ k42
      refine ev_callV (vs := [.int (4 : Int32)]) (sk := []) cls12 h33 q43 (by decide) (Nat.le_of_ble_eq_true rfl) w1652 w1654 ws69 w19 w1655 k12_fails rfl (Nat.le_of_ble_eq_true rfl) d12_readRule_99 ?_
      exact Ev.sub [1, 0] rfl (s12_readRule_p102 _ _ _ _ _ hf)
    · refine ev_icmp_ne_Q (tgt := 102) c39 (by decide) d12_readRule_94 ?_
      exact Ev.sub [1, 0] rfl (s12_readRule_p102 _ _ _ _ _ hf)
def f12_readRule (σ : St) (v0 : Nat) : Option (Unit × St) :=
  gd (ob σ v0 12) (
  bd (f12_isWord σ v0 3) fun r2 t3 => (
  (if r2 = (0 : Int32) then
  bd (f12_isWord t3 v0 4) fun r7 t8 => (
  (if r7 = (0 : Int32) then
  bd (f12_isWord t8 v0 5) fun r12 t13 => (
  (if r12 = (0 : Int32) then
  bd (f12_isWord t13 v0 6) fun r17 t18 => (
  (if r17 = (0 : Int32) then
  bd (f12_isWord t18 v0 7) fun r22 t23 => (
  (if r22 = (0 : Int32) then
  f12_readRule_p71 t23 v0 (-1 : Int32)
  else
  f12_readRule_p71 t23 v0 (4 : Int32)))
  else
  f12_readRule_p71 t18 v0 (3 : Int32)))
  else
  f12_readRule_p71 t13 v0 (2 : Int32)))
  else
  f12_readRule_p71 t8 v0 (1 : Int32)))
  else
  f12_readRule_p71 t3 v0 (0 : Int32))))
set_option maxRecDepth 50000 in
theorem s12_readRule : ∀ (σ : St) (v0 : Nat) (r : Unit) (τ : St), f12_readRule σ v0 = some (r, τ) → Call 61 m12_readRule [.ref v0] σ none τ := by
  intro σ v0 r τ hf
  unfold f12_readRule at hf
  refine Call.of (by decide +kernel) rfl (Nat.le_of_ble_eq_true rfl) ?_
  refine ev_aload_n (j := 0) (i := 0) (q := 0) rfl rfl d12_readRule_0 ?_
  refine ev_ldcwS (i := 3) rfl d12_readRule_1 ?_
  obtain ⟨h1, hf⟩ := gd_some hf
  obtain ⟨r2, t3, k4, hf⟩ := bd_some hf
  have q5 := s12_isWord _ _ _ _ _ k4
  refine ev_callV (vs := [.ref (STR + 3)]) (sk := []) cls12 h1 q5 (by decide) (Nat.le_of_ble_eq_true rfl) w1642 w1644 ws68 w19 w1645 k12_isWord rfl (Nat.le_of_ble_eq_true rfl) d12_readRule_4 ?_
  rcases ite_some hf with ⟨c6, hf⟩ | ⟨c6, hf⟩
  · refine ev_if_eq_P (tgt := 14) c6 (by decide) d12_readRule_7 ?_
    refine ev_aload_n (j := 0) (i := 0) (q := 0) rfl rfl d12_readRule_14 ?_
    refine ev_ldcwS (i := 4) rfl d12_readRule_15 ?_
    obtain ⟨r7, t8, k9, hf⟩ := bd_some hf
    have q10 := s12_isWord _ _ _ _ _ k9
    refine ev_callV (vs := [.ref (STR + 4)]) (sk := []) cls12 (mono_ob q5.1 h1) q10 (by decide) (Nat.le_of_ble_eq_true rfl) w1642 w1644 ws68 w19 w1645 k12_isWord rfl (Nat.le_of_ble_eq_true rfl) d12_readRule_18 ?_
    rcases ite_some hf with ⟨c11, hf⟩ | ⟨c11, hf⟩
    · refine ev_if_eq_P (tgt := 28) c11 (by decide) d12_readRule_21 ?_
      refine ev_aload_n (j := 0) (i := 0) (q := 0) rfl rfl d12_readRule_28 ?_
      refine ev_ldcwS (i := 5) rfl d12_readRule_29 ?_
      obtain ⟨r12, t13, k14, hf⟩ := bd_some hf
      have q15 := s12_isWord _ _ _ _ _ k14
      refine ev_callV (vs := [.ref (STR + 5)]) (sk := []) cls12 (mono_ob q10.1 (mono_ob q5.1 h1)) q15 (by decide) (Nat.le_of_ble_eq_true rfl) w1642 w1644 ws68 w19 w1645 k12_isWord rfl (Nat.le_of_ble_eq_true rfl) d12_readRule_32 ?_
      rcases ite_some hf with ⟨c16, hf⟩ | ⟨c16, hf⟩
      · refine ev_if_eq_P (tgt := 42) c16 (by decide) d12_readRule_35 ?_
        refine ev_aload_n (j := 0) (i := 0) (q := 0) rfl rfl d12_readRule_42 ?_
        refine ev_ldcwS (i := 6) rfl d12_readRule_43 ?_
        obtain ⟨r17, t18, k19, hf⟩ := bd_some hf
        have q20 := s12_isWord _ _ _ _ _ k19
        refine ev_callV (vs := [.ref (STR + 6)]) (sk := []) cls12 (mono_ob q15.1 (mono_ob q10.1 (mono_ob q5.1 h1))) q20 (by decide) (Nat.le_of_ble_eq_true rfl) w1642 w1644 ws68 w19 w1645 k12_isWord rfl (Nat.le_of_ble_eq_true rfl) d12_readRule_46 ?_
        rcases ite_some hf with ⟨c21, hf⟩ | ⟨c21, hf⟩
        · refine ev_if_eq_P (tgt := 56) c21 (by decide) d12_readRule_49 ?_
          refine ev_aload_n (j := 0) (i := 0) (q := 0) rfl rfl d12_readRule_56 ?_
          refine ev_ldcwS (i := 7) rfl d12_readRule_57 ?_
          obtain ⟨r22, t23, k24, hf⟩ := bd_some hf
          have q25 := s12_isWord _ _ _ _ _ k24
          refine ev_callV (vs := [.ref (STR + 7)]) (sk := []) cls12 (mono_ob q20.1 (mono_ob q15.1 (mono_ob q10.1 (mono_ob q5.1 h1)))) q25 (by decide) (Nat.le_of_ble_eq_true rfl) w1642 w1644 ws68 w19 w1645 k12_isWord rfl (Nat.le_of_ble_eq_true rfl) d12_readRule_60 ?_
          rcases ite_some hf with ⟨c26, hf⟩ | ⟨c26, hf⟩
          · refine ev_if_eq_P (tgt := 70) c26 (by decide) d12_readRule_63 ?_
            refine ev_iconst ci_m1 d12_readRule_70 ?_
            exact Ev.sub [0] rfl (s12_readRule_p71 _ _ _ _ _ hf)
          · refine ev_if_eq_Q (tgt := 70) c26 (by decide) d12_readRule_63 ?_
            refine ev_iconst ci_4 d12_readRule_66 ?_
            refine ev_goto (tgt := 71) (by decide) d12_readRule_67 ?_
            exact Ev.sub [0] rfl (s12_readRule_p71 _ _ _ _ _ hf)
        · refine ev_if_eq_Q (tgt := 56) c21 (by decide) d12_readRule_49 ?_
          refine ev_iconst ci_3 d12_readRule_52 ?_
          refine ev_goto (tgt := 71) (by decide) d12_readRule_53 ?_
          exact Ev.sub [0] rfl (s12_readRule_p71 _ _ _ _ _ hf)
      · refine ev_if_eq_Q (tgt := 42) c16 (by decide) d12_readRule_35 ?_
        refine ev_iconst ci_2 d12_readRule_38 ?_
        refine ev_goto (tgt := 71) (by decide) d12_readRule_39 ?_
        exact Ev.sub [0] rfl (s12_readRule_p71 _ _ _ _ _ hf)
    · refine ev_if_eq_Q (tgt := 28) c11 (by decide) d12_readRule_21 ?_
      refine ev_iconst ci_1 d12_readRule_24 ?_
      refine ev_goto (tgt := 71) (by decide) d12_readRule_25 ?_
      exact Ev.sub [0] rfl (s12_readRule_p71 _ _ _ _ _ hf)
  · refine ev_if_eq_Q (tgt := 14) c6 (by decide) d12_readRule_7 ?_
    refine ev_iconst ci_0 d12_readRule_10 ?_
    refine ev_goto (tgt := 71) (by decide) d12_readRule_11 ?_
    exact Ev.sub [0] rfl (s12_readRule_p71 _ _ _ _ _ hf)
abbrev m12_copyText : MD := ("MillBoatsModel", ⟨"MillBoatsModel", "copyText", "(I)V"⟩, prog_14_method_61_code, 5, (none : Option Jvm.ClassFile.FieldType))
theorem k12_copyText : okY m12_copyText.2.1 1 := ⟨by decide +kernel, by decide +kernel, by decide +kernel⟩
def f12_copyText_p69 : Nat → St → Nat → Int32 → Int32 → Option (Unit × St)
  | 0, _, _, _, _ => none
  | n + 1, σ, v0, v1, v2 =>
  gd (ob σ v0 12) (
  lt (sR σ v0 25) fun b36 => (
  gd (nz b36) (
  gd (ob σ b36 14) (
  gd (inb σ b36 (24 : Int32)) (
  (if v2 < (sI σ b36 (ix (24 : Int32))) then
  lt ((480 : Int32) + v2) fun y42 => (
  lt (((20 : Int32) * v1) + v2) fun y44 => (
  lt (sR σ v0 26) fun b46 => (
  gd (nz b46) (
  gd (ob σ b46 14) (
  gd (inb σ b46 y42) (
  gd (inb σ b46 y44) (
  lt (wI σ b46 (ix y44) (sI σ b46 (ix y42))) fun t52 => (
  lt (sR t52 v0 27) fun b54 => (
  gd (nz b54) (
  gd (ob t52 b54 14) (
  gd (inb t52 b54 y42) (
  gd (inb t52 b54 y44) (
  lt (wI t52 b54 (ix y44) (sI t52 b54 (ix y42))) fun t60 => (
  lt (sR t60 v0 28) fun b62 => (
  gd (nz b62) (
  gd (ob t60 b62 14) (
  gd (inb t60 b62 y42) (
  gd (inb t60 b62 y44) (
  lt (wI t60 b62 (ix y44) (sI t60 b62 (ix y42))) fun t68 => (
  lt (sR t68 v0 29) fun b70 => (
  gd (nz b70) (
  gd (ob t68 b70 14) (
  gd (inb t68 b70 y42) (
  gd (inb t68 b70 y44) (
  lt (wI t68 b70 (ix y44) (sI t68 b70 (ix y42))) fun t76 => (
  lt (sR t76 v0 30) fun b78 => (
  gd (nz b78) (
  gd (ob t76 b78 14) (
  gd (inb t76 b78 y42) (
  gd (inb t76 b78 y44) (
  lt (wI t76 b78 (ix y44) (sI t76 b78 (ix y42))) fun t84 => (
  lt (v2 + (1 : Int32)) fun y86 => (
  (f12_copyText_p69 n) t84 v0 v1 y86)))))))))))))))))))))))))))))))))
  else
  some ((), σ)))))))
set_option maxRecDepth 20000 in
theorem s12_copyText_p69 : ∀ (n : Nat) (σ : St) (v0 : Nat) (v1 : Int32) (v2 : Int32) (r : Unit) (τ : St), f12_copyText_p69 n σ v0 v1 v2 = some (r, τ) → Ev 2 m12_copyText 69 [(0, .ref v0), (1, .int v1), (2, .int v2)] [] σ none τ := by
  intro n
  induction n with
  | zero =>
    intro σ v0 v1 v2 r τ hf
    cases hf
  | succ n ih =>
    intro σ v0 v1 v2 r τ hf
    rw [f12_copyText_p69] at hf
    refine ev_iload_n (j := 2) (i := 2) (q := 2) rfl rfl d12_copyText_69 ?_
    refine ev_aload_n (j := 0) (i := 0) (q := 0) rfl rfl d12_copyText_70 ?_
    obtain ⟨h35, hf⟩ := gd_some hf
    obtain ⟨b36, e37, hf⟩ := lt_some hf
    obtain ⟨h38, hf⟩ := gd_some hf
    refine ev_getRb cls12 (j := 25) (by decide) rfl w1276 h35 e37 (nz_ne h38) d12_copyText_71 ?_
    refine ev_bipush cb_24 d12_copyText_74 ?_
    obtain ⟨h39, hf⟩ := gd_some hf
    obtain ⟨h40, hf⟩ := gd_some hf
    refine ev_iald h39 h40 d12_copyText_76 ?_
    rcases ite_some hf with ⟨c41, hf⟩ | ⟨c41, hf⟩
    · refine ev_icmp_ge_P (tgt := 165) c41 (by decide) d12_copyText_77 ?_
      refine ev_sipush cs_480 d12_copyText_80 ?_
      refine ev_iload_n (j := 2) (i := 2) (q := 2) rfl rfl d12_copyText_83 ?_
      refine ev_iadd d12_copyText_84 ?_
      obtain ⟨y42, e43, hf⟩ := lt_some hf
      refine ev_nmI e43 ?_
      refine ev_istore_n (lv2 := [(3, .int y42), (0, .ref v0), (1, .int v1), (2, .int v2)]) (j := 3) (i := 3) rfl (by decide) rfl d12_copyText_85 ?_
      refine ev_bipush cb_20 d12_copyText_86 ?_
      refine ev_iload_n (j := 1) (i := 1) (q := 2) rfl rfl d12_copyText_88 ?_
      refine ev_imul d12_copyText_89 ?_
      refine ev_iload_n (j := 2) (i := 2) (q := 3) rfl rfl d12_copyText_90 ?_
      refine ev_iadd d12_copyText_91 ?_
      obtain ⟨y44, e45, hf⟩ := lt_some hf
      refine ev_nmI e45 ?_
      refine ev_istore (lv2 := [(4, .int y44), (3, .int y42), (0, .ref v0), (1, .int v1), (2, .int v2)]) (i := 4) (by decide) rfl d12_copyText_92 ?_
      refine ev_aload_n (j := 0) (i := 0) (q := 2) rfl rfl d12_copyText_94 ?_
      obtain ⟨b46, e47, hf⟩ := lt_some hf
      obtain ⟨h48, hf⟩ := gd_some hf
      refine ev_getRb cls12 (j := 26) (by decide) rfl w1277 h35 e47 (nz_ne h48) d12_copyText_95 ?_
      refine ev_iload (i := 4) (q := 0) rfl d12_copyText_98 ?_
      refine ev_aload_n (j := 0) (i := 0) (q := 2) rfl rfl d12_copyText_100 ?_
      refine ev_getRb cls12 (j := 26) (by decide) rfl w1277 h35 e47 (nz_ne h48) d12_copyText_101 ?_
      refine ev_iload_n (j := 3) (i := 3) (q := 1) rfl rfl d12_copyText_104 ?_
      obtain ⟨h49, hf⟩ := gd_some hf
      obtain ⟨h50, hf⟩ := gd_some hf
      refine ev_iald h49 h50 d12_copyText_105 ?_
      obtain ⟨h51, hf⟩ := gd_some hf
      obtain ⟨t52, e53, hf⟩ := lt_some hf
      refine ev_iast h49 h51 d12_copyText_106 (ev_nmS e53 ?_)
      refine ev_aload_n (j := 0) (i := 0) (q := 2) rfl rfl d12_copyText_107 ?_
      obtain ⟨b54, e55, hf⟩ := lt_some hf
      obtain ⟨h56, hf⟩ := gd_some hf
      refine ev_getRb cls12 (j := 27) (by decide) rfl w1278 (mono_ob (mono_eI e53) h35) e55 (nz_ne h56) d12_copyText_108 ?_
      refine ev_iload (i := 4) (q := 0) rfl d12_copyText_111 ?_
      refine ev_aload_n (j := 0) (i := 0) (q := 2) rfl rfl d12_copyText_113 ?_
      refine ev_getRb cls12 (j := 27) (by decide) rfl w1278 (mono_ob (mono_eI e53) h35) e55 (nz_ne h56) d12_copyText_114 ?_
      refine ev_iload_n (j := 3) (i := 3) (q := 1) rfl rfl d12_copyText_117 ?_
      obtain ⟨h57, hf⟩ := gd_some hf
      obtain ⟨h58, hf⟩ := gd_some hf
      refine ev_iald h57 h58 d12_copyText_118 ?_
      obtain ⟨h59, hf⟩ := gd_some hf
      obtain ⟨t60, e61, hf⟩ := lt_some hf
      refine ev_iast h57 h59 d12_copyText_119 (ev_nmS e61 ?_)
      refine ev_aload_n (j := 0) (i := 0) (q := 2) rfl rfl d12_copyText_120 ?_
      obtain ⟨b62, e63, hf⟩ := lt_some hf
      obtain ⟨h64, hf⟩ := gd_some hf
      refine ev_getRb cls12 (j := 28) (by decide) rfl w1279 (mono_ob (mono_eI e61) (mono_ob (mono_eI e53) h35)) e63 (nz_ne h64) d12_copyText_121 ?_
      refine ev_iload (i := 4) (q := 0) rfl d12_copyText_124 ?_
      refine ev_aload_n (j := 0) (i := 0) (q := 2) rfl rfl d12_copyText_126 ?_
      refine ev_getRb cls12 (j := 28) (by decide) rfl w1279 (mono_ob (mono_eI e61) (mono_ob (mono_eI e53) h35)) e63 (nz_ne h64) d12_copyText_127 ?_
      refine ev_iload_n (j := 3) (i := 3) (q := 1) rfl rfl d12_copyText_130 ?_
      obtain ⟨h65, hf⟩ := gd_some hf
      obtain ⟨h66, hf⟩ := gd_some hf
      refine ev_iald h65 h66 d12_copyText_131 ?_
      obtain ⟨h67, hf⟩ := gd_some hf
      obtain ⟨t68, e69, hf⟩ := lt_some hf
      refine ev_iast h65 h67 d12_copyText_132 (ev_nmS e69 ?_)
      refine ev_aload_n (j := 0) (i := 0) (q := 2) rfl rfl d12_copyText_133 ?_
      obtain ⟨b70, e71, hf⟩ := lt_some hf
      obtain ⟨h72, hf⟩ := gd_some hf
      refine ev_getRb cls12 (j := 29) (by decide) rfl w1280 (mono_ob (mono_eI e69) (mono_ob (mono_eI e61) (mono_ob (mono_eI e53) h35))) e71 (nz_ne h72) d12_copyText_134 ?_
      refine ev_iload (i := 4) (q := 0) rfl d12_copyText_137 ?_
      refine ev_aload_n (j := 0) (i := 0) (q := 2) rfl rfl d12_copyText_139 ?_
      refine ev_getRb cls12 (j := 29) (by decide) rfl w1280 (mono_ob (mono_eI e69) (mono_ob (mono_eI e61) (mono_ob (mono_eI e53) h35))) e71 (nz_ne h72) d12_copyText_140 ?_
      refine ev_iload_n (j := 3) (i := 3) (q := 1) rfl rfl d12_copyText_143 ?_
      obtain ⟨h73, hf⟩ := gd_some hf
      obtain ⟨h74, hf⟩ := gd_some hf
      refine ev_iald h73 h74 d12_copyText_144 ?_
      obtain ⟨h75, hf⟩ := gd_some hf
      obtain ⟨t76, e77, hf⟩ := lt_some hf
      refine ev_iast h73 h75 d12_copyText_145 (ev_nmS e77 ?_)
      refine ev_aload_n (j := 0) (i := 0) (q := 2) rfl rfl d12_copyText_146 ?_
      obtain ⟨b78, e79, hf⟩ := lt_some hf
      obtain ⟨h80, hf⟩ := gd_some hf
      refine ev_getRb cls12 (j := 30) (by decide) rfl w1281 (mono_ob (mono_eI e77) (mono_ob (mono_eI e69) (mono_ob (mono_eI e61) (mono_ob (mono_eI e53) h35)))) e79 (nz_ne h80) d12_copyText_147 ?_
      refine ev_iload (i := 4) (q := 0) rfl d12_copyText_150 ?_
      refine ev_aload_n (j := 0) (i := 0) (q := 2) rfl rfl d12_copyText_152 ?_
      refine ev_getRb cls12 (j := 30) (by decide) rfl w1281 (mono_ob (mono_eI e77) (mono_ob (mono_eI e69) (mono_ob (mono_eI e61) (mono_ob (mono_eI e53) h35)))) e79 (nz_ne h80) d12_copyText_153 ?_
      refine ev_iload_n (j := 3) (i := 3) (q := 1) rfl rfl d12_copyText_156 ?_
      obtain ⟨h81, hf⟩ := gd_some hf
      obtain ⟨h82, hf⟩ := gd_some hf
      refine ev_iald h81 h82 d12_copyText_157 ?_
      obtain ⟨h83, hf⟩ := gd_some hf
      obtain ⟨t84, e85, hf⟩ := lt_some hf
      refine ev_iast h81 h83 d12_copyText_158 (ev_nmS e85 ?_)
      obtain ⟨y86, e87, hf⟩ := lt_some hf
      refine ev_iinc (lv2 := [(2, .int y86), (4, .int y44), (3, .int y42), (0, .ref v0), (1, .int v1)]) (i := 2) (q := 4) (v := y86) (n := 1) rfl (by rw [ci_1]; exact e87.symm) (by decide) rfl d12_copyText_159 ?_
      refine ev_goto (tgt := 69) (by decide) d12_copyText_162 ?_
      exact Ev.sub [3, 4, 0] rfl (ih _ _ _ _ _ _ hf)
    · refine ev_icmp_ge_Q (tgt := 165) c41 (by decide) d12_copyText_77 ?_
      obtain ⟨-, rfl⟩ := ret_some hf
      exact ev_vret rfl d12_copyText_165
def f12_copyText_p28 : Nat → St → Nat → Int32 → Int32 → Option (Unit × St)
  | 0, _, _, _, _ => none
  | n + 1, σ, v0, v1, v2 =>
  gd (ob σ v0 12) (
  lt (sR σ v0 24) fun b19 => (
  gd (nz b19) (
  gd (ob σ b19 14) (
  gd (inb σ b19 (24 : Int32)) (
  (if v2 < (sI σ b19 (ix (24 : Int32))) then
  lt (sR σ v0 23) fun b25 => (
  gd (nz b25) (
  gd (ob σ b25 14) (
  gd (inb σ b25 ((10080 : Int32) + v2)) (
  gd (inb σ b25 (((420 : Int32) * v1) + v2)) (
  lt (wI σ b25 (ix (((420 : Int32) * v1) + v2)) (sI σ b25 (ix ((10080 : Int32) + v2)))) fun t31 => (
  lt (v2 + (1 : Int32)) fun y33 => (
  (f12_copyText_p28 n) t31 v0 v1 y33)))))))
  else
  f12_copyText_p69 FU σ v0 v1 (0 : Int32)))))))
set_option maxRecDepth 20000 in
theorem s12_copyText_p28 : ∀ (n : Nat) (σ : St) (v0 : Nat) (v1 : Int32) (v2 : Int32) (r : Unit) (τ : St), f12_copyText_p28 n σ v0 v1 v2 = some (r, τ) → Ev 2 m12_copyText 28 [(0, .ref v0), (1, .int v1), (2, .int v2)] [] σ none τ := by
  intro n
  induction n with
  | zero =>
    intro σ v0 v1 v2 r τ hf
    cases hf
  | succ n ih =>
    intro σ v0 v1 v2 r τ hf
    rw [f12_copyText_p28] at hf
    refine ev_iload_n (j := 2) (i := 2) (q := 2) rfl rfl d12_copyText_28 ?_
    refine ev_aload_n (j := 0) (i := 0) (q := 0) rfl rfl d12_copyText_29 ?_
    obtain ⟨h18, hf⟩ := gd_some hf
    obtain ⟨b19, e20, hf⟩ := lt_some hf
    obtain ⟨h21, hf⟩ := gd_some hf
    refine ev_getRb cls12 (j := 24) (by decide) rfl w1275 h18 e20 (nz_ne h21) d12_copyText_30 ?_
    refine ev_bipush cb_24 d12_copyText_33 ?_
    obtain ⟨h22, hf⟩ := gd_some hf
    obtain ⟨h23, hf⟩ := gd_some hf
    refine ev_iald h22 h23 d12_copyText_35 ?_
    rcases ite_some hf with ⟨c24, hf⟩ | ⟨c24, hf⟩
    · refine ev_icmp_ge_P (tgt := 67) c24 (by decide) d12_copyText_36 ?_
      refine ev_aload_n (j := 0) (i := 0) (q := 0) rfl rfl d12_copyText_39 ?_
      obtain ⟨b25, e26, hf⟩ := lt_some hf
      obtain ⟨h27, hf⟩ := gd_some hf
      refine ev_getRb cls12 (j := 23) (by decide) rfl w1274 h18 e26 (nz_ne h27) d12_copyText_40 ?_
      refine ev_sipush cs_420 d12_copyText_43 ?_
      refine ev_iload_n (j := 1) (i := 1) (q := 1) rfl rfl d12_copyText_46 ?_
      refine ev_imul d12_copyText_47 ?_
      refine ev_iload_n (j := 2) (i := 2) (q := 2) rfl rfl d12_copyText_48 ?_
      refine ev_iadd d12_copyText_49 ?_
      refine ev_aload_n (j := 0) (i := 0) (q := 0) rfl rfl d12_copyText_50 ?_
      refine ev_getRb cls12 (j := 23) (by decide) rfl w1274 h18 e26 (nz_ne h27) d12_copyText_51 ?_
      refine ev_sipush cs_10080 d12_copyText_54 ?_
      refine ev_iload_n (j := 2) (i := 2) (q := 2) rfl rfl d12_copyText_57 ?_
      refine ev_iadd d12_copyText_58 ?_
      obtain ⟨h28, hf⟩ := gd_some hf
      obtain ⟨h29, hf⟩ := gd_some hf
      refine ev_iald h28 h29 d12_copyText_59 ?_
      obtain ⟨h30, hf⟩ := gd_some hf
      obtain ⟨t31, e32, hf⟩ := lt_some hf
      refine ev_iast h28 h30 d12_copyText_60 (ev_nmS e32 ?_)
      obtain ⟨y33, e34, hf⟩ := lt_some hf
      refine ev_iinc (lv2 := [(2, .int y33), (0, .ref v0), (1, .int v1)]) (i := 2) (q := 2) (v := y33) (n := 1) rfl (by rw [ci_1]; exact e34.symm) (by decide) rfl d12_copyText_61 ?_
      refine ev_goto (tgt := 28) (by decide) d12_copyText_64 ?_
      exact Ev.sub [1, 2, 0] rfl (ih _ _ _ _ _ _ hf)
    · refine ev_icmp_ge_Q (tgt := 67) c24 (by decide) d12_copyText_36 ?_
      refine ev_iconst ci_0 d12_copyText_67 ?_
      refine ev_istore_n (lv2 := [(2, .int (0 : Int32)), (0, .ref v0), (1, .int v1)]) (j := 2) (i := 2) rfl (by decide) rfl d12_copyText_68 ?_
      exact Ev.sub [1, 2, 0] rfl (s12_copyText_p69 FU _ _ _ _ _ _ hf)
def f12_copyText (σ : St) (v0 : Nat) (v1 : Int32) : Option (Unit × St) :=
  gd (ob σ v0 12) (
  lt (sR σ v0 24) fun b2 => (
  gd (nz b2) (
  gd (ob σ b2 14) (
  gd (inb σ b2 (24 : Int32)) (
  gd (inb σ b2 v1) (
  lt (wI σ b2 (ix v1) (sI σ b2 (ix (24 : Int32)))) fun t8 => (
  lt (sR t8 v0 25) fun b10 => (
  gd (nz b10) (
  gd (ob t8 b10 14) (
  gd (inb t8 b10 (24 : Int32)) (
  gd (inb t8 b10 v1) (
  lt (wI t8 b10 (ix v1) (sI t8 b10 (ix (24 : Int32)))) fun t16 => (
  f12_copyText_p28 FU t16 v0 v1 (0 : Int32))))))))))))))
set_option maxRecDepth 50000 in
theorem s12_copyText : ∀ (σ : St) (v0 : Nat) (v1 : Int32) (r : Unit) (τ : St), f12_copyText σ v0 v1 = some (r, τ) → Call 2 m12_copyText [.ref v0, .int v1] σ none τ := by
  intro σ v0 v1 r τ hf
  unfold f12_copyText at hf
  refine Call.of (by decide +kernel) rfl (Nat.le_of_ble_eq_true rfl) ?_
  refine ev_aload_n (j := 0) (i := 0) (q := 0) rfl rfl d12_copyText_0 ?_
  obtain ⟨h1, hf⟩ := gd_some hf
  obtain ⟨b2, e3, hf⟩ := lt_some hf
  obtain ⟨h4, hf⟩ := gd_some hf
  refine ev_getRb cls12 (j := 24) (by decide) rfl w1275 h1 e3 (nz_ne h4) d12_copyText_1 ?_
  refine ev_iload_n (j := 1) (i := 1) (q := 1) rfl rfl d12_copyText_4 ?_
  refine ev_aload_n (j := 0) (i := 0) (q := 0) rfl rfl d12_copyText_5 ?_
  refine ev_getRb cls12 (j := 24) (by decide) rfl w1275 h1 e3 (nz_ne h4) d12_copyText_6 ?_
  refine ev_bipush cb_24 d12_copyText_9 ?_
  obtain ⟨h5, hf⟩ := gd_some hf
  obtain ⟨h6, hf⟩ := gd_some hf
  refine ev_iald h5 h6 d12_copyText_11 ?_
  obtain ⟨h7, hf⟩ := gd_some hf
  obtain ⟨t8, e9, hf⟩ := lt_some hf
  refine ev_iast h5 h7 d12_copyText_12 (ev_nmS e9 ?_)
  refine ev_aload_n (j := 0) (i := 0) (q := 0) rfl rfl d12_copyText_13 ?_
  obtain ⟨b10, e11, hf⟩ := lt_some hf
  obtain ⟨h12, hf⟩ := gd_some hf
  refine ev_getRb cls12 (j := 25) (by decide) rfl w1276 (mono_ob (mono_eI e9) h1) e11 (nz_ne h12) d12_copyText_14 ?_
  refine ev_iload_n (j := 1) (i := 1) (q := 1) rfl rfl d12_copyText_17 ?_
  refine ev_aload_n (j := 0) (i := 0) (q := 0) rfl rfl d12_copyText_18 ?_
  refine ev_getRb cls12 (j := 25) (by decide) rfl w1276 (mono_ob (mono_eI e9) h1) e11 (nz_ne h12) d12_copyText_19 ?_
  refine ev_bipush cb_24 d12_copyText_22 ?_
  obtain ⟨h13, hf⟩ := gd_some hf
  obtain ⟨h14, hf⟩ := gd_some hf
  refine ev_iald h13 h14 d12_copyText_24 ?_
  obtain ⟨h15, hf⟩ := gd_some hf
  obtain ⟨t16, e17, hf⟩ := lt_some hf
  refine ev_iast h13 h15 d12_copyText_25 (ev_nmS e17 ?_)
  refine ev_iconst ci_0 d12_copyText_26 ?_
  refine ev_istore_n (lv2 := [(2, .int (0 : Int32)), (0, .ref v0), (1, .int v1)]) (j := 2) (i := 2) rfl (by decide) rfl d12_copyText_27 ?_
  exact Ev.sub [1, 2, 0] rfl (s12_copyText_p28 FU _ _ _ _ _ _ hf)
abbrev m12_rules : MD := ("MillBoatsModel", ⟨"MillBoatsModel", "rules", "(II)I"⟩, prog_14_method_62_code, 4, (some Jvm.ClassFile.FieldType.int))
theorem k12_rules : okY m12_rules.2.1 2 := ⟨by decide +kernel, by decide +kernel, by decide +kernel⟩
def f12_rules_p116 (σ : St) (v0 : Nat) (v1 : Int32) (v2 : Int32) (x0 : Int32) (x1 : Nat) : Option (Int32 × St) :=
  gd (ob σ x1 12) (
  lt (wI σ x1 42 x0) fun t66 => (
  gd (ob t66 v0 12) (
  bd (f12_isWell t66 v0) fun r69 t70 => (
  (if r69 = (0 : Int32) then
  some ((-1 : Int32) - (sI t70 v0 40), t70)
  else
  lt (sR t70 v0 33) fun b74 => (
  gd (nz b74) (
  gd (ob t70 b74 14) (
  gd (inb t70 b74 v1) (
  lt (((12 : Int32) * v1) + (sI t70 b74 (ix v1))) fun y79 => (
  bd (f12_copyText t70 v0 y79) fun r81 t82 => (
  lt (sR t82 v0 31) fun b85 => (
  gd (nz b85) (
  gd (ob t82 b85 14) (
  gd (inb t82 b85 y79) (
  lt (wI t82 b85 (ix y79) v2) fun t90 => (
  lt (sR t90 v0 32) fun b92 => (
  gd (nz b92) (
  gd (ob t90 b92 14) (
  gd (inb t90 b92 y79) (
  lt (wI t90 b92 (ix y79) (sI t90 v0 14)) fun t97 => (
  lt (sR t97 v0 33) fun b99 => (
  gd (nz b99) (
  gd (ob t97 b99 14) (
  gd (inb t97 b99 v1) (
  lt (wI t97 b99 (ix v1) ((sI t97 b99 (ix v1)) + (1 : Int32))) fun t104 => (
  lt (sR t104 v0 25) fun b106 => (
  gd (nz b106) (
  gd (ob t104 b106 14) (
  gd (inb t104 b106 y79) (
  some (sI t104 b106 (ix y79), t104)))))))))))))))))))))))))))))))
set_option maxRecDepth 20000 in
theorem s12_rules_p116 : ∀ (σ : St) (v0 : Nat) (v1 : Int32) (v2 : Int32) (x0 : Int32) (x1 : Nat) (r : Int32) (τ : St), f12_rules_p116 σ v0 v1 v2 x0 x1 = some (r, τ) → Ev 62 m12_rules 116 [(0, .ref v0), (1, .int v1), (2, .int v2)] [.int x0, .ref x1] σ (some (.int r)) τ := by
  intro σ v0 v1 v2 x0 x1 r τ hf
  unfold f12_rules_p116 at hf
  obtain ⟨h65, hf⟩ := gd_some hf
  obtain ⟨t66, e67, hf⟩ := lt_some hf
  refine ev_putI cls12 (j := 42) (by decide) rfl rfl w1293 h65 (fun _ => ⟨rfl, rfl⟩) d12_rules_116 (ev_nmS e67 ?_)
  refine ev_aload_n (j := 0) (i := 0) (q := 0) rfl rfl d12_rules_119 ?_
  obtain ⟨h68, hf⟩ := gd_some hf
  obtain ⟨r69, t70, k71, hf⟩ := bd_some hf
  have q72 := s12_isWell _ _ _ _ k71
  refine ev_callV (vs := []) (sk := []) cls12 h68 q72 (by decide) (Nat.le_of_ble_eq_true rfl) w1633 w1635 ws66 w19 w1636 k12_isWell rfl (Nat.le_of_ble_eq_true rfl) d12_rules_120 ?_
  rcases ite_some hf with ⟨c73, hf⟩ | ⟨c73, hf⟩
  · refine ev_if_ne_P (tgt := 133) c73 (by decide) d12_rules_123 ?_
    refine ev_iconst ci_m1 d12_rules_126 ?_
    refine ev_aload_n (j := 0) (i := 0) (q := 0) rfl rfl d12_rules_127 ?_
    refine ev_getI cls12 (j := 40) (by decide) rfl w1291 (mono_ob q72.1 h68) d12_rules_128 ?_
    refine ev_isub d12_rules_131 ?_
    obtain ⟨rfl, rfl⟩ := ret_some hf
    exact ev_iret rfl d12_rules_132
  · refine ev_if_ne_Q (tgt := 133) c73 (by decide) d12_rules_123 ?_
    refine ev_bipush cb_12 d12_rules_133 ?_
    refine ev_iload_n (j := 1) (i := 1) (q := 1) rfl rfl d12_rules_135 ?_
    refine ev_imul d12_rules_136 ?_
    refine ev_aload_n (j := 0) (i := 0) (q := 0) rfl rfl d12_rules_137 ?_
    obtain ⟨b74, e75, hf⟩ := lt_some hf
    obtain ⟨h76, hf⟩ := gd_some hf
    refine ev_getRb cls12 (j := 33) (by decide) rfl w1284 (mono_ob q72.1 h68) e75 (nz_ne h76) d12_rules_138 ?_
    refine ev_iload_n (j := 1) (i := 1) (q := 1) rfl rfl d12_rules_141 ?_
    obtain ⟨h77, hf⟩ := gd_some hf
    obtain ⟨h78, hf⟩ := gd_some hf
    refine ev_iald h77 h78 d12_rules_142 ?_
    refine ev_iadd d12_rules_143 ?_
    obtain ⟨y79, e80, hf⟩ := lt_some hf
    refine ev_nmI e80 ?_
    refine ev_istore_n (lv2 := [(3, .int y79), (0, .ref v0), (1, .int v1), (2, .int v2)]) (j := 3) (i := 3) rfl (by decide) rfl d12_rules_144 ?_
    refine ev_aload_n (j := 0) (i := 0) (q := 1) rfl rfl d12_rules_145 ?_
    refine ev_iload_n (j := 3) (i := 3) (q := 0) rfl rfl d12_rules_146 ?_
    obtain ⟨r81, t82, k83, hf⟩ := bd_some hf
    have q84 := s12_copyText _ _ _ _ _ k83
    refine ev_callV (vs := [.int y79]) (sk := []) cls12 (mono_ob q72.1 h68) q84 (by decide) (Nat.le_of_ble_eq_true rfl) w1742 w1744 ws88 w19 w1745 k12_copyText rfl (Nat.le_of_ble_eq_true rfl) d12_rules_147 ?_
    refine ev_aload_n (j := 0) (i := 0) (q := 1) rfl rfl d12_rules_150 ?_
    obtain ⟨b85, e86, hf⟩ := lt_some hf
    obtain ⟨h87, hf⟩ := gd_some hf
    refine ev_getRb cls12 (j := 31) (by decide) rfl w1282 (mono_ob q84.1 (mono_ob q72.1 h68)) e86 (nz_ne h87) d12_rules_151 ?_
    refine ev_iload_n (j := 3) (i := 3) (q := 0) rfl rfl d12_rules_154 ?_
    refine ev_iload_n (j := 2) (i := 2) (q := 3) rfl rfl d12_rules_155 ?_
    obtain ⟨h88, hf⟩ := gd_some hf
    obtain ⟨h89, hf⟩ := gd_some hf
    obtain ⟨t90, e91, hf⟩ := lt_some hf
    refine ev_iast h88 h89 d12_rules_156 (ev_nmS e91 ?_)
    refine ev_aload_n (j := 0) (i := 0) (q := 1) rfl rfl d12_rules_157 ?_
    obtain ⟨b92, e93, hf⟩ := lt_some hf
    obtain ⟨h94, hf⟩ := gd_some hf
    refine ev_getRb cls12 (j := 32) (by decide) rfl w1283 (mono_ob (mono_eI e91) (mono_ob q84.1 (mono_ob q72.1 h68))) e93 (nz_ne h94) d12_rules_158 ?_
    refine ev_iload_n (j := 3) (i := 3) (q := 0) rfl rfl d12_rules_161 ?_
    refine ev_aload_n (j := 0) (i := 0) (q := 1) rfl rfl d12_rules_162 ?_
    refine ev_getI cls12 (j := 14) (by decide) rfl w1265 (mono_ob (mono_eI e91) (mono_ob q84.1 (mono_ob q72.1 h68))) d12_rules_163 ?_
    obtain ⟨h95, hf⟩ := gd_some hf
    obtain ⟨h96, hf⟩ := gd_some hf
    obtain ⟨t97, e98, hf⟩ := lt_some hf
    refine ev_iast h95 h96 d12_rules_166 (ev_nmS e98 ?_)
    refine ev_aload_n (j := 0) (i := 0) (q := 1) rfl rfl d12_rules_167 ?_
    obtain ⟨b99, e100, hf⟩ := lt_some hf
    obtain ⟨h101, hf⟩ := gd_some hf
    refine ev_getRb cls12 (j := 33) (by decide) rfl w1284 (mono_ob (mono_eI e98) (mono_ob (mono_eI e91) (mono_ob q84.1 (mono_ob q72.1 h68)))) e100 (nz_ne h101) d12_rules_168 ?_
    refine ev_iload_n (j := 1) (i := 1) (q := 2) rfl rfl d12_rules_171 ?_
    refine ev_dup2 rfl rfl d12_rules_172 ?_
    obtain ⟨h102, hf⟩ := gd_some hf
    obtain ⟨h103, hf⟩ := gd_some hf
    refine ev_iald h102 h103 d12_rules_173 ?_
    refine ev_iconst ci_1 d12_rules_174 ?_
    refine ev_iadd d12_rules_175 ?_
    obtain ⟨t104, e105, hf⟩ := lt_some hf
    refine ev_iast h102 h103 d12_rules_176 (ev_nmS e105 ?_)
    refine ev_aload_n (j := 0) (i := 0) (q := 1) rfl rfl d12_rules_177 ?_
    obtain ⟨b106, e107, hf⟩ := lt_some hf
    obtain ⟨h108, hf⟩ := gd_some hf
    refine ev_getRb cls12 (j := 25) (by decide) rfl w1276 (mono_ob (mono_eI e105) (mono_ob (mono_eI e98) (mono_ob (mono_eI e91) (mono_ob q84.1 (mono_ob q72.1 h68))))) e107 (nz_ne h108) d12_rules_178 ?_
    refine ev_iload_n (j := 3) (i := 3) (q := 0) rfl rfl d12_rules_181 ?_
    obtain ⟨h109, hf⟩ := gd_some hf
    obtain ⟨h110, hf⟩ := gd_some hf
    refine ev_iald h109 h110 d12_rules_182 ?_
    obtain ⟨rfl, rfl⟩ := ret_some hf
    exact ev_iret rfl d12_rules_183
def f12_rules_p95 (σ : St) (v0 : Nat) (v1 : Int32) (v2 : Int32) : Option (Int32 × St) :=
  gd (ob σ v0 12) (
  lt (wI σ v0 35 (0 : Int32)) fun t58 => (
  bd (f12_isWell t58 v0) fun r60 t61 => (
  (if r60 = (0 : Int32) then
  f12_rules_p116 t61 v0 v1 v2 (sI t61 v0 41) v0
  else
  f12_rules_p116 t61 v0 v1 v2 (-1 : Int32) v0))))
set_option maxRecDepth 20000 in
theorem s12_rules_p95 : ∀ (σ : St) (v0 : Nat) (v1 : Int32) (v2 : Int32) (r : Int32) (τ : St), f12_rules_p95 σ v0 v1 v2 = some (r, τ) → Ev 62 m12_rules 95 [(0, .ref v0), (1, .int v1), (2, .int v2)] [] σ (some (.int r)) τ := by
  intro σ v0 v1 v2 r τ hf
  unfold f12_rules_p95 at hf
  refine ev_aload_n (j := 0) (i := 0) (q := 0) rfl rfl d12_rules_95 ?_
  refine ev_iconst ci_0 d12_rules_96 ?_
  obtain ⟨h57, hf⟩ := gd_some hf
  obtain ⟨t58, e59, hf⟩ := lt_some hf
  refine ev_putI cls12 (j := 35) (by decide) rfl rfl w1286 h57 (fun _ => ⟨rfl, rfl⟩) d12_rules_97 (ev_nmS e59 ?_)
  refine ev_aload_n (j := 0) (i := 0) (q := 0) rfl rfl d12_rules_100 ?_
  refine ev_aload_n (j := 0) (i := 0) (q := 0) rfl rfl d12_rules_101 ?_
  obtain ⟨r60, t61, k62, hf⟩ := bd_some hf
  have q63 := s12_isWell _ _ _ _ k62
  refine ev_callV (vs := []) (sk := [.ref v0]) cls12 (mono_ob (mono_eI e59) h57) q63 (by decide) (Nat.le_of_ble_eq_true rfl) w1633 w1635 ws66 w19 w1636 k12_isWell rfl (Nat.le_of_ble_eq_true rfl) d12_rules_102 ?_
  rcases ite_some hf with ⟨c64, hf⟩ | ⟨c64, hf⟩
  · refine ev_if_eq_P (tgt := 112) c64 (by decide) d12_rules_105 ?_
    refine ev_aload_n (j := 0) (i := 0) (q := 0) rfl rfl d12_rules_112 ?_
    refine ev_getI cls12 (j := 41) (by decide) rfl w1292 (mono_ob q63.1 (mono_ob (mono_eI e59) h57)) d12_rules_113 ?_
    exact Ev.sub [0, 1, 2] rfl (s12_rules_p116 _ _ _ _ _ _ _ _ hf)
  · refine ev_if_eq_Q (tgt := 112) c64 (by decide) d12_rules_105 ?_
    refine ev_iconst ci_m1 d12_rules_108 ?_
    refine ev_goto (tgt := 116) (by decide) d12_rules_109 ?_
    exact Ev.sub [0, 1, 2] rfl (s12_rules_p116 _ _ _ _ _ _ _ _ hf)
def f12_rules_p74 : Nat → St → Nat → Int32 → Int32 → Option (Int32 × St)
  | 0, _, _, _, _ => none
  | n + 1, σ, v0, v1, v2 =>
  gd (ob σ v0 12) (
  bd (f12_isWell σ v0) fun r47 t48 => (
  (if r47 = (0 : Int32) then
  f12_rules_p95 t48 v0 v1 v2
  else
  (if (sI t48 v0 38) = (0 : Int32) then
  f12_rules_p95 t48 v0 v1 v2
  else
  bd (f12_readRule t48 v0) fun r53 t54 => (
  (f12_rules_p74 n) t54 v0 v1 v2)))))
set_option maxRecDepth 20000 in
theorem s12_rules_p74 : ∀ (n : Nat) (σ : St) (v0 : Nat) (v1 : Int32) (v2 : Int32) (r : Int32) (τ : St), f12_rules_p74 n σ v0 v1 v2 = some (r, τ) → Ev 62 m12_rules 74 [(0, .ref v0), (1, .int v1), (2, .int v2)] [] σ (some (.int r)) τ := by
  intro n
  induction n with
  | zero =>
    intro σ v0 v1 v2 r τ hf
    cases hf
  | succ n ih =>
    intro σ v0 v1 v2 r τ hf
    rw [f12_rules_p74] at hf
    refine ev_aload_n (j := 0) (i := 0) (q := 0) rfl rfl d12_rules_74 ?_
    obtain ⟨h46, hf⟩ := gd_some hf
    obtain ⟨r47, t48, k49, hf⟩ := bd_some hf
    have q50 := s12_isWell _ _ _ _ k49
    refine ev_callV (vs := []) (sk := []) cls12 h46 q50 (by decide) (Nat.le_of_ble_eq_true rfl) w1633 w1635 ws66 w19 w1636 k12_isWell rfl (Nat.le_of_ble_eq_true rfl) d12_rules_75 ?_
    rcases ite_some hf with ⟨c51, hf⟩ | ⟨c51, hf⟩
    · refine ev_if_eq_P (tgt := 95) c51 (by decide) d12_rules_78 ?_
      exact Ev.sub [0, 1, 2] rfl (s12_rules_p95 _ _ _ _ _ _ hf)
    · refine ev_if_eq_Q (tgt := 95) c51 (by decide) d12_rules_78 ?_
      refine ev_aload_n (j := 0) (i := 0) (q := 0) rfl rfl d12_rules_81 ?_
      refine ev_getI cls12 (j := 38) (by decide) rfl w1289 (mono_ob q50.1 h46) d12_rules_82 ?_
      rcases ite_some hf with ⟨c52, hf⟩ | ⟨c52, hf⟩
      · refine ev_if_eq_P (tgt := 95) c52 (by decide) d12_rules_85 ?_
        exact Ev.sub [0, 1, 2] rfl (s12_rules_p95 _ _ _ _ _ _ hf)
      · refine ev_if_eq_Q (tgt := 95) c52 (by decide) d12_rules_85 ?_
        refine ev_aload_n (j := 0) (i := 0) (q := 0) rfl rfl d12_rules_88 ?_
        obtain ⟨r53, t54, k55, hf⟩ := bd_some hf
        have q56 := s12_readRule _ _ _ _ k55
        refine ev_callV (vs := []) (sk := []) cls12 (mono_ob q50.1 h46) q56 (by decide) (Nat.le_of_ble_eq_true rfl) w1637 w1639 ws67 w19 w1640 k12_readRule rfl (Nat.le_of_ble_eq_true rfl) d12_rules_89 ?_
        refine ev_goto (tgt := 74) (by decide) d12_rules_92 ?_
        exact Ev.sub [0, 1, 2] rfl (ih _ _ _ _ _ _ hf)
def f12_rules (σ : St) (v0 : Nat) (v1 : Int32) (v2 : Int32) : Option (Int32 × St) :=
  gd (ob σ v0 12) (
  lt (wI σ v0 0 (0 : Int32)) fun t2 => (
  bd (f12_within t2 v1 (0 : Int32) (1 : Int32)) fun r4 t5 => (
  (if r4 = (0 : Int32) then
  some ((-1 : Int32), t5)
  else
  bd (f12_isDay t5 v2) fun r9 t10 => (
  (if r9 = (0 : Int32) then
  some ((-1 : Int32), t10)
  else
  lt (sR t10 v0 33) fun b14 => (
  gd (nz b14) (
  gd (ob t10 b14 14) (
  gd (inb t10 b14 v1) (
  (if (sI t10 b14 (ix v1)) = (12 : Int32) then
  some ((-1 : Int32), t10)
  else
  lt (wI t10 v0 40 (0 : Int32)) fun t20 => (
  lt (wI t20 v0 36 (0 : Int32)) fun t22 => (
  lt (wI t22 v0 43 (0 : Int32)) fun t24 => (
  lt (wI t24 v0 44 (0 : Int32)) fun t26 => (
  lt (sR t26 v0 24) fun b28 => (
  gd (nz b28) (
  gd (ob t26 b28 14) (
  gd (inb t26 b28 (24 : Int32)) (
  lt (wI t26 b28 (ix (24 : Int32)) (0 : Int32)) fun t33 => (
  lt (sR t33 v0 25) fun b35 => (
  gd (nz b35) (
  gd (ob t33 b35 14) (
  gd (inb t33 b35 (24 : Int32)) (
  lt (wI t33 b35 (ix (24 : Int32)) (0 : Int32)) fun t40 => (
  bd (f12_next t40 v0) fun r42 t43 => (
  f12_rules_p74 FU t43 v0 v1 v2))))))))))))))))))))))))))
set_option maxRecDepth 50000 in
theorem s12_rules : ∀ (σ : St) (v0 : Nat) (v1 : Int32) (v2 : Int32) (r : Int32) (τ : St), f12_rules σ v0 v1 v2 = some (r, τ) → Call 62 m12_rules [.ref v0, .int v1, .int v2] σ (some (.int r)) τ := by
  intro σ v0 v1 v2 r τ hf
  unfold f12_rules at hf
  refine Call.of (by decide +kernel) rfl (Nat.le_of_ble_eq_true rfl) ?_
  refine ev_aload_n (j := 0) (i := 0) (q := 0) rfl rfl d12_rules_0 ?_
  refine ev_iconst ci_0 d12_rules_1 ?_
  obtain ⟨h1, hf⟩ := gd_some hf
  obtain ⟨t2, e3, hf⟩ := lt_some hf
  refine ev_putI cls12 (j := 0) (by decide) rfl rfl w1251 h1 (fun _ => ⟨rfl, rfl⟩) d12_rules_2 (ev_nmS e3 ?_)
  refine ev_iload_n (j := 1) (i := 1) (q := 1) rfl rfl d12_rules_5 ?_
  refine ev_iconst ci_0 d12_rules_6 ?_
  refine ev_iconst ci_1 d12_rules_7 ?_
  obtain ⟨r4, t5, k6, hf⟩ := bd_some hf
  have q7 := s12_within _ _ _ _ _ _ k6
  refine ev_callS (vs := [.int v1, .int (0 : Int32), .int (1 : Int32)]) (sk := []) q7 (by decide) (Nat.le_of_ble_eq_true rfl) w1497 w1498 w19 w1499 k12_within rfl (Nat.le_of_ble_eq_true rfl) d12_rules_8 ?_
  rcases ite_some hf with ⟨c8, hf⟩ | ⟨c8, hf⟩
  · refine ev_if_eq_P (tgt := 32) c8 (by decide) d12_rules_11 ?_
    refine ev_iconst ci_m1 d12_rules_32 ?_
    obtain ⟨rfl, rfl⟩ := ret_some hf
    exact ev_iret rfl d12_rules_33
  · refine ev_if_eq_Q (tgt := 32) c8 (by decide) d12_rules_11 ?_
    refine ev_iload_n (j := 2) (i := 2) (q := 2) rfl rfl d12_rules_14 ?_
    obtain ⟨r9, t10, k11, hf⟩ := bd_some hf
    have q12 := s12_isDay _ _ _ _ k11
    refine ev_callS (vs := [.int v2]) (sk := []) q12 (by decide) (Nat.le_of_ble_eq_true rfl) w1580 w1581 w19 w1582 k12_isDay rfl (Nat.le_of_ble_eq_true rfl) d12_rules_15 ?_
    rcases ite_some hf with ⟨c13, hf⟩ | ⟨c13, hf⟩
    · refine ev_if_eq_P (tgt := 32) c13 (by decide) d12_rules_18 ?_
      refine ev_iconst ci_m1 d12_rules_32 ?_
      obtain ⟨rfl, rfl⟩ := ret_some hf
      exact ev_iret rfl d12_rules_33
    · refine ev_if_eq_Q (tgt := 32) c13 (by decide) d12_rules_18 ?_
      refine ev_aload_n (j := 0) (i := 0) (q := 0) rfl rfl d12_rules_21 ?_
      obtain ⟨b14, e15, hf⟩ := lt_some hf
      obtain ⟨h16, hf⟩ := gd_some hf
      refine ev_getRb cls12 (j := 33) (by decide) rfl w1284 (mono_ob q12.1 (mono_ob q7.1 (mono_ob (mono_eI e3) h1))) e15 (nz_ne h16) d12_rules_22 ?_
      refine ev_iload_n (j := 1) (i := 1) (q := 1) rfl rfl d12_rules_25 ?_
      obtain ⟨h17, hf⟩ := gd_some hf
      obtain ⟨h18, hf⟩ := gd_some hf
      refine ev_iald h17 h18 d12_rules_26 ?_
      refine ev_bipush cb_12 d12_rules_27 ?_
      rcases ite_some hf with ⟨c19, hf⟩ | ⟨c19, hf⟩
      · refine ev_icmp_ne_P (tgt := 34) c19 (by decide) d12_rules_29 ?_
        refine ev_iconst ci_m1 d12_rules_32 ?_
        obtain ⟨rfl, rfl⟩ := ret_some hf
        exact ev_iret rfl d12_rules_33
      · refine ev_icmp_ne_Q (tgt := 34) c19 (by decide) d12_rules_29 ?_
        refine ev_aload_n (j := 0) (i := 0) (q := 0) rfl rfl d12_rules_34 ?_
        refine ev_iconst ci_0 d12_rules_35 ?_
        obtain ⟨t20, e21, hf⟩ := lt_some hf
        refine ev_putI cls12 (j := 40) (by decide) rfl rfl w1291 (mono_ob q12.1 (mono_ob q7.1 (mono_ob (mono_eI e3) h1))) (fun _ => ⟨rfl, rfl⟩) d12_rules_36 (ev_nmS e21 ?_)
        refine ev_aload_n (j := 0) (i := 0) (q := 0) rfl rfl d12_rules_39 ?_
        refine ev_iconst ci_0 d12_rules_40 ?_
        obtain ⟨t22, e23, hf⟩ := lt_some hf
        refine ev_putI cls12 (j := 36) (by decide) rfl rfl w1287 (mono_ob (mono_eI e21) (mono_ob q12.1 (mono_ob q7.1 (mono_ob (mono_eI e3) h1)))) (fun _ => ⟨rfl, rfl⟩) d12_rules_41 (ev_nmS e23 ?_)
        refine ev_aload_n (j := 0) (i := 0) (q := 0) rfl rfl d12_rules_44 ?_
        refine ev_iconst ci_0 d12_rules_45 ?_
        obtain ⟨t24, e25, hf⟩ := lt_some hf
        refine ev_putI cls12 (j := 43) (by decide) rfl rfl w1294 (mono_ob (mono_eI e23) (mono_ob (mono_eI e21) (mono_ob q12.1 (mono_ob q7.1 (mono_ob (mono_eI e3) h1))))) (fun _ => ⟨rfl, rfl⟩) d12_rules_46 (ev_nmS e25 ?_)
        refine ev_aload_n (j := 0) (i := 0) (q := 0) rfl rfl d12_rules_49 ?_
        refine ev_iconst ci_0 d12_rules_50 ?_
        obtain ⟨t26, e27, hf⟩ := lt_some hf
        refine ev_putI cls12 (j := 44) (by decide) rfl rfl w1295 (mono_ob (mono_eI e25) (mono_ob (mono_eI e23) (mono_ob (mono_eI e21) (mono_ob q12.1 (mono_ob q7.1 (mono_ob (mono_eI e3) h1)))))) (fun _ => ⟨rfl, rfl⟩) d12_rules_51 (ev_nmS e27 ?_)
        refine ev_aload_n (j := 0) (i := 0) (q := 0) rfl rfl d12_rules_54 ?_
        obtain ⟨b28, e29, hf⟩ := lt_some hf
        obtain ⟨h30, hf⟩ := gd_some hf
        refine ev_getRb cls12 (j := 24) (by decide) rfl w1275 (mono_ob (mono_eI e27) (mono_ob (mono_eI e25) (mono_ob (mono_eI e23) (mono_ob (mono_eI e21) (mono_ob q12.1 (mono_ob q7.1 (mono_ob (mono_eI e3) h1))))))) e29 (nz_ne h30) d12_rules_55 ?_
        refine ev_bipush cb_24 d12_rules_58 ?_
        refine ev_iconst ci_0 d12_rules_60 ?_
        obtain ⟨h31, hf⟩ := gd_some hf
        obtain ⟨h32, hf⟩ := gd_some hf
        obtain ⟨t33, e34, hf⟩ := lt_some hf
        refine ev_iast h31 h32 d12_rules_61 (ev_nmS e34 ?_)
        refine ev_aload_n (j := 0) (i := 0) (q := 0) rfl rfl d12_rules_62 ?_
        obtain ⟨b35, e36, hf⟩ := lt_some hf
        obtain ⟨h37, hf⟩ := gd_some hf
        refine ev_getRb cls12 (j := 25) (by decide) rfl w1276 (mono_ob (mono_eI e34) (mono_ob (mono_eI e27) (mono_ob (mono_eI e25) (mono_ob (mono_eI e23) (mono_ob (mono_eI e21) (mono_ob q12.1 (mono_ob q7.1 (mono_ob (mono_eI e3) h1)))))))) e36 (nz_ne h37) d12_rules_63 ?_
        refine ev_bipush cb_24 d12_rules_66 ?_
        refine ev_iconst ci_0 d12_rules_68 ?_
        obtain ⟨h38, hf⟩ := gd_some hf
        obtain ⟨h39, hf⟩ := gd_some hf
        obtain ⟨t40, e41, hf⟩ := lt_some hf
        refine ev_iast h38 h39 d12_rules_69 (ev_nmS e41 ?_)
        refine ev_aload_n (j := 0) (i := 0) (q := 0) rfl rfl d12_rules_70 ?_
        obtain ⟨r42, t43, k44, hf⟩ := bd_some hf
        have q45 := s12_next _ _ _ _ k44
        refine ev_callV (vs := []) (sk := []) cls12 (mono_ob (mono_eI e41) (mono_ob (mono_eI e34) (mono_ob (mono_eI e27) (mono_ob (mono_eI e25) (mono_ob (mono_eI e23) (mono_ob (mono_eI e21) (mono_ob q12.1 (mono_ob q7.1 (mono_ob (mono_eI e3) h1))))))))) q45 (by decide) (Nat.le_of_ble_eq_true rfl) w1619 w1621 ws64 w19 w1622 k12_next rfl (Nat.le_of_ble_eq_true rfl) d12_rules_71 ?_
        exact Ev.sub [0, 1, 2] rfl (s12_rules_p74 FU _ _ _ _ _ _ hf)
abbrev m12_place : MD := ("MillBoatsModel", ⟨"MillBoatsModel", "place", "()I"⟩, prog_14_method_63_code, 1, (some Jvm.ClassFile.FieldType.int))
theorem k12_place : okY m12_place.2.1 0 := ⟨by decide +kernel, by decide +kernel, by decide +kernel⟩
def f12_place (σ : St) (v0 : Nat) : Option (Int32 × St) :=
  gd (ob σ v0 12) (
  lt (wI σ v0 0 (0 : Int32)) fun t2 => (
  some (sI t2 v0 42, t2)))
set_option maxRecDepth 50000 in
theorem s12_place : ∀ (σ : St) (v0 : Nat) (r : Int32) (τ : St), f12_place σ v0 = some (r, τ) → Call 2 m12_place [.ref v0] σ (some (.int r)) τ := by
  intro σ v0 r τ hf
  unfold f12_place at hf
  refine Call.of (by decide +kernel) rfl (Nat.le_of_ble_eq_true rfl) ?_
  refine ev_aload_n (j := 0) (i := 0) (q := 0) rfl rfl d12_place_0 ?_
  refine ev_iconst ci_0 d12_place_1 ?_
  obtain ⟨h1, hf⟩ := gd_some hf
  obtain ⟨t2, e3, hf⟩ := lt_some hf
  refine ev_putI cls12 (j := 0) (by decide) rfl rfl w1251 h1 (fun _ => ⟨rfl, rfl⟩) d12_place_2 (ev_nmS e3 ?_)
  refine ev_aload_n (j := 0) (i := 0) (q := 0) rfl rfl d12_place_5 ?_
  refine ev_getI cls12 (j := 42) (by decide) rfl w1293 (mono_ob (mono_eI e3) h1) d12_place_6 ?_
  obtain ⟨rfl, rfl⟩ := ret_some hf
  exact ev_iret rfl d12_place_9
abbrev m12_textOf : MD := ("MillBoatsModel", ⟨"MillBoatsModel", "textOf", "(III)I"⟩, prog_14_method_64_code, 6, (some Jvm.ClassFile.FieldType.int))
theorem k12_textOf : okY m12_textOf.2.1 3 := ⟨by decide +kernel, by decide +kernel, by decide +kernel⟩
def f12_textOf_p77 (K9 : St → Nat → Int32 → Int32 → Int32 → Int32 → Int32 → Option (Int32 × St)) (σ : St) (v0 : Nat) (v1 : Int32) (v2 : Int32) (v3 : Int32) (v4 : Int32) (v5 : Int32) : Option (Int32 × St) :=
  lt (v5 + (1 : Int32)) fun y25 => (
  K9 σ v0 v1 v2 v3 v4 y25)
set_option maxRecDepth 20000 in
theorem s12_textOf_p77 {K9 : St → Nat → Int32 → Int32 → Int32 → Int32 → Int32 → Option (Int32 × St)} (hK9 : ∀ (σ : St) (v0 : Nat) (v1 : Int32) (v2 : Int32) (v3 : Int32) (v4 : Int32) (v5 : Int32) (r : Int32) (τ : St), K9 σ v0 v1 v2 v3 v4 v5 = some (r, τ) → Ev 2 m12_textOf 9 [(0, .ref v0), (1, .int v1), (2, .int v2), (3, .int v3), (4, .int v4), (5, .int v5)] [] σ (some (.int r)) τ) : ∀ (σ : St) (v0 : Nat) (v1 : Int32) (v2 : Int32) (v3 : Int32) (v4 : Int32) (v5 : Int32) (r : Int32) (τ : St), f12_textOf_p77 K9 σ v0 v1 v2 v3 v4 v5 = some (r, τ) → Ev 2 m12_textOf 77 [(0, .ref v0), (1, .int v1), (2, .int v2), (3, .int v3), (4, .int v4), (5, .int v5)] [] σ (some (.int r)) τ := by
  intro σ v0 v1 v2 v3 v4 v5 r τ hf
  unfold f12_textOf_p77 at hf
  obtain ⟨y25, e26, hf⟩ := lt_some hf
  refine ev_iinc (lv2 := [(5, .int y25), (0, .ref v0), (1, .int v1), (2, .int v2), (3, .int v3), (4, .int v4)]) (i := 5) (q := 5) (v := y25) (n := 1) rfl (by rw [ci_1]; exact e26.symm) (by decide) rfl d12_textOf_77 ?_
  refine ev_goto (tgt := 9) (by decide) d12_textOf_80 ?_
  exact Ev.sub [1, 2, 3, 4, 5, 0] rfl (hK9 _ _ _ _ _ _ _ _ _ hf)
def f12_textOf_p73 (K9 : St → Nat → Int32 → Int32 → Int32 → Int32 → Int32 → Option (Int32 × St)) (σ : St) (v0 : Nat) (v1 : Int32) (v2 : Int32) (v3 : Int32) (v5 : Int32) : Option (Int32 × St) :=
  f12_textOf_p77 K9 σ v0 v1 v2 v3 v5 v5
set_option maxRecDepth 20000 in
theorem s12_textOf_p73 {K9 : St → Nat → Int32 → Int32 → Int32 → Int32 → Int32 → Option (Int32 × St)} (hK9 : ∀ (σ : St) (v0 : Nat) (v1 : Int32) (v2 : Int32) (v3 : Int32) (v4 : Int32) (v5 : Int32) (r : Int32) (τ : St), K9 σ v0 v1 v2 v3 v4 v5 = some (r, τ) → Ev 2 m12_textOf 9 [(0, .ref v0), (1, .int v1), (2, .int v2), (3, .int v3), (4, .int v4), (5, .int v5)] [] σ (some (.int r)) τ) : ∀ (σ : St) (v0 : Nat) (v1 : Int32) (v2 : Int32) (v3 : Int32) (v5 : Int32) (r : Int32) (τ : St), f12_textOf_p73 K9 σ v0 v1 v2 v3 v5 = some (r, τ) → Ev 2 m12_textOf 73 [(0, .ref v0), (1, .int v1), (2, .int v2), (3, .int v3), (5, .int v5)] [] σ (some (.int r)) τ := by
  intro σ v0 v1 v2 v3 v5 r τ hf
  unfold f12_textOf_p73 at hf
  refine ev_iload (i := 5) (q := 4) rfl d12_textOf_73 ?_
  refine ev_istore (lv2 := [(4, .int v5), (0, .ref v0), (1, .int v1), (2, .int v2), (3, .int v3), (5, .int v5)]) (i := 4) (by decide) rfl d12_textOf_75 ?_
  exact Ev.sub [1, 2, 3, 4, 0, 5] rfl (s12_textOf_p77 hK9 _ _ _ _ _ _ _ _ _ hf)
def f12_textOf_p9 : Nat → St → Nat → Int32 → Int32 → Int32 → Int32 → Int32 → Option (Int32 × St)
  | 0, _, _, _, _, _, _, _ => none
  | n + 1, σ, v0, v1, v2, v3, v4, v5 =>
  gd (ob σ v0 12) (
  lt (sR σ v0 33) fun b4 => (
  gd (nz b4) (
  gd (ob σ b4 14) (
  gd (inb σ b4 v1) (
  (if v5 < (((12 : Int32) * v1) + (sI σ b4 (ix v1))) then
  lt (sR σ v0 32) fun b10 => (
  gd (nz b10) (
  gd (ob σ b10 14) (
  gd (inb σ b10 v5) (
  (if (sI σ b10 (ix v5)) ≤ v3 then
  lt (sR σ v0 31) fun b16 => (
  gd (nz b16) (
  gd (ob σ b16 14) (
  gd (inb σ b16 v5) (
  (if (sI σ b16 (ix v5)) ≤ v2 then
  (if v4 = (-1 : Int32) then
  f12_textOf_p73 (f12_textOf_p9 n) σ v0 v1 v2 v3 v5
  else
  gd (inb σ b16 v4) (
  (if (sI σ b16 (ix v5)) < (sI σ b16 (ix v4)) then
  f12_textOf_p77 (f12_textOf_p9 n) σ v0 v1 v2 v3 v4 v5
  else
  f12_textOf_p73 (f12_textOf_p9 n) σ v0 v1 v2 v3 v5)))
  else
  f12_textOf_p77 (f12_textOf_p9 n) σ v0 v1 v2 v3 v4 v5)))))
  else
  f12_textOf_p77 (f12_textOf_p9 n) σ v0 v1 v2 v3 v4 v5)))))
  else
  some (v4, σ)))))))
set_option maxRecDepth 20000 in
theorem s12_textOf_p9 : ∀ (n : Nat) (σ : St) (v0 : Nat) (v1 : Int32) (v2 : Int32) (v3 : Int32) (v4 : Int32) (v5 : Int32) (r : Int32) (τ : St), f12_textOf_p9 n σ v0 v1 v2 v3 v4 v5 = some (r, τ) → Ev 2 m12_textOf 9 [(0, .ref v0), (1, .int v1), (2, .int v2), (3, .int v3), (4, .int v4), (5, .int v5)] [] σ (some (.int r)) τ := by
  intro n
  induction n with
  | zero =>
    intro σ v0 v1 v2 v3 v4 v5 r τ hf
    cases hf
  | succ n ih =>
    intro σ v0 v1 v2 v3 v4 v5 r τ hf
    rw [f12_textOf_p9] at hf
    refine ev_iload (i := 5) (q := 5) rfl d12_textOf_9 ?_
    refine ev_bipush cb_12 d12_textOf_11 ?_
    refine ev_iload_n (j := 1) (i := 1) (q := 1) rfl rfl d12_textOf_13 ?_
    refine ev_imul d12_textOf_14 ?_
    refine ev_aload_n (j := 0) (i := 0) (q := 0) rfl rfl d12_textOf_15 ?_
    obtain ⟨h3, hf⟩ := gd_some hf
    obtain ⟨b4, e5, hf⟩ := lt_some hf
    obtain ⟨h6, hf⟩ := gd_some hf
    refine ev_getRb cls12 (j := 33) (by decide) rfl w1284 h3 e5 (nz_ne h6) d12_textOf_16 ?_
    refine ev_iload_n (j := 1) (i := 1) (q := 1) rfl rfl d12_textOf_19 ?_
    obtain ⟨h7, hf⟩ := gd_some hf
    obtain ⟨h8, hf⟩ := gd_some hf
    refine ev_iald h7 h8 d12_textOf_20 ?_
    refine ev_iadd d12_textOf_21 ?_
    rcases ite_some hf with ⟨c9, hf⟩ | ⟨c9, hf⟩
    · refine ev_icmp_ge_P (tgt := 83) c9 (by decide) d12_textOf_22 ?_
      refine ev_aload_n (j := 0) (i := 0) (q := 0) rfl rfl d12_textOf_25 ?_
      obtain ⟨b10, e11, hf⟩ := lt_some hf
      obtain ⟨h12, hf⟩ := gd_some hf
      refine ev_getRb cls12 (j := 32) (by decide) rfl w1283 h3 e11 (nz_ne h12) d12_textOf_26 ?_
      refine ev_iload (i := 5) (q := 5) rfl d12_textOf_29 ?_
      obtain ⟨h13, hf⟩ := gd_some hf
      obtain ⟨h14, hf⟩ := gd_some hf
      refine ev_iald h13 h14 d12_textOf_31 ?_
      refine ev_iload_n (j := 3) (i := 3) (q := 3) rfl rfl d12_textOf_32 ?_
      rcases ite_some hf with ⟨c15, hf⟩ | ⟨c15, hf⟩
      · refine ev_icmp_gt_P (tgt := 77) c15 (by decide) d12_textOf_33 ?_
        refine ev_aload_n (j := 0) (i := 0) (q := 0) rfl rfl d12_textOf_36 ?_
        obtain ⟨b16, e17, hf⟩ := lt_some hf
        obtain ⟨h18, hf⟩ := gd_some hf
        refine ev_getRb cls12 (j := 31) (by decide) rfl w1282 h3 e17 (nz_ne h18) d12_textOf_37 ?_
        refine ev_iload (i := 5) (q := 5) rfl d12_textOf_40 ?_
        obtain ⟨h19, hf⟩ := gd_some hf
        obtain ⟨h20, hf⟩ := gd_some hf
        refine ev_iald h19 h20 d12_textOf_42 ?_
        refine ev_iload_n (j := 2) (i := 2) (q := 2) rfl rfl d12_textOf_43 ?_
        rcases ite_some hf with ⟨c21, hf⟩ | ⟨c21, hf⟩
        · refine ev_icmp_le_P (tgt := 50) c21 (by decide) d12_textOf_44 ?_
          refine ev_iload (i := 4) (q := 4) rfl d12_textOf_50 ?_
          refine ev_iconst ci_m1 d12_textOf_52 ?_
          rcases ite_some hf with ⟨c22, hf⟩ | ⟨c22, hf⟩
          · refine ev_icmp_eq_P (tgt := 73) c22 (by decide) d12_textOf_53 ?_
            exact Ev.sub [0, 1, 2, 3, 5] rfl (s12_textOf_p73 ih _ _ _ _ _ _ _ _ hf)
          · refine ev_icmp_eq_Q (tgt := 73) c22 (by decide) d12_textOf_53 ?_
            refine ev_aload_n (j := 0) (i := 0) (q := 0) rfl rfl d12_textOf_56 ?_
            refine ev_getRb cls12 (j := 31) (by decide) rfl w1282 h3 e17 (nz_ne h18) d12_textOf_57 ?_
            refine ev_iload (i := 5) (q := 5) rfl d12_textOf_60 ?_
            refine ev_iald h19 h20 d12_textOf_62 ?_
            refine ev_aload_n (j := 0) (i := 0) (q := 0) rfl rfl d12_textOf_63 ?_
            refine ev_getRb cls12 (j := 31) (by decide) rfl w1282 h3 e17 (nz_ne h18) d12_textOf_64 ?_
            refine ev_iload (i := 4) (q := 4) rfl d12_textOf_67 ?_
            obtain ⟨h23, hf⟩ := gd_some hf
            refine ev_iald h19 h23 d12_textOf_69 ?_
            rcases ite_some hf with ⟨c24, hf⟩ | ⟨c24, hf⟩
            · refine ev_icmp_lt_P (tgt := 77) c24 (by decide) d12_textOf_70 ?_
              exact Ev.sub [0, 1, 2, 3, 4, 5] rfl (s12_textOf_p77 ih _ _ _ _ _ _ _ _ _ hf)
            · refine ev_icmp_lt_Q (tgt := 77) c24 (by decide) d12_textOf_70 ?_
              exact Ev.sub [0, 1, 2, 3, 5] rfl (s12_textOf_p73 ih _ _ _ _ _ _ _ _ hf)
        · refine ev_icmp_le_Q (tgt := 50) c21 (by decide) d12_textOf_44 ?_
          refine ev_goto (tgt := 77) (by decide) d12_textOf_47 ?_
          exact Ev.sub [0, 1, 2, 3, 4, 5] rfl (s12_textOf_p77 ih _ _ _ _ _ _ _ _ _ hf)
      · refine ev_icmp_gt_Q (tgt := 77) c15 (by decide) d12_textOf_33 ?_
        exact Ev.sub [0, 1, 2, 3, 4, 5] rfl (s12_textOf_p77 ih _ _ _ _ _ _ _ _ _ hf)
    · refine ev_icmp_ge_Q (tgt := 83) c9 (by decide) d12_textOf_22 ?_
      refine ev_iload (i := 4) (q := 4) rfl d12_textOf_83 ?_
      obtain ⟨rfl, rfl⟩ := ret_some hf
      exact ev_iret rfl d12_textOf_85
def f12_textOf (σ : St) (v0 : Nat) (v1 : Int32) (v2 : Int32) (v3 : Int32) : Option (Int32 × St) :=
  lt ((12 : Int32) * v1) fun y1 => (
  f12_textOf_p9 FU σ v0 v1 v2 v3 (-1 : Int32) y1)
set_option maxRecDepth 50000 in
theorem s12_textOf : ∀ (σ : St) (v0 : Nat) (v1 : Int32) (v2 : Int32) (v3 : Int32) (r : Int32) (τ : St), f12_textOf σ v0 v1 v2 v3 = some (r, τ) → Call 2 m12_textOf [.ref v0, .int v1, .int v2, .int v3] σ (some (.int r)) τ := by
  intro σ v0 v1 v2 v3 r τ hf
  unfold f12_textOf at hf
  refine Call.of (by decide +kernel) rfl (Nat.le_of_ble_eq_true rfl) ?_
  refine ev_iconst ci_m1 d12_textOf_0 ?_
  refine ev_istore (lv2 := [(4, .int (-1 : Int32)), (0, .ref v0), (1, .int v1), (2, .int v2), (3, .int v3)]) (i := 4) (by decide) rfl d12_textOf_1 ?_
  refine ev_bipush cb_12 d12_textOf_3 ?_
  refine ev_iload_n (j := 1) (i := 1) (q := 2) rfl rfl d12_textOf_5 ?_
  refine ev_imul d12_textOf_6 ?_
  obtain ⟨y1, e2, hf⟩ := lt_some hf
  refine ev_nmI e2 ?_
  refine ev_istore (lv2 := [(5, .int y1), (4, .int (-1 : Int32)), (0, .ref v0), (1, .int v1), (2, .int v2), (3, .int v3)]) (i := 5) (by decide) rfl d12_textOf_7 ?_
  exact Ev.sub [2, 3, 4, 5, 1, 0] rfl (s12_textOf_p9 FU _ _ _ _ _ _ _ _ _ hf)
abbrev m12_bounded : MD := ("MillBoatsModel", ⟨"MillBoatsModel", "bounded", "(J)I"⟩, prog_14_method_65_code, 2, (some Jvm.ClassFile.FieldType.int))
theorem k12_bounded : okY m12_bounded.2.1 1 := ⟨by decide +kernel, by decide +kernel, by decide +kernel⟩
def f12_bounded (σ : St) (v0 : Int64) : Option (Int32 × St) :=
  (if (lg_cmp v0 (1000000000 : Int64)) ≤ (0 : Int32) then
  (if (lg_cmp v0 (-1000000000 : Int64)) < (0 : Int32) then
  some ((-1000000000 : Int32), σ)
  else
  some (v0.toInt32, σ))
  else
  some ((1000000000 : Int32), σ))
set_option maxRecDepth 50000 in
theorem s12_bounded : ∀ (σ : St) (v0 : Int64) (r : Int32) (τ : St), f12_bounded σ v0 = some (r, τ) → Call 2 m12_bounded [.long v0] σ (some (.int r)) τ := by
  intro σ v0 r τ hf
  unfold f12_bounded at hf
  refine Call.of (by decide +kernel) rfl (Nat.le_of_ble_eq_true rfl) ?_
  refine ev_lload_n (j := 0) (i := 0) (q := 0) rfl rfl d12_bounded_0 ?_
  refine ev_ldc2 w1791 d12_bounded_1 ?_
  refine ev_lcmp d12_bounded_4 ?_
  rcases ite_some hf with ⟨c1, hf⟩ | ⟨c1, hf⟩
  · refine ev_if_le_P (tgt := 14) c1 (by decide) d12_bounded_5 ?_
    refine ev_lload_n (j := 0) (i := 0) (q := 0) rfl rfl d12_bounded_14 ?_
    refine ev_ldc2 w1793 d12_bounded_15 ?_
    refine ev_lcmp d12_bounded_18 ?_
    rcases ite_some hf with ⟨c2, hf⟩ | ⟨c2, hf⟩
    · refine ev_if_ge_P (tgt := 28) c2 (by decide) d12_bounded_19 ?_
      refine ev_ldcw w1794 d12_bounded_22 ?_
      refine ev_goto (tgt := 30) (by decide) d12_bounded_25 ?_
      obtain ⟨rfl, rfl⟩ := ret_some hf
      exact ev_iret rfl d12_bounded_30
    · refine ev_if_ge_Q (tgt := 28) c2 (by decide) d12_bounded_19 ?_
      refine ev_lload_n (j := 0) (i := 0) (q := 0) rfl rfl d12_bounded_28 ?_
      refine ev_l2i d12_bounded_29 ?_
      obtain ⟨rfl, rfl⟩ := ret_some hf
      exact ev_iret rfl d12_bounded_30
  · refine ev_if_le_Q (tgt := 14) c1 (by decide) d12_bounded_5 ?_
    refine ev_ldcw w1792 d12_bounded_8 ?_
    refine ev_goto (tgt := 30) (by decide) d12_bounded_11 ?_
    obtain ⟨rfl, rfl⟩ := ret_some hf
    exact ev_iret rfl d12_bounded_30
abbrev m12_joined : MD := ("MillBoatsModel", ⟨"MillBoatsModel", "joined", "(III)I"⟩, prog_14_method_67_code, 3, (some Jvm.ClassFile.FieldType.int))
theorem k12_joined : okY m12_joined.2.1 3 := ⟨by decide +kernel, by decide +kernel, by decide +kernel⟩
def f12_joined (σ : St) (v0 : Int32) (v1 : Int32) (v2 : Int32) : Option (Int32 × St) :=
  (if v0 = (-7 : Int32) then
  some (v1 * v2, σ)
  else
  (if v0 = (-6 : Int32) then
  (if v1 = v2 then
  some ((1 : Int32), σ)
  else
  some ((0 : Int32), σ))
  else
  (if v0 = (-5 : Int32) then
  (if v1 ≤ v2 then
  some ((0 : Int32), σ)
  else
  some ((1 : Int32), σ))
  else
  (if v0 = (-4 : Int32) then
  (if v1 < v2 then
  some ((1 : Int32), σ)
  else
  some ((0 : Int32), σ))
  else
  (if v0 = (-3 : Int32) then
  bd (f12_bounded σ ((v1.toInt64) * (v2.toInt64))) fun r9 t10 => (
  some (r9, t10))
  else
  (if v0 = (-2 : Int32) then
  bd (f12_bounded σ ((v1.toInt64) - (v2.toInt64))) fun r14 t15 => (
  some (r14, t15))
  else
  (if v0 = (-1 : Int32) then
  bd (f12_bounded σ ((v1.toInt64) + (v2.toInt64))) fun r19 t20 => (
  some (r19, t20))
  else
  (if (v1 + v2) ≤ (0 : Int32) then
  some ((0 : Int32), σ)
  else
  some ((1 : Int32), σ)))))))))
set_option maxRecDepth 50000 in
theorem s12_joined : ∀ (σ : St) (v0 : Int32) (v1 : Int32) (v2 : Int32) (r : Int32) (τ : St), f12_joined σ v0 v1 v2 = some (r, τ) → Call 3 m12_joined [.int v0, .int v1, .int v2] σ (some (.int r)) τ := by
  intro σ v0 v1 v2 r τ hf
  unfold f12_joined at hf
  refine Call.of (by decide +kernel) rfl (Nat.le_of_ble_eq_true rfl) ?_
  refine ev_iload_n (j := 0) (i := 0) (q := 0) rfl rfl d12_joined_0 ?_
  rcases ite_some hf with ⟨c1, hf⟩ | ⟨c1, hf⟩
  · refine ev_table_in (off := 103) (tgt := 104) d12_joined_1 (by rw [c1]; decide) (by rw [c1]; decide) (by rw [c1]; decide) (by decide) ?_
    refine ev_iload_n (j := 1) (i := 1) (q := 1) rfl rfl d12_joined_104 ?_
    refine ev_iload_n (j := 2) (i := 2) (q := 2) rfl rfl d12_joined_105 ?_
    refine ev_imul d12_joined_106 ?_
    obtain ⟨rfl, rfl⟩ := ret_some hf
    exact ev_iret rfl d12_joined_107
  rcases ite_some hf with ⟨c2, hf⟩ | ⟨c2, hf⟩
  · refine ev_table_in (off := 92) (tgt := 93) d12_joined_1 (by rw [c2]; decide) (by rw [c2]; decide) (by rw [c2]; decide) (by decide) ?_
    refine ev_iload_n (j := 1) (i := 1) (q := 1) rfl rfl d12_joined_93 ?_
    refine ev_iload_n (j := 2) (i := 2) (q := 2) rfl rfl d12_joined_94 ?_
    rcases ite_some hf with ⟨c3, hf⟩ | ⟨c3, hf⟩
    · refine ev_icmp_ne_P (tgt := 102) c3 (by decide) d12_joined_95 ?_
      refine ev_iconst ci_1 d12_joined_98 ?_
      refine ev_goto (tgt := 103) (by decide) d12_joined_99 ?_
      obtain ⟨rfl, rfl⟩ := ret_some hf
      exact ev_iret rfl d12_joined_103
    · refine ev_icmp_ne_Q (tgt := 102) c3 (by decide) d12_joined_95 ?_
      refine ev_iconst ci_0 d12_joined_102 ?_
      obtain ⟨rfl, rfl⟩ := ret_some hf
      exact ev_iret rfl d12_joined_103
  rcases ite_some hf with ⟨c4, hf⟩ | ⟨c4, hf⟩
  · refine ev_table_in (off := 81) (tgt := 82) d12_joined_1 (by rw [c4]; decide) (by rw [c4]; decide) (by rw [c4]; decide) (by decide) ?_
    refine ev_iload_n (j := 1) (i := 1) (q := 1) rfl rfl d12_joined_82 ?_
    refine ev_iload_n (j := 2) (i := 2) (q := 2) rfl rfl d12_joined_83 ?_
    rcases ite_some hf with ⟨c5, hf⟩ | ⟨c5, hf⟩
    · refine ev_icmp_le_P (tgt := 91) c5 (by decide) d12_joined_84 ?_
      refine ev_iconst ci_0 d12_joined_91 ?_
      obtain ⟨rfl, rfl⟩ := ret_some hf
      exact ev_iret rfl d12_joined_92
    · refine ev_icmp_le_Q (tgt := 91) c5 (by decide) d12_joined_84 ?_
      refine ev_iconst ci_1 d12_joined_87 ?_
      refine ev_goto (tgt := 92) (by decide) d12_joined_88 ?_
      obtain ⟨rfl, rfl⟩ := ret_some hf
      exact ev_iret rfl d12_joined_92
  rcases ite_some hf with ⟨c6, hf⟩ | ⟨c6, hf⟩
  · refine ev_table_in (off := 70) (tgt := 71) d12_joined_1 (by rw [c6]; decide) (by rw [c6]; decide) (by rw [c6]; decide) (by decide) ?_
    refine ev_iload_n (j := 1) (i := 1) (q := 1) rfl rfl d12_joined_71 ?_
    refine ev_iload_n (j := 2) (i := 2) (q := 2) rfl rfl d12_joined_72 ?_
    rcases ite_some hf with ⟨c7, hf⟩ | ⟨c7, hf⟩
    · refine ev_icmp_ge_P (tgt := 80) c7 (by decide) d12_joined_73 ?_
      refine ev_iconst ci_1 d12_joined_76 ?_
      refine ev_goto (tgt := 81) (by decide) d12_joined_77 ?_
      obtain ⟨rfl, rfl⟩ := ret_some hf
      exact ev_iret rfl d12_joined_81
    · refine ev_icmp_ge_Q (tgt := 80) c7 (by decide) d12_joined_73 ?_
      refine ev_iconst ci_0 d12_joined_80 ?_
      obtain ⟨rfl, rfl⟩ := ret_some hf
      exact ev_iret rfl d12_joined_81
  rcases ite_some hf with ⟨c8, hf⟩ | ⟨c8, hf⟩
  · refine ev_table_in (off := 61) (tgt := 62) d12_joined_1 (by rw [c8]; decide) (by rw [c8]; decide) (by rw [c8]; decide) (by decide) ?_
    refine ev_iload_n (j := 1) (i := 1) (q := 1) rfl rfl d12_joined_62 ?_
    refine ev_i2l d12_joined_63 ?_
    refine ev_iload_n (j := 2) (i := 2) (q := 2) rfl rfl d12_joined_64 ?_
    refine ev_i2l d12_joined_65 ?_
    refine ev_lmul d12_joined_66 ?_
    obtain ⟨r9, t10, k11, hf⟩ := bd_some hf
    have q12 := s12_bounded _ _ _ _ k11
    refine ev_callS (vs := [.long ((v1.toInt64) * (v2.toInt64))]) (sk := []) q12 (by decide) (Nat.le_of_ble_eq_true rfl) w1788 w1789 w19 w1790 k12_bounded rfl (Nat.le_of_ble_eq_true rfl) d12_joined_67 ?_
    obtain ⟨rfl, rfl⟩ := ret_some hf
    exact ev_iret rfl d12_joined_70
  rcases ite_some hf with ⟨c13, hf⟩ | ⟨c13, hf⟩
  · refine ev_table_in (off := 52) (tgt := 53) d12_joined_1 (by rw [c13]; decide) (by rw [c13]; decide) (by rw [c13]; decide) (by decide) ?_
    refine ev_iload_n (j := 1) (i := 1) (q := 1) rfl rfl d12_joined_53 ?_
    refine ev_i2l d12_joined_54 ?_
    refine ev_iload_n (j := 2) (i := 2) (q := 2) rfl rfl d12_joined_55 ?_
    refine ev_i2l d12_joined_56 ?_
    refine ev_lsub d12_joined_57 ?_
    obtain ⟨r14, t15, k16, hf⟩ := bd_some hf
    have q17 := s12_bounded _ _ _ _ k16
    refine ev_callS (vs := [.long ((v1.toInt64) - (v2.toInt64))]) (sk := []) q17 (by decide) (Nat.le_of_ble_eq_true rfl) w1788 w1789 w19 w1790 k12_bounded rfl (Nat.le_of_ble_eq_true rfl) d12_joined_58 ?_
    obtain ⟨rfl, rfl⟩ := ret_some hf
    exact ev_iret rfl d12_joined_61
  rcases ite_some hf with ⟨c18, hf⟩ | ⟨c18, hf⟩
  · refine ev_table_in (off := 43) (tgt := 44) d12_joined_1 (by rw [c18]; decide) (by rw [c18]; decide) (by rw [c18]; decide) (by decide) ?_
    refine ev_iload_n (j := 1) (i := 1) (q := 1) rfl rfl d12_joined_44 ?_
    refine ev_i2l d12_joined_45 ?_
    refine ev_iload_n (j := 2) (i := 2) (q := 2) rfl rfl d12_joined_46 ?_
    refine ev_i2l d12_joined_47 ?_
    refine ev_ladd d12_joined_48 ?_
    obtain ⟨r19, t20, k21, hf⟩ := bd_some hf
    have q22 := s12_bounded _ _ _ _ k21
    refine ev_callS (vs := [.long ((v1.toInt64) + (v2.toInt64))]) (sk := []) q22 (by decide) (Nat.le_of_ble_eq_true rfl) w1788 w1789 w19 w1790 k12_bounded rfl (Nat.le_of_ble_eq_true rfl) d12_joined_49 ?_
    obtain ⟨rfl, rfl⟩ := ret_some hf
    exact ev_iret rfl d12_joined_52
  refine ev_table_out (tgt := 108) d12_joined_1 (by have nc1 : v0.toInt ≠ -7 := neI c1; have nc2 : v0.toInt ≠ -6 := neI c2; have nc4 : v0.toInt ≠ -5 := neI c4; have nc6 : v0.toInt ≠ -4 := neI c6; have nc8 : v0.toInt ≠ -3 := neI c8; have nc13 : v0.toInt ≠ -2 := neI c13; have nc18 : v0.toInt ≠ -1 := neI c18; omega) (by decide) ?_
  refine ev_iload_n (j := 1) (i := 1) (q := 1) rfl rfl d12_joined_108 ?_
  refine ev_iload_n (j := 2) (i := 2) (q := 2) rfl rfl d12_joined_109 ?_
  refine ev_iadd d12_joined_110 ?_
  rcases ite_some hf with ⟨c23, hf⟩ | ⟨c23, hf⟩
  · refine ev_if_le_P (tgt := 118) c23 (by decide) d12_joined_111 ?_
    refine ev_iconst ci_0 d12_joined_118 ?_
    obtain ⟨rfl, rfl⟩ := ret_some hf
    exact ev_iret rfl d12_joined_119
  · refine ev_if_le_Q (tgt := 118) c23 (by decide) d12_joined_111 ?_
    refine ev_iconst ci_1 d12_joined_114 ?_
    refine ev_goto (tgt := 119) (by decide) d12_joined_115 ?_
    obtain ⟨rfl, rfl⟩ := ret_some hf
    exact ev_iret rfl d12_joined_119
