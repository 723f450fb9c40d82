theorem d9_put_0 : decode prog_11_method_2_code 0 = .ok (.iload_n 1, 1) := by decide +kernel
theorem d9_put_1 : decode prog_11_method_2_code 1 = .ok (.ifCond .lt 21, 3) := by decide +kernel
theorem d9_put_4 : decode prog_11_method_2_code 4 = .ok (.iload_n 1, 1) := by decide +kernel
theorem d9_put_5 : decode prog_11_method_2_code 5 = .ok (.sipush 400, 3) := by decide +kernel
theorem d9_put_8 : decode prog_11_method_2_code 8 = .ok (.if_icmp .gt 14, 3) := by decide +kernel
theorem d9_put_11 : decode prog_11_method_2_code 11 = .ok (.iload_n 2, 1) := by decide +kernel
theorem d9_put_12 : decode prog_11_method_2_code 12 = .ok (.ifCond .lt 10, 3) := by decide +kernel
theorem d9_put_15 : decode prog_11_method_2_code 15 = .ok (.iload_n 2, 1) := by decide +kernel
theorem d9_put_16 : decode prog_11_method_2_code 16 = .ok (.sipush 400, 3) := by decide +kernel
theorem d9_put_19 : decode prog_11_method_2_code 19 = .ok (.if_icmp .le 5, 3) := by decide +kernel
theorem d9_put_22 : decode prog_11_method_2_code 22 = .ok (.iconst 0, 1) := by decide +kernel
theorem d9_put_23 : decode prog_11_method_2_code 23 = .ok (.ireturn, 1) := by decide +kernel
theorem d9_put_24 : decode prog_11_method_2_code 24 = .ok (.iconst 0, 1) := by decide +kernel
theorem d9_put_25 : decode prog_11_method_2_code 25 = .ok (.istore_n 3, 1) := by decide +kernel
theorem d9_put_26 : decode prog_11_method_2_code 26 = .ok (.iload_n 3, 1) := by decide +kernel
theorem d9_put_27 : decode prog_11_method_2_code 27 = .ok (.aload_n 0, 1) := by decide +kernel
theorem d9_put_28 : decode prog_11_method_2_code 28 = .ok (.getfield 16, 3) := by decide +kernel
theorem d9_put_31 : decode prog_11_method_2_code 31 = .ok (.if_icmp .ge 19, 3) := by decide +kernel
theorem d9_put_34 : decode prog_11_method_2_code 34 = .ok (.aload_n 0, 1) := by decide +kernel
theorem d9_put_35 : decode prog_11_method_2_code 35 = .ok (.getfield 9, 3) := by decide +kernel
theorem d9_put_38 : decode prog_11_method_2_code 38 = .ok (.iload_n 3, 1) := by decide +kernel
theorem d9_put_39 : decode prog_11_method_2_code 39 = .ok (.iaload, 1) := by decide +kernel
theorem d9_put_40 : decode prog_11_method_2_code 40 = .ok (.iload_n 1, 1) := by decide +kernel
theorem d9_put_41 : decode prog_11_method_2_code 41 = .ok (.if_icmp .ge 9, 3) := by decide +kernel
theorem d9_put_44 : decode prog_11_method_2_code 44 = .ok (.iinc 3 1, 3) := by decide +kernel
theorem d9_put_47 : decode prog_11_method_2_code 47 = .ok (.goto (-21), 3) := by decide +kernel
theorem d9_put_50 : decode prog_11_method_2_code 50 = .ok (.iload_n 3, 1) := by decide +kernel
theorem d9_put_51 : decode prog_11_method_2_code 51 = .ok (.aload_n 0, 1) := by decide +kernel
theorem d9_put_52 : decode prog_11_method_2_code 52 = .ok (.getfield 16, 3) := by decide +kernel
theorem d9_put_55 : decode prog_11_method_2_code 55 = .ok (.if_icmp .ge 22, 3) := by decide +kernel
theorem d9_put_58 : decode prog_11_method_2_code 58 = .ok (.aload_n 0, 1) := by decide +kernel
theorem d9_put_59 : decode prog_11_method_2_code 59 = .ok (.getfield 9, 3) := by decide +kernel
theorem d9_put_62 : decode prog_11_method_2_code 62 = .ok (.iload_n 3, 1) := by decide +kernel
theorem d9_put_63 : decode prog_11_method_2_code 63 = .ok (.iaload, 1) := by decide +kernel
theorem d9_put_64 : decode prog_11_method_2_code 64 = .ok (.iload_n 1, 1) := by decide +kernel
theorem d9_put_65 : decode prog_11_method_2_code 65 = .ok (.if_icmp .ne 12, 3) := by decide +kernel
theorem d9_put_68 : decode prog_11_method_2_code 68 = .ok (.aload_n 0, 1) := by decide +kernel
theorem d9_put_69 : decode prog_11_method_2_code 69 = .ok (.getfield 13, 3) := by decide +kernel
theorem d9_put_72 : decode prog_11_method_2_code 72 = .ok (.iload_n 3, 1) := by decide +kernel
theorem d9_put_73 : decode prog_11_method_2_code 73 = .ok (.iload_n 2, 1) := by decide +kernel
theorem d9_put_74 : decode prog_11_method_2_code 74 = .ok (.iastore, 1) := by decide +kernel
theorem d9_put_75 : decode prog_11_method_2_code 75 = .ok (.iconst 1, 1) := by decide +kernel
theorem d9_put_76 : decode prog_11_method_2_code 76 = .ok (.ireturn, 1) := by decide +kernel
theorem d9_put_77 : decode prog_11_method_2_code 77 = .ok (.aload_n 0, 1) := by decide +kernel
theorem d9_put_78 : decode prog_11_method_2_code 78 = .ok (.getfield 16, 3) := by decide +kernel
theorem d9_put_81 : decode prog_11_method_2_code 81 = .ok (.bipush 8, 2) := by decide +kernel
theorem d9_put_83 : decode prog_11_method_2_code 83 = .ok (.if_icmp .lt 5, 3) := by decide +kernel
theorem d9_put_86 : decode prog_11_method_2_code 86 = .ok (.iconst 0, 1) := by decide +kernel
theorem d9_put_87 : decode prog_11_method_2_code 87 = .ok (.ireturn, 1) := by decide +kernel
theorem d9_put_88 : decode prog_11_method_2_code 88 = .ok (.aload_n 0, 1) := by decide +kernel
theorem d9_put_89 : decode prog_11_method_2_code 89 = .ok (.getfield 16, 3) := by decide +kernel
theorem d9_put_92 : decode prog_11_method_2_code 92 = .ok (.istore 4, 2) := by decide +kernel
theorem d9_put_94 : decode prog_11_method_2_code 94 = .ok (.iload 4, 2) := by decide +kernel
theorem d9_put_96 : decode prog_11_method_2_code 96 = .ok (.iload_n 3, 1) := by decide +kernel
theorem d9_put_97 : decode prog_11_method_2_code 97 = .ok (.if_icmp .le 41, 3) := by decide +kernel
theorem d9_put_100 : decode prog_11_method_2_code 100 = .ok (.aload_n 0, 1) := by decide +kernel
theorem d9_put_101 : decode prog_11_method_2_code 101 = .ok (.getfield 9, 3) := by decide +kernel
theorem d9_put_104 : decode prog_11_method_2_code 104 = .ok (.iload 4, 2) := by decide +kernel
theorem d9_put_106 : decode prog_11_method_2_code 106 = .ok (.aload_n 0, 1) := by decide +kernel
theorem d9_put_107 : decode prog_11_method_2_code 107 = .ok (.getfield 9, 3) := by decide +kernel
theorem d9_put_110 : decode prog_11_method_2_code 110 = .ok (.iload 4, 2) := by decide +kernel
theorem d9_put_112 : decode prog_11_method_2_code 112 = .ok (.iconst 1, 1) := by decide +kernel
theorem d9_put_113 : decode prog_11_method_2_code 113 = .ok (.isub, 1) := by decide +kernel
theorem d9_put_114 : decode prog_11_method_2_code 114 = .ok (.iaload, 1) := by decide +kernel
theorem d9_put_115 : decode prog_11_method_2_code 115 = .ok (.iastore, 1) := by decide +kernel
theorem d9_put_116 : decode prog_11_method_2_code 116 = .ok (.aload_n 0, 1) := by decide +kernel
theorem d9_put_117 : decode prog_11_method_2_code 117 = .ok (.getfield 13, 3) := by decide +kernel
theorem d9_put_120 : decode prog_11_method_2_code 120 = .ok (.iload 4, 2) := by decide +kernel
theorem d9_put_122 : decode prog_11_method_2_code 122 = .ok (.aload_n 0, 1) := by decide +kernel
theorem d9_put_123 : decode prog_11_method_2_code 123 = .ok (.getfield 13, 3) := by decide +kernel
theorem d9_put_126 : decode prog_11_method_2_code 126 = .ok (.iload 4, 2) := by decide +kernel
theorem d9_put_128 : decode prog_11_method_2_code 128 = .ok (.iconst 1, 1) := by decide +kernel
theorem d9_put_129 : decode prog_11_method_2_code 129 = .ok (.isub, 1) := by decide +kernel
theorem d9_put_130 : decode prog_11_method_2_code 130 = .ok (.iaload, 1) := by decide +kernel
theorem d9_put_131 : decode prog_11_method_2_code 131 = .ok (.iastore, 1) := by decide +kernel
theorem d9_put_132 : decode prog_11_method_2_code 132 = .ok (.iinc 4 (-1), 3) := by decide +kernel
theorem d9_put_135 : decode prog_11_method_2_code 135 = .ok (.goto (-41), 3) := by decide +kernel
theorem d9_put_138 : decode prog_11_method_2_code 138 = .ok (.aload_n 0, 1) := by decide +kernel
theorem d9_put_139 : decode prog_11_method_2_code 139 = .ok (.getfield 9, 3) := by decide +kernel
theorem d9_put_142 : decode prog_11_method_2_code 142 = .ok (.iload_n 3, 1) := by decide +kernel
theorem d9_put_143 : decode prog_11_method_2_code 143 = .ok (.iload_n 1, 1) := by decide +kernel
theorem d9_put_144 : decode prog_11_method_2_code 144 = .ok (.iastore, 1) := by decide +kernel
theorem d9_put_145 : decode prog_11_method_2_code 145 = .ok (.aload_n 0, 1) := by decide +kernel
theorem d9_put_146 : decode prog_11_method_2_code 146 = .ok (.getfield 13, 3) := by decide +kernel
theorem d9_put_149 : decode prog_11_method_2_code 149 = .ok (.iload_n 3, 1) := by decide +kernel
theorem d9_put_150 : decode prog_11_method_2_code 150 = .ok (.iload_n 2, 1) := by decide +kernel
theorem d9_put_151 : decode prog_11_method_2_code 151 = .ok (.iastore, 1) := by decide +kernel
theorem d9_put_152 : decode prog_11_method_2_code 152 = .ok (.aload_n 0, 1) := by decide +kernel
theorem d9_put_153 : decode prog_11_method_2_code 153 = .ok (.dup, 1) := by decide +kernel
theorem d9_put_154 : decode prog_11_method_2_code 154 = .ok (.getfield 16, 3) := by decide +kernel
theorem d9_put_157 : decode prog_11_method_2_code 157 = .ok (.iconst 1, 1) := by decide +kernel
theorem d9_put_158 : decode prog_11_method_2_code 158 = .ok (.iadd, 1) := by decide +kernel
theorem d9_put_159 : decode prog_11_method_2_code 159 = .ok (.putfield 16, 3) := by decide +kernel
theorem d9_put_162 : decode prog_11_method_2_code 162 = .ok (.iconst 1, 1) := by decide +kernel
theorem d9_put_163 : decode prog_11_method_2_code 163 = .ok (.ireturn, 1) := by decide +kernel
theorem d11_init_0 : decode prog_1_method_1_code 0 = .ok (.aload_n 0, 1) := by decide +kernel
theorem d11_init_1 : decode prog_1_method_1_code 1 = .ok (.invokespecial 3, 3) := by decide +kernel
theorem d11_init_4 : decode prog_1_method_1_code 4 = .ok (.aload_n 0, 1) := by decide +kernel
theorem d11_init_5 : decode prog_1_method_1_code 5 = .ok (.new 9, 3) := by decide +kernel
theorem d11_init_8 : decode prog_1_method_1_code 8 = .ok (.dup, 1) := by decide +kernel
theorem d11_init_9 : decode prog_1_method_1_code 9 = .ok (.invokespecial 11, 3) := by decide +kernel
theorem d11_init_12 : decode prog_1_method_1_code 12 = .ok (.putfield 12, 3) := by decide +kernel
theorem d11_init_15 : decode prog_1_method_1_code 15 = .ok (.aload_n 0, 1) := by decide +kernel
theorem d11_init_16 : decode prog_1_method_1_code 16 = .ok (.new 16, 3) := by decide +kernel
theorem d11_init_19 : decode prog_1_method_1_code 19 = .ok (.dup, 1) := by decide +kernel
theorem d11_init_20 : decode prog_1_method_1_code 20 = .ok (.aload_n 0, 1) := by decide +kernel
theorem d11_init_21 : decode prog_1_method_1_code 21 = .ok (.getfield 12, 3) := by decide +kernel
theorem d11_init_24 : decode prog_1_method_1_code 24 = .ok (.invokespecial 18, 3) := by decide +kernel
theorem d11_init_27 : decode prog_1_method_1_code 27 = .ok (.putfield 21, 3) := by decide +kernel
theorem d11_init_30 : decode prog_1_method_1_code 30 = .ok (.aload_n 0, 1) := by decide +kernel
theorem d11_init_31 : decode prog_1_method_1_code 31 = .ok (.new 25, 3) := by decide +kernel
theorem d11_init_34 : decode prog_1_method_1_code 34 = .ok (.dup, 1) := by decide +kernel
theorem d11_init_35 : decode prog_1_method_1_code 35 = .ok (.aload_n 0, 1) := by decide +kernel
theorem d11_init_36 : decode prog_1_method_1_code 36 = .ok (.getfield 12, 3) := by decide +kernel
theorem d11_init_39 : decode prog_1_method_1_code 39 = .ok (.invokespecial 27, 3) := by decide +kernel
theorem d11_init_42 : decode prog_1_method_1_code 42 = .ok (.putfield 28, 3) := by decide +kernel
theorem d11_init_45 : decode prog_1_method_1_code 45 = .ok (.aload_n 0, 1) := by decide +kernel
theorem d11_init_46 : decode prog_1_method_1_code 46 = .ok (.new 32, 3) := by decide +kernel
theorem d11_init_49 : decode prog_1_method_1_code 49 = .ok (.dup, 1) := by decide +kernel
theorem d11_init_50 : decode prog_1_method_1_code 50 = .ok (.aload_n 0, 1) := by decide +kernel
theorem d11_init_51 : decode prog_1_method_1_code 51 = .ok (.getfield 12, 3) := by decide +kernel
theorem d11_init_54 : decode prog_1_method_1_code 54 = .ok (.aload_n 0, 1) := by decide +kernel
theorem d11_init_55 : decode prog_1_method_1_code 55 = .ok (.getfield 21, 3) := by decide +kernel
theorem d11_init_58 : decode prog_1_method_1_code 58 = .ok (.invokespecial 34, 3) := by decide +kernel
theorem d11_init_61 : decode prog_1_method_1_code 61 = .ok (.putfield 37, 3) := by decide +kernel
theorem d11_init_64 : decode prog_1_method_1_code 64 = .ok (.aload_n 0, 1) := by decide +kernel
theorem d11_init_65 : decode prog_1_method_1_code 65 = .ok (.new 41, 3) := by decide +kernel
theorem d11_init_68 : decode prog_1_method_1_code 68 = .ok (.dup, 1) := by decide +kernel
theorem d11_init_69 : decode prog_1_method_1_code 69 = .ok (.aload_n 0, 1) := by decide +kernel
theorem d11_init_70 : decode prog_1_method_1_code 70 = .ok (.getfield 12, 3) := by decide +kernel
theorem d11_init_73 : decode prog_1_method_1_code 73 = .ok (.aload_n 0, 1) := by decide +kernel
theorem d11_init_74 : decode prog_1_method_1_code 74 = .ok (.getfield 21, 3) := by decide +kernel
theorem d11_init_77 : decode prog_1_method_1_code 77 = .ok (.invokespecial 43, 3) := by decide +kernel
theorem d11_init_80 : decode prog_1_method_1_code 80 = .ok (.putfield 44, 3) := by decide +kernel
theorem d11_init_83 : decode prog_1_method_1_code 83 = .ok (.aload_n 0, 1) := by decide +kernel
theorem d11_init_84 : decode prog_1_method_1_code 84 = .ok (.new 48, 3) := by decide +kernel
theorem d11_init_87 : decode prog_1_method_1_code 87 = .ok (.dup, 1) := by decide +kernel
theorem d11_init_88 : decode prog_1_method_1_code 88 = .ok (.aload_n 0, 1) := by decide +kernel
theorem d11_init_89 : decode prog_1_method_1_code 89 = .ok (.getfield 12, 3) := by decide +kernel
theorem d11_init_92 : decode prog_1_method_1_code 92 = .ok (.aload_n 0, 1) := by decide +kernel
theorem d11_init_93 : decode prog_1_method_1_code 93 = .ok (.getfield 44, 3) := by decide +kernel
theorem d11_init_96 : decode prog_1_method_1_code 96 = .ok (.invokespecial 50, 3) := by decide +kernel
theorem d11_init_99 : decode prog_1_method_1_code 99 = .ok (.putfield 53, 3) := by decide +kernel
theorem d11_init_102 : decode prog_1_method_1_code 102 = .ok (.aload_n 0, 1) := by decide +kernel
theorem d11_init_103 : decode prog_1_method_1_code 103 = .ok (.sipush 400, 3) := by decide +kernel
theorem d11_init_106 : decode prog_1_method_1_code 106 = .ok (.newarray .int, 2) := by decide +kernel
theorem d11_init_108 : decode prog_1_method_1_code 108 = .ok (.putfield 57, 3) := by decide +kernel
theorem d11_init_111 : decode prog_1_method_1_code 111 = .ok (.return_, 1) := by decide +kernel
theorem d11_isHeight_0 : decode prog_1_method_40_code 0 = .ok (.iload_n 0, 1) := by decide +kernel
theorem d11_isHeight_1 : decode prog_1_method_40_code 1 = .ok (.ifCond .lt 13, 3) := by decide +kernel
theorem d11_isHeight_4 : decode prog_1_method_40_code 4 = .ok (.iload_n 0, 1) := by decide +kernel
theorem d11_isHeight_5 : decode prog_1_method_40_code 5 = .ok (.bipush 20, 2) := by decide +kernel
theorem d11_isHeight_7 : decode prog_1_method_40_code 7 = .ok (.if_icmp .gt 7, 3) := by decide +kernel
theorem d11_isHeight_10 : decode prog_1_method_40_code 10 = .ok (.iconst 1, 1) := by decide +kernel
theorem d11_isHeight_11 : decode prog_1_method_40_code 11 = .ok (.goto 4, 3) := by decide +kernel
theorem d11_isHeight_14 : decode prog_1_method_40_code 14 = .ok (.iconst 0, 1) := by decide +kernel
theorem d11_isHeight_15 : decode prog_1_method_40_code 15 = .ok (.ireturn, 1) := by decide +kernel
theorem d11_bed_0 : decode prog_1_method_2_code 0 = .ok (.iload_n 1, 1) := by decide +kernel
theorem d11_bed_1 : decode prog_1_method_2_code 1 = .ok (.invokestatic 61, 3) := by decide +kernel
theorem d11_bed_4 : decode prog_1_method_2_code 4 = .ok (.ifCond .eq 10, 3) := by decide +kernel
theorem d11_bed_7 : decode prog_1_method_2_code 7 = .ok (.iload_n 2, 1) := by decide +kernel
theorem d11_bed_8 : decode prog_1_method_2_code 8 = .ok (.invokestatic 65, 3) := by decide +kernel
theorem d11_bed_11 : decode prog_1_method_2_code 11 = .ok (.ifCond .ne 5, 3) := by decide +kernel
theorem d11_bed_14 : decode prog_1_method_2_code 14 = .ok (.iconst 0, 1) := by decide +kernel
theorem d11_bed_15 : decode prog_1_method_2_code 15 = .ok (.ireturn, 1) := by decide +kernel
theorem d11_bed_16 : decode prog_1_method_2_code 16 = .ok (.aload_n 0, 1) := by decide +kernel
theorem d11_bed_17 : decode prog_1_method_2_code 17 = .ok (.getfield 12, 3) := by decide +kernel
theorem d11_bed_20 : decode prog_1_method_2_code 20 = .ok (.getfield 68, 3) := by decide +kernel
theorem d11_bed_23 : decode prog_1_method_2_code 23 = .ok (.iload_n 1, 1) := by decide +kernel
theorem d11_bed_24 : decode prog_1_method_2_code 24 = .ok (.iload_n 2, 1) := by decide +kernel
theorem d11_bed_25 : decode prog_1_method_2_code 25 = .ok (.iastore, 1) := by decide +kernel
theorem d11_bed_26 : decode prog_1_method_2_code 26 = .ok (.iconst 1, 1) := by decide +kernel
theorem d11_bed_27 : decode prog_1_method_2_code 27 = .ok (.ireturn, 1) := by decide +kernel
theorem d11_point_0 : decode prog_1_method_3_code 0 = .ok (.iload_n 1, 1) := by decide +kernel
theorem d11_point_1 : decode prog_1_method_3_code 1 = .ok (.ifCond .lt 9, 3) := by decide +kernel
theorem d11_point_4 : decode prog_1_method_3_code 4 = .ok (.iload_n 1, 1) := by decide +kernel
theorem d11_point_5 : decode prog_1_method_3_code 5 = .ok (.bipush 7, 2) := by decide +kernel
theorem d11_point_7 : decode prog_1_method_3_code 7 = .ok (.if_icmp .lt 5, 3) := by decide +kernel
theorem d11_point_10 : decode prog_1_method_3_code 10 = .ok (.iconst 0, 1) := by decide +kernel
theorem d11_point_11 : decode prog_1_method_3_code 11 = .ok (.ireturn, 1) := by decide +kernel
theorem d11_point_12 : decode prog_1_method_3_code 12 = .ok (.aload_n 0, 1) := by decide +kernel
theorem d11_point_13 : decode prog_1_method_3_code 13 = .ok (.getfield 12, 3) := by decide +kernel
theorem d11_point_16 : decode prog_1_method_3_code 16 = .ok (.getfield 71, 3) := by decide +kernel
theorem d11_point_19 : decode prog_1_method_3_code 19 = .ok (.iload_n 1, 1) := by decide +kernel
theorem d11_point_20 : decode prog_1_method_3_code 20 = .ok (.aaload, 1) := by decide +kernel
theorem d11_point_21 : decode prog_1_method_3_code 21 = .ok (.iload_n 2, 1) := by decide +kernel
theorem d11_point_22 : decode prog_1_method_3_code 22 = .ok (.iload_n 3, 1) := by decide +kernel
theorem d11_point_23 : decode prog_1_method_3_code 23 = .ok (.invokevirtual 75, 3) := by decide +kernel
theorem d11_point_26 : decode prog_1_method_3_code 26 = .ok (.ireturn, 1) := by decide +kernel
theorem d11_value_0 : decode prog_1_method_4_code 0 = .ok (.iload_n 1, 1) := by decide +kernel
theorem d11_value_1 : decode prog_1_method_4_code 1 = .ok (.ifCond .lt 9, 3) := by decide +kernel
theorem d11_value_4 : decode prog_1_method_4_code 4 = .ok (.iload_n 1, 1) := by decide +kernel
theorem d11_value_5 : decode prog_1_method_4_code 5 = .ok (.bipush 7, 2) := by decide +kernel
theorem d11_value_7 : decode prog_1_method_4_code 7 = .ok (.if_icmp .lt 5, 3) := by decide +kernel
theorem d11_value_10 : decode prog_1_method_4_code 10 = .ok (.iconst (-1), 1) := by decide +kernel
theorem d11_value_11 : decode prog_1_method_4_code 11 = .ok (.ireturn, 1) := by decide +kernel
theorem d11_value_12 : decode prog_1_method_4_code 12 = .ok (.aload_n 0, 1) := by decide +kernel
theorem d11_value_13 : decode prog_1_method_4_code 13 = .ok (.getfield 12, 3) := by decide +kernel
theorem d11_value_16 : decode prog_1_method_4_code 16 = .ok (.getfield 71, 3) := by decide +kernel
theorem d11_value_19 : decode prog_1_method_4_code 19 = .ok (.iload_n 1, 1) := by decide +kernel
theorem d11_value_20 : decode prog_1_method_4_code 20 = .ok (.aaload, 1) := by decide +kernel
theorem d11_value_21 : decode prog_1_method_4_code 21 = .ok (.iload_n 2, 1) := by decide +kernel
theorem d11_value_22 : decode prog_1_method_4_code 22 = .ok (.invokevirtual 81, 3) := by decide +kernel
theorem d11_value_25 : decode prog_1_method_4_code 25 = .ok (.ireturn, 1) := by decide +kernel
theorem d11_mill_0 : decode prog_1_method_5_code 0 = .ok (.iload_n 1, 1) := by decide +kernel
theorem d11_mill_1 : decode prog_1_method_5_code 1 = .ok (.iconst 1, 1) := by decide +kernel
theorem d11_mill_2 : decode prog_1_method_5_code 2 = .ok (.if_icmp .lt 32, 3) := by decide +kernel
theorem d11_mill_5 : decode prog_1_method_5_code 5 = .ok (.iload_n 1, 1) := by decide +kernel
theorem d11_mill_6 : decode prog_1_method_5_code 6 = .ok (.bipush 9, 2) := by decide +kernel
theorem d11_mill_8 : decode prog_1_method_5_code 8 = .ok (.if_icmp .gt 26, 3) := by decide +kernel
theorem d11_mill_11 : decode prog_1_method_5_code 11 = .ok (.iload_n 2, 1) := by decide +kernel
theorem d11_mill_12 : decode prog_1_method_5_code 12 = .ok (.iconst 1, 1) := by decide +kernel
theorem d11_mill_13 : decode prog_1_method_5_code 13 = .ok (.if_icmp .lt 21, 3) := by decide +kernel
theorem d11_mill_16 : decode prog_1_method_5_code 16 = .ok (.iload_n 2, 1) := by decide +kernel
theorem d11_mill_17 : decode prog_1_method_5_code 17 = .ok (.bipush 90, 2) := by decide +kernel
theorem d11_mill_19 : decode prog_1_method_5_code 19 = .ok (.if_icmp .gt 15, 3) := by decide +kernel
theorem d11_mill_22 : decode prog_1_method_5_code 22 = .ok (.iload_n 3, 1) := by decide +kernel
theorem d11_mill_23 : decode prog_1_method_5_code 23 = .ok (.iconst 1, 1) := by decide +kernel
theorem d11_mill_24 : decode prog_1_method_5_code 24 = .ok (.if_icmp .lt 10, 3) := by decide +kernel
theorem d11_mill_27 : decode prog_1_method_5_code 27 = .ok (.iload_n 3, 1) := by decide +kernel
theorem d11_mill_28 : decode prog_1_method_5_code 28 = .ok (.sipush 2000, 3) := by decide +kernel
theorem d11_mill_31 : decode prog_1_method_5_code 31 = .ok (.if_icmp .le 5, 3) := by decide +kernel
theorem d11_mill_34 : decode prog_1_method_5_code 34 = .ok (.iconst (-1), 1) := by decide +kernel
theorem d11_mill_35 : decode prog_1_method_5_code 35 = .ok (.ireturn, 1) := by decide +kernel
theorem d11_mill_36 : decode prog_1_method_5_code 36 = .ok (.aload_n 0, 1) := by decide +kernel
theorem d11_mill_37 : decode prog_1_method_5_code 37 = .ok (.getfield 12, 3) := by decide +kernel
theorem d11_mill_40 : decode prog_1_method_5_code 40 = .ok (.iload_n 1, 1) := by decide +kernel
theorem d11_mill_41 : decode prog_1_method_5_code 41 = .ok (.iload_n 2, 1) := by decide +kernel
theorem d11_mill_42 : decode prog_1_method_5_code 42 = .ok (.iload_n 3, 1) := by decide +kernel
theorem d11_mill_43 : decode prog_1_method_5_code 43 = .ok (.invokevirtual 85, 3) := by decide +kernel
theorem d11_mill_46 : decode prog_1_method_5_code 46 = .ok (.ireturn, 1) := by decide +kernel
theorem d11_moor_0 : decode prog_1_method_6_code 0 = .ok (.aload_n 0, 1) := by decide +kernel
theorem d11_moor_1 : decode prog_1_method_6_code 1 = .ok (.getfield 12, 3) := by decide +kernel
theorem d11_moor_4 : decode prog_1_method_6_code 4 = .ok (.iload_n 1, 1) := by decide +kernel
theorem d11_moor_5 : decode prog_1_method_6_code 5 = .ok (.invokevirtual 89, 3) := by decide +kernel
theorem d11_moor_8 : decode prog_1_method_6_code 8 = .ok (.ifCond .eq 15, 3) := by decide +kernel
theorem d11_moor_11 : decode prog_1_method_6_code 11 = .ok (.iload_n 2, 1) := by decide +kernel
theorem d11_moor_12 : decode prog_1_method_6_code 12 = .ok (.iconst (-1), 1) := by decide +kernel
theorem d11_moor_13 : decode prog_1_method_6_code 13 = .ok (.if_icmp .eq 12, 3) := by decide +kernel
theorem d11_moor_16 : decode prog_1_method_6_code 16 = .ok (.iload_n 2, 1) := by decide +kernel
theorem d11_moor_17 : decode prog_1_method_6_code 17 = .ok (.invokestatic 61, 3) := by decide +kernel
theorem d11_moor_20 : decode prog_1_method_6_code 20 = .ok (.ifCond .ne 5, 3) := by decide +kernel
theorem d11_moor_23 : decode prog_1_method_6_code 23 = .ok (.iconst (-1), 1) := by decide +kernel
theorem d11_moor_24 : decode prog_1_method_6_code 24 = .ok (.ireturn, 1) := by decide +kernel
theorem d11_moor_25 : decode prog_1_method_6_code 25 = .ok (.aload_n 0, 1) := by decide +kernel
theorem d11_moor_26 : decode prog_1_method_6_code 26 = .ok (.getfield 12, 3) := by decide +kernel
theorem d11_moor_29 : decode prog_1_method_6_code 29 = .ok (.getfield 92, 3) := by decide +kernel
theorem d11_moor_32 : decode prog_1_method_6_code 32 = .ok (.iload_n 1, 1) := by decide +kernel
theorem d11_moor_33 : decode prog_1_method_6_code 33 = .ok (.iaload, 1) := by decide +kernel
theorem d11_moor_34 : decode prog_1_method_6_code 34 = .ok (.bipush (-2), 2) := by decide +kernel
theorem d11_moor_36 : decode prog_1_method_6_code 36 = .ok (.if_icmp .ne 6, 3) := by decide +kernel
theorem d11_moor_39 : decode prog_1_method_6_code 39 = .ok (.bipush (-2), 2) := by decide +kernel
theorem d11_moor_41 : decode prog_1_method_6_code 41 = .ok (.ireturn, 1) := by decide +kernel
theorem d11_moor_42 : decode prog_1_method_6_code 42 = .ok (.iload_n 2, 1) := by decide +kernel
theorem d11_moor_43 : decode prog_1_method_6_code 43 = .ok (.iconst (-1), 1) := by decide +kernel
theorem d11_moor_44 : decode prog_1_method_6_code 44 = .ok (.if_icmp .eq 32, 3) := by decide +kernel
theorem d11_moor_47 : decode prog_1_method_6_code 47 = .ok (.aload_n 0, 1) := by decide +kernel
theorem d11_moor_48 : decode prog_1_method_6_code 48 = .ok (.getfield 12, 3) := by decide +kernel
theorem d11_moor_51 : decode prog_1_method_6_code 51 = .ok (.iload_n 2, 1) := by decide +kernel
theorem d11_moor_52 : decode prog_1_method_6_code 52 = .ok (.aload_n 0, 1) := by decide +kernel
theorem d11_moor_53 : decode prog_1_method_6_code 53 = .ok (.getfield 12, 3) := by decide +kernel
theorem d11_moor_56 : decode prog_1_method_6_code 56 = .ok (.getfield 92, 3) := by decide +kernel
theorem d11_moor_59 : decode prog_1_method_6_code 59 = .ok (.invokevirtual 95, 3) := by decide +kernel
theorem d11_moor_62 : decode prog_1_method_6_code 62 = .ok (.istore_n 3, 1) := by decide +kernel
theorem d11_moor_63 : decode prog_1_method_6_code 63 = .ok (.iload_n 3, 1) := by decide +kernel
theorem d11_moor_64 : decode prog_1_method_6_code 64 = .ok (.iconst (-1), 1) := by decide +kernel
theorem d11_moor_65 : decode prog_1_method_6_code 65 = .ok (.if_icmp .eq 11, 3) := by decide +kernel
theorem d11_moor_68 : decode prog_1_method_6_code 68 = .ok (.iload_n 3, 1) := by decide +kernel
theorem d11_moor_69 : decode prog_1_method_6_code 69 = .ok (.iload_n 1, 1) := by decide +kernel
theorem d11_moor_70 : decode prog_1_method_6_code 70 = .ok (.if_icmp .eq 6, 3) := by decide +kernel
theorem d11_moor_73 : decode prog_1_method_6_code 73 = .ok (.bipush (-3), 2) := by decide +kernel
theorem d11_moor_75 : decode prog_1_method_6_code 75 = .ok (.ireturn, 1) := by decide +kernel
theorem d11_moor_76 : decode prog_1_method_6_code 76 = .ok (.aload_n 0, 1) := by decide +kernel
theorem d11_moor_77 : decode prog_1_method_6_code 77 = .ok (.getfield 12, 3) := by decide +kernel
theorem d11_moor_80 : decode prog_1_method_6_code 80 = .ok (.getfield 92, 3) := by decide +kernel
theorem d11_moor_83 : decode prog_1_method_6_code 83 = .ok (.iload_n 1, 1) := by decide +kernel
theorem d11_moor_84 : decode prog_1_method_6_code 84 = .ok (.iload_n 2, 1) := by decide +kernel
theorem d11_moor_85 : decode prog_1_method_6_code 85 = .ok (.iastore, 1) := by decide +kernel
theorem d11_moor_86 : decode prog_1_method_6_code 86 = .ok (.iconst 0, 1) := by decide +kernel
theorem d11_moor_87 : decode prog_1_method_6_code 87 = .ok (.ireturn, 1) := by decide +kernel
theorem d11_dress_0 : decode prog_1_method_7_code 0 = .ok (.aload_n 0, 1) := by decide +kernel
theorem d11_dress_1 : decode prog_1_method_7_code 1 = .ok (.getfield 12, 3) := by decide +kernel
theorem d11_dress_4 : decode prog_1_method_7_code 4 = .ok (.iload_n 1, 1) := by decide +kernel
theorem d11_dress_5 : decode prog_1_method_7_code 5 = .ok (.invokevirtual 89, 3) := by decide +kernel
theorem d11_dress_8 : decode prog_1_method_7_code 8 = .ok (.ifCond .eq 17, 3) := by decide +kernel
theorem d11_dress_11 : decode prog_1_method_7_code 11 = .ok (.aload_n 0, 1) := by decide +kernel
theorem d11_dress_12 : decode prog_1_method_7_code 12 = .ok (.getfield 12, 3) := by decide +kernel
theorem d11_dress_15 : decode prog_1_method_7_code 15 = .ok (.getfield 92, 3) := by decide +kernel
theorem d11_dress_18 : decode prog_1_method_7_code 18 = .ok (.iload_n 1, 1) := by decide +kernel
theorem d11_dress_19 : decode prog_1_method_7_code 19 = .ok (.iaload, 1) := by decide +kernel
theorem d11_dress_20 : decode prog_1_method_7_code 20 = .ok (.bipush (-2), 2) := by decide +kernel
theorem d11_dress_22 : decode prog_1_method_7_code 22 = .ok (.if_icmp .ne 5, 3) := by decide +kernel
theorem d11_dress_25 : decode prog_1_method_7_code 25 = .ok (.iconst 0, 1) := by decide +kernel
theorem d11_dress_26 : decode prog_1_method_7_code 26 = .ok (.ireturn, 1) := by decide +kernel
theorem d11_dress_27 : decode prog_1_method_7_code 27 = .ok (.aload_n 0, 1) := by decide +kernel
theorem d11_dress_28 : decode prog_1_method_7_code 28 = .ok (.getfield 12, 3) := by decide +kernel
theorem d11_dress_31 : decode prog_1_method_7_code 31 = .ok (.getfield 99, 3) := by decide +kernel
theorem d11_dress_34 : decode prog_1_method_7_code 34 = .ok (.iload_n 1, 1) := by decide +kernel
theorem d11_dress_35 : decode prog_1_method_7_code 35 = .ok (.aaload, 1) := by decide +kernel
theorem d11_dress_36 : decode prog_1_method_7_code 36 = .ok (.aload_n 0, 1) := by decide +kernel
theorem d11_dress_37 : decode prog_1_method_7_code 37 = .ok (.getfield 103, 3) := by decide +kernel
theorem d11_dress_40 : decode prog_1_method_7_code 40 = .ok (.invokevirtual 107, 3) := by decide +kernel
theorem d11_dress_43 : decode prog_1_method_7_code 43 = .ok (.ireturn, 1) := by decide +kernel
theorem d11_flow_0 : decode prog_1_method_8_code 0 = .ok (.aload_n 0, 1) := by decide +kernel
theorem d11_flow_1 : decode prog_1_method_8_code 1 = .ok (.getfield 12, 3) := by decide +kernel
theorem d11_flow_4 : decode prog_1_method_8_code 4 = .ok (.iload_n 1, 1) := by decide +kernel
theorem d11_flow_5 : decode prog_1_method_8_code 5 = .ok (.invokevirtual 112, 3) := by decide +kernel
theorem d11_flow_8 : decode prog_1_method_8_code 8 = .ok (.ifCond .eq 10, 3) := by decide +kernel
theorem d11_flow_11 : decode prog_1_method_8_code 11 = .ok (.iload_n 2, 1) := by decide +kernel
theorem d11_flow_12 : decode prog_1_method_8_code 12 = .ok (.invokestatic 65, 3) := by decide +kernel
theorem d11_flow_15 : decode prog_1_method_8_code 15 = .ok (.ifCond .ne 5, 3) := by decide +kernel
theorem d11_flow_18 : decode prog_1_method_8_code 18 = .ok (.iconst (-1), 1) := by decide +kernel
theorem d11_flow_19 : decode prog_1_method_8_code 19 = .ok (.ireturn, 1) := by decide +kernel
theorem d11_flow_20 : decode prog_1_method_8_code 20 = .ok (.aload_n 0, 1) := by decide +kernel
theorem d11_flow_21 : decode prog_1_method_8_code 21 = .ok (.getfield 12, 3) := by decide +kernel
theorem d11_flow_24 : decode prog_1_method_8_code 24 = .ok (.iload_n 1, 1) := by decide +kernel
theorem d11_flow_25 : decode prog_1_method_8_code 25 = .ok (.aload_n 0, 1) := by decide +kernel
theorem d11_flow_26 : decode prog_1_method_8_code 26 = .ok (.getfield 12, 3) := by decide +kernel
theorem d11_flow_29 : decode prog_1_method_8_code 29 = .ok (.getfield 92, 3) := by decide +kernel
theorem d11_flow_32 : decode prog_1_method_8_code 32 = .ok (.iload_n 2, 1) := by decide +kernel
theorem d11_flow_33 : decode prog_1_method_8_code 33 = .ok (.invokevirtual 115, 3) := by decide +kernel
theorem d11_flow_36 : decode prog_1_method_8_code 36 = .ok (.ireturn, 1) := by decide +kernel
theorem d11_power_0 : decode prog_1_method_9_code 0 = .ok (.aload_n 0, 1) := by decide +kernel
theorem d11_power_1 : decode prog_1_method_9_code 1 = .ok (.getfield 12, 3) := by decide +kernel
theorem d11_power_4 : decode prog_1_method_9_code 4 = .ok (.iload_n 1, 1) := by decide +kernel
theorem d11_power_5 : decode prog_1_method_9_code 5 = .ok (.invokevirtual 112, 3) := by decide +kernel
theorem d11_power_8 : decode prog_1_method_9_code 8 = .ok (.ifCond .eq 10, 3) := by decide +kernel
theorem d11_power_11 : decode prog_1_method_9_code 11 = .ok (.iload_n 2, 1) := by decide +kernel
theorem d11_power_12 : decode prog_1_method_9_code 12 = .ok (.invokestatic 65, 3) := by decide +kernel
theorem d11_power_15 : decode prog_1_method_9_code 15 = .ok (.ifCond .ne 5, 3) := by decide +kernel
theorem d11_power_18 : decode prog_1_method_9_code 18 = .ok (.iconst (-1), 1) := by decide +kernel
theorem d11_power_19 : decode prog_1_method_9_code 19 = .ok (.ireturn, 1) := by decide +kernel
theorem d11_power_20 : decode prog_1_method_9_code 20 = .ok (.aload_n 0, 1) := by decide +kernel
theorem d11_power_21 : decode prog_1_method_9_code 21 = .ok (.getfield 12, 3) := by decide +kernel
theorem d11_power_24 : decode prog_1_method_9_code 24 = .ok (.iload_n 1, 1) := by decide +kernel
theorem d11_power_25 : decode prog_1_method_9_code 25 = .ok (.aload_n 0, 1) := by decide +kernel
theorem d11_power_26 : decode prog_1_method_9_code 26 = .ok (.getfield 12, 3) := by decide +kernel
theorem d11_power_29 : decode prog_1_method_9_code 29 = .ok (.getfield 92, 3) := by decide +kernel
theorem d11_power_32 : decode prog_1_method_9_code 32 = .ok (.iload_n 2, 1) := by decide +kernel
theorem d11_power_33 : decode prog_1_method_9_code 33 = .ok (.invokevirtual 119, 3) := by decide +kernel
theorem d11_power_36 : decode prog_1_method_9_code 36 = .ok (.ireturn, 1) := by decide +kernel
theorem d11_pull_0 : decode prog_1_method_10_code 0 = .ok (.aload_n 0, 1) := by decide +kernel
theorem d11_pull_1 : decode prog_1_method_10_code 1 = .ok (.getfield 12, 3) := by decide +kernel
theorem d11_pull_4 : decode prog_1_method_10_code 4 = .ok (.iload_n 1, 1) := by decide +kernel
theorem d11_pull_5 : decode prog_1_method_10_code 5 = .ok (.invokevirtual 112, 3) := by decide +kernel
theorem d11_pull_8 : decode prog_1_method_10_code 8 = .ok (.ifCond .eq 10, 3) := by decide +kernel
theorem d11_pull_11 : decode prog_1_method_10_code 11 = .ok (.iload_n 2, 1) := by decide +kernel
theorem d11_pull_12 : decode prog_1_method_10_code 12 = .ok (.invokestatic 65, 3) := by decide +kernel
theorem d11_pull_15 : decode prog_1_method_10_code 15 = .ok (.ifCond .ne 5, 3) := by decide +kernel
theorem d11_pull_18 : decode prog_1_method_10_code 18 = .ok (.iconst (-1), 1) := by decide +kernel
theorem d11_pull_19 : decode prog_1_method_10_code 19 = .ok (.ireturn, 1) := by decide +kernel
theorem d11_pull_20 : decode prog_1_method_10_code 20 = .ok (.aload_n 0, 1) := by decide +kernel
theorem d11_pull_21 : decode prog_1_method_10_code 21 = .ok (.getfield 12, 3) := by decide +kernel
theorem d11_pull_24 : decode prog_1_method_10_code 24 = .ok (.iload_n 1, 1) := by decide +kernel
theorem d11_pull_25 : decode prog_1_method_10_code 25 = .ok (.aload_n 0, 1) := by decide +kernel
theorem d11_pull_26 : decode prog_1_method_10_code 26 = .ok (.getfield 12, 3) := by decide +kernel
theorem d11_pull_29 : decode prog_1_method_10_code 29 = .ok (.getfield 92, 3) := by decide +kernel
theorem d11_pull_32 : decode prog_1_method_10_code 32 = .ok (.iload_n 2, 1) := by decide +kernel
theorem d11_pull_33 : decode prog_1_method_10_code 33 = .ok (.iload_n 3, 1) := by decide +kernel
theorem d11_pull_34 : decode prog_1_method_10_code 34 = .ok (.invokevirtual 122, 3) := by decide +kernel
theorem d11_pull_37 : decode prog_1_method_10_code 37 = .ok (.ireturn, 1) := by decide +kernel
theorem d11_loss_0 : decode prog_1_method_11_code 0 = .ok (.iload_n 1, 1) := by decide +kernel
theorem d11_loss_1 : decode prog_1_method_11_code 1 = .ok (.iload_n 2, 1) := by decide +kernel
theorem d11_loss_2 : decode prog_1_method_11_code 2 = .ok (.if_icmp .eq 32, 3) := by decide +kernel
theorem d11_loss_5 : decode prog_1_method_11_code 5 = .ok (.aload_n 0, 1) := by decide +kernel
theorem d11_loss_6 : decode prog_1_method_11_code 6 = .ok (.getfield 12, 3) := by decide +kernel
theorem d11_loss_9 : decode prog_1_method_11_code 9 = .ok (.iload_n 1, 1) := by decide +kernel
theorem d11_loss_10 : decode prog_1_method_11_code 10 = .ok (.invokevirtual 112, 3) := by decide +kernel
theorem d11_loss_13 : decode prog_1_method_11_code 13 = .ok (.ifCond .eq 21, 3) := by decide +kernel
theorem d11_loss_16 : decode prog_1_method_11_code 16 = .ok (.aload_n 0, 1) := by decide +kernel
theorem d11_loss_17 : decode prog_1_method_11_code 17 = .ok (.getfield 12, 3) := by decide +kernel
theorem d11_loss_20 : decode prog_1_method_11_code 20 = .ok (.iload_n 2, 1) := by decide +kernel
theorem d11_loss_21 : decode prog_1_method_11_code 21 = .ok (.invokevirtual 112, 3) := by decide +kernel
theorem d11_loss_24 : decode prog_1_method_11_code 24 = .ok (.ifCond .eq 10, 3) := by decide +kernel
theorem d11_loss_27 : decode prog_1_method_11_code 27 = .ok (.iload_n 3, 1) := by decide +kernel
theorem d11_loss_28 : decode prog_1_method_11_code 28 = .ok (.invokestatic 65, 3) := by decide +kernel
theorem d11_loss_31 : decode prog_1_method_11_code 31 = .ok (.ifCond .ne 5, 3) := by decide +kernel
theorem d11_loss_34 : decode prog_1_method_11_code 34 = .ok (.iconst (-1), 1) := by decide +kernel
theorem d11_loss_35 : decode prog_1_method_11_code 35 = .ok (.ireturn, 1) := by decide +kernel
theorem d11_loss_36 : decode prog_1_method_11_code 36 = .ok (.aload_n 0, 1) := by decide +kernel
theorem d11_loss_37 : decode prog_1_method_11_code 37 = .ok (.getfield 12, 3) := by decide +kernel
theorem d11_loss_40 : decode prog_1_method_11_code 40 = .ok (.iload_n 1, 1) := by decide +kernel
theorem d11_loss_41 : decode prog_1_method_11_code 41 = .ok (.aload_n 0, 1) := by decide +kernel
theorem d11_loss_42 : decode prog_1_method_11_code 42 = .ok (.getfield 12, 3) := by decide +kernel
theorem d11_loss_45 : decode prog_1_method_11_code 45 = .ok (.getfield 92, 3) := by decide +kernel
theorem d11_loss_48 : decode prog_1_method_11_code 48 = .ok (.iload_n 3, 1) := by decide +kernel
theorem d11_loss_49 : decode prog_1_method_11_code 49 = .ok (.invokevirtual 119, 3) := by decide +kernel
theorem d11_loss_52 : decode prog_1_method_11_code 52 = .ok (.istore 4, 2) := by decide +kernel
theorem d11_loss_54 : decode prog_1_method_11_code 54 = .ok (.aload_n 0, 1) := by decide +kernel
theorem d11_loss_55 : decode prog_1_method_11_code 55 = .ok (.getfield 12, 3) := by decide +kernel
theorem d11_loss_58 : decode prog_1_method_11_code 58 = .ok (.iload_n 1, 1) := by decide +kernel
theorem d11_loss_59 : decode prog_1_method_11_code 59 = .ok (.iload_n 2, 1) := by decide +kernel
theorem d11_loss_60 : decode prog_1_method_11_code 60 = .ok (.iload_n 3, 1) := by decide +kernel
theorem d11_loss_61 : decode prog_1_method_11_code 61 = .ok (.invokevirtual 126, 3) := by decide +kernel
theorem d11_loss_64 : decode prog_1_method_11_code 64 = .ok (.iload 4, 2) := by decide +kernel
theorem d11_loss_66 : decode prog_1_method_11_code 66 = .ok (.isub, 1) := by decide +kernel
theorem d11_loss_67 : decode prog_1_method_11_code 67 = .ok (.ireturn, 1) := by decide +kernel
theorem d11_isDay_0 : decode prog_1_method_39_code 0 = .ok (.iload_n 0, 1) := by decide +kernel
theorem d11_isDay_1 : decode prog_1_method_39_code 1 = .ok (.ifCond .lt 14, 3) := by decide +kernel
theorem d11_isDay_4 : decode prog_1_method_39_code 4 = .ok (.iload_n 0, 1) := by decide +kernel
theorem d11_isDay_5 : decode prog_1_method_39_code 5 = .ok (.sipush 999, 3) := by decide +kernel
theorem d11_isDay_8 : decode prog_1_method_39_code 8 = .ok (.if_icmp .gt 7, 3) := by decide +kernel
theorem d11_isDay_11 : decode prog_1_method_39_code 11 = .ok (.iconst 1, 1) := by decide +kernel
theorem d11_isDay_12 : decode prog_1_method_39_code 12 = .ok (.goto 4, 3) := by decide +kernel
theorem d11_isDay_15 : decode prog_1_method_39_code 15 = .ok (.iconst 0, 1) := by decide +kernel
theorem d11_isDay_16 : decode prog_1_method_39_code 16 = .ok (.ireturn, 1) := by decide +kernel
theorem d11_height_0 : decode prog_1_method_12_code 0 = .ok (.iload_n 1, 1) := by decide +kernel
theorem d11_height_1 : decode prog_1_method_12_code 1 = .ok (.invokestatic 129, 3) := by decide +kernel
theorem d11_height_4 : decode prog_1_method_12_code 4 = .ok (.ifCond .eq 33, 3) := by decide +kernel
theorem d11_height_7 : decode prog_1_method_12_code 7 = .ok (.iload_n 2, 1) := by decide +kernel
theorem d11_height_8 : decode prog_1_method_12_code 8 = .ok (.invokestatic 65, 3) := by decide +kernel
theorem d11_height_11 : decode prog_1_method_12_code 11 = .ok (.ifCond .eq 26, 3) := by decide +kernel
theorem d11_height_14 : decode prog_1_method_12_code 14 = .ok (.aload_n 0, 1) := by decide +kernel
theorem d11_height_15 : decode prog_1_method_12_code 15 = .ok (.getfield 21, 3) := by decide +kernel
theorem d11_height_18 : decode prog_1_method_12_code 18 = .ok (.getfield 132, 3) := by decide +kernel
theorem d11_height_21 : decode prog_1_method_12_code 21 = .ok (.iload_n 1, 1) := by decide +kernel
theorem d11_height_22 : decode prog_1_method_12_code 22 = .ok (.iload_n 2, 1) := by decide +kernel
theorem d11_height_23 : decode prog_1_method_12_code 23 = .ok (.aload_n 0, 1) := by decide +kernel
theorem d11_height_24 : decode prog_1_method_12_code 24 = .ok (.getfield 103, 3) := by decide +kernel
theorem d11_height_27 : decode prog_1_method_12_code 27 = .ok (.invokevirtual 136, 3) := by decide +kernel
theorem d11_height_30 : decode prog_1_method_12_code 30 = .ok (.ifCond .eq 7, 3) := by decide +kernel
theorem d11_height_33 : decode prog_1_method_12_code 33 = .ok (.iconst 1, 1) := by decide +kernel
theorem d11_height_34 : decode prog_1_method_12_code 34 = .ok (.goto 4, 3) := by decide +kernel
theorem d11_height_37 : decode prog_1_method_12_code 37 = .ok (.iconst 0, 1) := by decide +kernel
theorem d11_height_38 : decode prog_1_method_12_code 38 = .ok (.ireturn, 1) := by decide +kernel
theorem d11_ice_0 : decode prog_1_method_13_code 0 = .ok (.iload_n 1, 1) := by decide +kernel
theorem d11_ice_1 : decode prog_1_method_13_code 1 = .ok (.invokestatic 129, 3) := by decide +kernel
theorem d11_ice_4 : decode prog_1_method_13_code 4 = .ok (.ifCond .eq 34, 3) := by decide +kernel
theorem d11_ice_7 : decode prog_1_method_13_code 7 = .ok (.aload_n 0, 1) := by decide +kernel
theorem d11_ice_8 : decode prog_1_method_13_code 8 = .ok (.getfield 21, 3) := by decide +kernel
theorem d11_ice_11 : decode prog_1_method_13_code 11 = .ok (.getfield 142, 3) := by decide +kernel
theorem d11_ice_14 : decode prog_1_method_13_code 14 = .ok (.iload_n 1, 1) := by decide +kernel
theorem d11_ice_15 : decode prog_1_method_13_code 15 = .ok (.iload_n 2, 1) := by decide +kernel
theorem d11_ice_16 : decode prog_1_method_13_code 16 = .ok (.ifCond .eq 7, 3) := by decide +kernel
theorem d11_ice_19 : decode prog_1_method_13_code 19 = .ok (.iconst 1, 1) := by decide +kernel
theorem d11_ice_20 : decode prog_1_method_13_code 20 = .ok (.goto 4, 3) := by decide +kernel
theorem d11_ice_23 : decode prog_1_method_13_code 23 = .ok (.iconst 0, 1) := by decide +kernel
theorem d11_ice_24 : decode prog_1_method_13_code 24 = .ok (.aload_n 0, 1) := by decide +kernel
theorem d11_ice_25 : decode prog_1_method_13_code 25 = .ok (.getfield 103, 3) := by decide +kernel
theorem d11_ice_28 : decode prog_1_method_13_code 28 = .ok (.invokevirtual 136, 3) := by decide +kernel
theorem d11_ice_31 : decode prog_1_method_13_code 31 = .ok (.ifCond .eq 7, 3) := by decide +kernel
theorem d11_ice_34 : decode prog_1_method_13_code 34 = .ok (.iconst 1, 1) := by decide +kernel
theorem d11_ice_35 : decode prog_1_method_13_code 35 = .ok (.goto 4, 3) := by decide +kernel
theorem d11_ice_38 : decode prog_1_method_13_code 38 = .ok (.iconst 0, 1) := by decide +kernel
theorem d11_ice_39 : decode prog_1_method_13_code 39 = .ok (.ireturn, 1) := by decide +kernel
theorem d11_isKnownDay_0 : decode prog_1_method_38_code 0 = .ok (.iload_n 1, 1) := by decide +kernel
theorem d11_isKnownDay_1 : decode prog_1_method_38_code 1 = .ok (.ifCond .lt 15, 3) := by decide +kernel
theorem d11_isKnownDay_4 : decode prog_1_method_38_code 4 = .ok (.iload_n 1, 1) := by decide +kernel
theorem d11_isKnownDay_5 : decode prog_1_method_38_code 5 = .ok (.aload_n 0, 1) := by decide +kernel
theorem d11_isKnownDay_6 : decode prog_1_method_38_code 6 = .ok (.getfield 103, 3) := by decide +kernel
theorem d11_isKnownDay_9 : decode prog_1_method_38_code 9 = .ok (.if_icmp .gt 7, 3) := by decide +kernel
theorem d11_isKnownDay_12 : decode prog_1_method_38_code 12 = .ok (.iconst 1, 1) := by decide +kernel
theorem d11_isKnownDay_13 : decode prog_1_method_38_code 13 = .ok (.goto 4, 3) := by decide +kernel
theorem d11_isKnownDay_16 : decode prog_1_method_38_code 16 = .ok (.iconst 0, 1) := by decide +kernel
theorem d11_isKnownDay_17 : decode prog_1_method_38_code 17 = .ok (.ireturn, 1) := by decide +kernel
theorem d11_heightOf_0 : decode prog_1_method_14_code 0 = .ok (.iload_n 1, 1) := by decide +kernel
theorem d11_heightOf_1 : decode prog_1_method_14_code 1 = .ok (.invokestatic 129, 3) := by decide +kernel
theorem d11_heightOf_4 : decode prog_1_method_14_code 4 = .ok (.ifCond .eq 11, 3) := by decide +kernel
theorem d11_heightOf_7 : decode prog_1_method_14_code 7 = .ok (.aload_n 0, 1) := by decide +kernel
theorem d11_heightOf_8 : decode prog_1_method_14_code 8 = .ok (.iload_n 2, 1) := by decide +kernel
theorem d11_heightOf_9 : decode prog_1_method_14_code 9 = .ok (.invokevirtual 145, 3) := by decide +kernel
theorem d11_heightOf_12 : decode prog_1_method_14_code 12 = .ok (.ifCond .ne 5, 3) := by decide +kernel
theorem d11_heightOf_15 : decode prog_1_method_14_code 15 = .ok (.iconst (-1), 1) := by decide +kernel
theorem d11_heightOf_16 : decode prog_1_method_14_code 16 = .ok (.ireturn, 1) := by decide +kernel
theorem d11_heightOf_17 : decode prog_1_method_14_code 17 = .ok (.aload_n 0, 1) := by decide +kernel
theorem d11_heightOf_18 : decode prog_1_method_14_code 18 = .ok (.getfield 21, 3) := by decide +kernel
theorem d11_heightOf_21 : decode prog_1_method_14_code 21 = .ok (.getfield 132, 3) := by decide +kernel
theorem d11_heightOf_24 : decode prog_1_method_14_code 24 = .ok (.iload_n 1, 1) := by decide +kernel
theorem d11_heightOf_25 : decode prog_1_method_14_code 25 = .ok (.iload_n 2, 1) := by decide +kernel
theorem d11_heightOf_26 : decode prog_1_method_14_code 26 = .ok (.iconst 5, 1) := by decide +kernel
theorem d11_heightOf_27 : decode prog_1_method_14_code 27 = .ok (.invokevirtual 148, 3) := by decide +kernel
theorem d11_heightOf_30 : decode prog_1_method_14_code 30 = .ok (.ireturn, 1) := by decide +kernel
theorem d11_iceOf_0 : decode prog_1_method_15_code 0 = .ok (.iload_n 1, 1) := by decide +kernel
theorem d11_iceOf_1 : decode prog_1_method_15_code 1 = .ok (.invokestatic 129, 3) := by decide +kernel
theorem d11_iceOf_4 : decode prog_1_method_15_code 4 = .ok (.ifCond .eq 11, 3) := by decide +kernel
theorem d11_iceOf_7 : decode prog_1_method_15_code 7 = .ok (.aload_n 0, 1) := by decide +kernel
theorem d11_iceOf_8 : decode prog_1_method_15_code 8 = .ok (.iload_n 2, 1) := by decide +kernel
theorem d11_iceOf_9 : decode prog_1_method_15_code 9 = .ok (.invokevirtual 145, 3) := by decide +kernel
theorem d11_iceOf_12 : decode prog_1_method_15_code 12 = .ok (.ifCond .ne 5, 3) := by decide +kernel
theorem d11_iceOf_15 : decode prog_1_method_15_code 15 = .ok (.iconst (-1), 1) := by decide +kernel
theorem d11_iceOf_16 : decode prog_1_method_15_code 16 = .ok (.ireturn, 1) := by decide +kernel
theorem d11_iceOf_17 : decode prog_1_method_15_code 17 = .ok (.aload_n 0, 1) := by decide +kernel
theorem d11_iceOf_18 : decode prog_1_method_15_code 18 = .ok (.getfield 21, 3) := by decide +kernel
theorem d11_iceOf_21 : decode prog_1_method_15_code 21 = .ok (.getfield 142, 3) := by decide +kernel
theorem d11_iceOf_24 : decode prog_1_method_15_code 24 = .ok (.iload_n 1, 1) := by decide +kernel
theorem d11_iceOf_25 : decode prog_1_method_15_code 25 = .ok (.iload_n 2, 1) := by decide +kernel
theorem d11_iceOf_26 : decode prog_1_method_15_code 26 = .ok (.iconst 0, 1) := by decide +kernel
theorem d11_iceOf_27 : decode prog_1_method_15_code 27 = .ok (.invokevirtual 151, 3) := by decide +kernel
theorem d11_iceOf_30 : decode prog_1_method_15_code 30 = .ok (.ireturn, 1) := by decide +kernel
theorem d11_addBytes_0 : decode prog_1_method_37_code 0 = .ok (.bipush 24, 2) := by decide +kernel
theorem d11_addBytes_2 : decode prog_1_method_37_code 2 = .ok (.istore_n 2, 1) := by decide +kernel
theorem d11_addBytes_3 : decode prog_1_method_37_code 3 = .ok (.iload_n 2, 1) := by decide +kernel
theorem d11_addBytes_4 : decode prog_1_method_37_code 4 = .ok (.ifCond .lt 45, 3) := by decide +kernel
theorem d11_addBytes_7 : decode prog_1_method_37_code 7 = .ok (.aload_n 0, 1) := by decide +kernel
theorem d11_addBytes_8 : decode prog_1_method_37_code 8 = .ok (.getfield 154, 3) := by decide +kernel
theorem d11_addBytes_11 : decode prog_1_method_37_code 11 = .ok (.sipush 400, 3) := by decide +kernel
theorem d11_addBytes_14 : decode prog_1_method_37_code 14 = .ok (.if_icmp .ge 35, 3) := by decide +kernel
theorem d11_addBytes_17 : decode prog_1_method_37_code 17 = .ok (.aload_n 0, 1) := by decide +kernel
theorem d11_addBytes_18 : decode prog_1_method_37_code 18 = .ok (.getfield 57, 3) := by decide +kernel
theorem d11_addBytes_21 : decode prog_1_method_37_code 21 = .ok (.aload_n 0, 1) := by decide +kernel
theorem d11_addBytes_22 : decode prog_1_method_37_code 22 = .ok (.getfield 154, 3) := by decide +kernel
theorem d11_addBytes_25 : decode prog_1_method_37_code 25 = .ok (.iload_n 1, 1) := by decide +kernel
theorem d11_addBytes_26 : decode prog_1_method_37_code 26 = .ok (.iload_n 2, 1) := by decide +kernel
theorem d11_addBytes_27 : decode prog_1_method_37_code 27 = .ok (.iushr, 1) := by decide +kernel
theorem d11_addBytes_28 : decode prog_1_method_37_code 28 = .ok (.sipush 255, 3) := by decide +kernel
theorem d11_addBytes_31 : decode prog_1_method_37_code 31 = .ok (.iand, 1) := by decide +kernel
theorem d11_addBytes_32 : decode prog_1_method_37_code 32 = .ok (.iastore, 1) := by decide +kernel
theorem d11_addBytes_33 : decode prog_1_method_37_code 33 = .ok (.aload_n 0, 1) := by decide +kernel
theorem d11_addBytes_34 : decode prog_1_method_37_code 34 = .ok (.dup, 1) := by decide +kernel
theorem d11_addBytes_35 : decode prog_1_method_37_code 35 = .ok (.getfield 154, 3) := by decide +kernel
theorem d11_addBytes_38 : decode prog_1_method_37_code 38 = .ok (.iconst 1, 1) := by decide +kernel
theorem d11_addBytes_39 : decode prog_1_method_37_code 39 = .ok (.iadd, 1) := by decide +kernel
theorem d11_addBytes_40 : decode prog_1_method_37_code 40 = .ok (.putfield 154, 3) := by decide +kernel
theorem d11_addBytes_43 : decode prog_1_method_37_code 43 = .ok (.iinc 2 (-8), 3) := by decide +kernel
theorem d11_addBytes_46 : decode prog_1_method_37_code 46 = .ok (.goto (-43), 3) := by decide +kernel
theorem d11_addBytes_49 : decode prog_1_method_37_code 49 = .ok (.return_, 1) := by decide +kernel
theorem d11_feed_0 : decode prog_1_method_16_code 0 = .ok (.aload_n 0, 1) := by decide +kernel
theorem d11_feed_1 : decode prog_1_method_16_code 1 = .ok (.getfield 154, 3) := by decide +kernel
theorem d11_feed_4 : decode prog_1_method_16_code 4 = .ok (.bipush 20, 2) := by decide +kernel
theorem d11_feed_6 : decode prog_1_method_16_code 6 = .ok (.iadd, 1) := by decide +kernel
theorem d11_feed_7 : decode prog_1_method_16_code 7 = .ok (.sipush 400, 3) := by decide +kernel
theorem d11_feed_10 : decode prog_1_method_16_code 10 = .ok (.if_icmp .le 5, 3) := by decide +kernel
theorem d11_feed_13 : decode prog_1_method_16_code 13 = .ok (.iconst (-1), 1) := by decide +kernel
theorem d11_feed_14 : decode prog_1_method_16_code 14 = .ok (.ireturn, 1) := by decide +kernel
theorem d11_feed_15 : decode prog_1_method_16_code 15 = .ok (.aload_n 0, 1) := by decide +kernel
theorem d11_feed_16 : decode prog_1_method_16_code 16 = .ok (.iload_n 1, 1) := by decide +kernel
theorem d11_feed_17 : decode prog_1_method_16_code 17 = .ok (.invokevirtual 157, 3) := by decide +kernel
theorem d11_feed_20 : decode prog_1_method_16_code 20 = .ok (.aload_n 0, 1) := by decide +kernel
theorem d11_feed_21 : decode prog_1_method_16_code 21 = .ok (.iload_n 2, 1) := by decide +kernel
theorem d11_feed_22 : decode prog_1_method_16_code 22 = .ok (.invokevirtual 157, 3) := by decide +kernel
theorem d11_feed_25 : decode prog_1_method_16_code 25 = .ok (.aload_n 0, 1) := by decide +kernel
theorem d11_feed_26 : decode prog_1_method_16_code 26 = .ok (.iload_n 3, 1) := by decide +kernel
theorem d11_feed_27 : decode prog_1_method_16_code 27 = .ok (.invokevirtual 157, 3) := by decide +kernel
theorem d11_feed_30 : decode prog_1_method_16_code 30 = .ok (.aload_n 0, 1) := by decide +kernel
theorem d11_feed_31 : decode prog_1_method_16_code 31 = .ok (.iload 4, 2) := by decide +kernel
theorem d11_feed_33 : decode prog_1_method_16_code 33 = .ok (.invokevirtual 157, 3) := by decide +kernel
theorem d11_feed_36 : decode prog_1_method_16_code 36 = .ok (.aload_n 0, 1) := by decide +kernel
theorem d11_feed_37 : decode prog_1_method_16_code 37 = .ok (.iload 5, 2) := by decide +kernel
theorem d11_feed_39 : decode prog_1_method_16_code 39 = .ok (.invokevirtual 157, 3) := by decide +kernel
theorem d11_feed_42 : decode prog_1_method_16_code 42 = .ok (.aload_n 0, 1) := by decide +kernel
theorem d11_feed_43 : decode prog_1_method_16_code 43 = .ok (.getfield 154, 3) := by decide +kernel
theorem d11_feed_46 : decode prog_1_method_16_code 46 = .ok (.ireturn, 1) := by decide +kernel
theorem d11_end_0 : decode prog_1_method_17_code 0 = .ok (.iload_n 1, 1) := by decide +kernel
theorem d11_end_1 : decode prog_1_method_17_code 1 = .ok (.ifCond .lt 11, 3) := by decide +kernel
theorem d11_end_4 : decode prog_1_method_17_code 4 = .ok (.iload_n 1, 1) := by decide +kernel
theorem d11_end_5 : decode prog_1_method_17_code 5 = .ok (.aload_n 0, 1) := by decide +kernel
theorem d11_end_6 : decode prog_1_method_17_code 6 = .ok (.getfield 154, 3) := by decide +kernel
theorem d11_end_9 : decode prog_1_method_17_code 9 = .ok (.if_icmp .le 5, 3) := by decide +kernel
theorem d11_end_12 : decode prog_1_method_17_code 12 = .ok (.iconst (-1), 1) := by decide +kernel
theorem d11_end_13 : decode prog_1_method_17_code 13 = .ok (.ireturn, 1) := by decide +kernel
theorem d11_end_14 : decode prog_1_method_17_code 14 = .ok (.aload_n 0, 1) := by decide +kernel
theorem d11_end_15 : decode prog_1_method_17_code 15 = .ok (.iload_n 1, 1) := by decide +kernel
theorem d11_end_16 : decode prog_1_method_17_code 16 = .ok (.putfield 154, 3) := by decide +kernel
theorem d11_end_19 : decode prog_1_method_17_code 19 = .ok (.iload_n 1, 1) := by decide +kernel
theorem d11_end_20 : decode prog_1_method_17_code 20 = .ok (.ireturn, 1) := by decide +kernel
theorem d11_isShore_0 : decode prog_1_method_41_code 0 = .ok (.iload_n 0, 1) := by decide +kernel
theorem d11_isShore_1 : decode prog_1_method_41_code 1 = .ok (.ifCond .lt 12, 3) := by decide +kernel
theorem d11_isShore_4 : decode prog_1_method_41_code 4 = .ok (.iload_n 0, 1) := by decide +kernel
theorem d11_isShore_5 : decode prog_1_method_41_code 5 = .ok (.iconst 2, 1) := by decide +kernel
theorem d11_isShore_6 : decode prog_1_method_41_code 6 = .ok (.if_icmp .ge 7, 3) := by decide +kernel
theorem d11_isShore_9 : decode prog_1_method_41_code 9 = .ok (.iconst 1, 1) := by decide +kernel
theorem d11_isShore_10 : decode prog_1_method_41_code 10 = .ok (.goto 4, 3) := by decide +kernel
theorem d11_isShore_13 : decode prog_1_method_41_code 13 = .ok (.iconst 0, 1) := by decide +kernel
theorem d11_isShore_14 : decode prog_1_method_41_code 14 = .ok (.ireturn, 1) := by decide +kernel
abbrev m9_put : MD := ("MillBoats$Table", ⟨"MillBoats$Table", "put", "(II)Z"⟩, prog_11_method_2_code, 5, (some Jvm.ClassFile.FieldType.boolean))
theorem k9_put : okY m9_put.2.1 2 := ⟨by decide +kernel, by decide +kernel, by decide +kernel⟩
def f9_put_p94 : Nat → St → Nat → Int32 → Int32 → Int32 → Int32 → Option (Int32 × St)
  | 0, _, _, _, _, _, _ => none
  | n + 1, σ, v0, v1, v2, v3, v4 =>
  (if v4 ≤ v3 then
  gd (ob σ v0 9) (
  lt (sR σ v0 0) fun b36 => (
  gd (nz b36) (
  gd (ob σ b36 14) (
  gd (inb σ b36 v3) (
  lt (wI σ b36 (ix v3) v1) fun t41 => (
  lt (sR t41 v0 1) fun b43 => (
  gd (nz b43) (
  gd (ob t41 b43 14) (
  gd (inb t41 b43 v3) (
  lt (wI t41 b43 (ix v3) v2) fun t48 => (
  lt (wI t48 v0 2 ((sI t48 v0 2) + (1 : Int32))) fun t50 => (
  some ((1 : Int32), t50)))))))))))))
  else
  gd (ob σ v0 9) (
  lt (sR σ v0 0) fun b53 => (
  gd (nz b53) (
  gd (ob σ b53 14) (
  gd (inb σ b53 (v4 - (1 : Int32))) (
  gd (inb σ b53 v4) (
  lt (wI σ b53 (ix v4) (sI σ b53 (ix (v4 - (1 : Int32))))) fun t59 => (
  lt (sR t59 v0 1) fun b61 => (
  gd (nz b61) (
  gd (ob t59 b61 14) (
  gd (inb t59 b61 (v4 - (1 : Int32))) (
  gd (inb t59 b61 v4) (
  lt (wI t59 b61 (ix v4) (sI t59 b61 (ix (v4 - (1 : Int32))))) fun t67 => (
  lt (v4 + (-1 : Int32)) fun y69 => (
  (f9_put_p94 n) t67 v0 v1 v2 v3 y69)))))))))))))))
set_option maxRecDepth 20000 in
theorem s9_put_p94 : ∀ (n : Nat) (σ : St) (v0 : Nat) (v1 : Int32) (v2 : Int32) (v3 : Int32) (v4 : Int32) (r : Int32) (τ : St), f9_put_p94 n σ v0 v1 v2 v3 v4 = some (r, τ) → Ev 2 m9_put 94 [(0, .ref v0), (1, .int v1), (2, .int v2), (3, .int v3), (4, .int v4)] [] σ (some (.int r)) τ := by
  intro n
  induction n with
  | zero =>
    intro σ v0 v1 v2 v3 v4 r τ hf
    cases hf
  | succ n ih =>
    intro σ v0 v1 v2 v3 v4 r τ hf
    rw [f9_put_p94] at hf
    refine ev_iload (i := 4) (q := 4) rfl d9_put_94 ?_
    refine ev_iload_n (j := 3) (i := 3) (q := 3) rfl rfl d9_put_96 ?_
    rcases ite_some hf with ⟨c34, hf⟩ | ⟨c34, hf⟩
    · refine ev_icmp_le_P (tgt := 138) c34 (by decide) d9_put_97 ?_
      refine ev_aload_n (j := 0) (i := 0) (q := 0) rfl rfl d9_put_138 ?_
      obtain ⟨h35, hf⟩ := gd_some hf
      obtain ⟨b36, e37, hf⟩ := lt_some hf
      obtain ⟨h38, hf⟩ := gd_some hf
      refine ev_getRb cls9 (j := 0) (by decide) rfl w49 h35 e37 (nz_ne h38) d9_put_139 ?_
      refine ev_iload_n (j := 3) (i := 3) (q := 3) rfl rfl d9_put_142 ?_
      refine ev_iload_n (j := 1) (i := 1) (q := 1) rfl rfl d9_put_143 ?_
      obtain ⟨h39, hf⟩ := gd_some hf
      obtain ⟨h40, hf⟩ := gd_some hf
      obtain ⟨t41, e42, hf⟩ := lt_some hf
      refine ev_iast h39 h40 d9_put_144 (ev_nmS e42 ?_)
      refine ev_aload_n (j := 0) (i := 0) (q := 0) rfl rfl d9_put_145 ?_
      obtain ⟨b43, e44, hf⟩ := lt_some hf
      obtain ⟨h45, hf⟩ := gd_some hf
      refine ev_getRb cls9 (j := 1) (by decide) rfl w50 (mono_ob (mono_eI e42) h35) e44 (nz_ne h45) d9_put_146 ?_
      refine ev_iload_n (j := 3) (i := 3) (q := 3) rfl rfl d9_put_149 ?_
      refine ev_iload_n (j := 2) (i := 2) (q := 2) rfl rfl d9_put_150 ?_
      obtain ⟨h46, hf⟩ := gd_some hf
      obtain ⟨h47, hf⟩ := gd_some hf
      obtain ⟨t48, e49, hf⟩ := lt_some hf
      refine ev_iast h46 h47 d9_put_151 (ev_nmS e49 ?_)
      refine ev_aload_n (j := 0) (i := 0) (q := 0) rfl rfl d9_put_152 ?_
      refine ev_dup rfl d9_put_153 ?_
      refine ev_getI cls9 (j := 2) (by decide) rfl w51 (mono_ob (mono_eI e49) (mono_ob (mono_eI e42) h35)) d9_put_154 ?_
      refine ev_iconst ci_1 d9_put_157 ?_
      refine ev_iadd d9_put_158 ?_
      obtain ⟨t50, e51, hf⟩ := lt_some hf
      refine ev_putI cls9 (j := 2) (by decide) rfl rfl w51 (mono_ob (mono_eI e49) (mono_ob (mono_eI e42) h35)) (fun _ => ⟨rfl, rfl⟩) d9_put_159 (ev_nmS e51 ?_)
      refine ev_iconst ci_1 d9_put_162 ?_
      obtain ⟨rfl, rfl⟩ := ret_some hf
      exact ev_zret rfl (by decide) d9_put_163
    · refine ev_icmp_le_Q (tgt := 138) c34 (by decide) d9_put_97 ?_
      refine ev_aload_n (j := 0) (i := 0) (q := 0) rfl rfl d9_put_100 ?_
      obtain ⟨h52, hf⟩ := gd_some hf
      obtain ⟨b53, e54, hf⟩ := lt_some hf
      obtain ⟨h55, hf⟩ := gd_some hf
      refine ev_getRb cls9 (j := 0) (by decide) rfl w49 h52 e54 (nz_ne h55) d9_put_101 ?_
      refine ev_iload (i := 4) (q := 4) rfl d9_put_104 ?_
      refine ev_aload_n (j := 0) (i := 0) (q := 0) rfl rfl d9_put_106 ?_
      refine ev_getRb cls9 (j := 0) (by decide) rfl w49 h52 e54 (nz_ne h55) d9_put_107 ?_
      refine ev_iload (i := 4) (q := 4) rfl d9_put_110 ?_
      refine ev_iconst ci_1 d9_put_112 ?_
      refine ev_isub d9_put_113 ?_
      obtain ⟨h56, hf⟩ := gd_some hf
      obtain ⟨h57, hf⟩ := gd_some hf
      refine ev_iald h56 h57 d9_put_114 ?_
      obtain ⟨h58, hf⟩ := gd_some hf
      obtain ⟨t59, e60, hf⟩ := lt_some hf
      refine ev_iast h56 h58 d9_put_115 (ev_nmS e60 ?_)
      refine ev_aload_n (j := 0) (i := 0) (q := 0) rfl rfl d9_put_116 ?_
      obtain ⟨b61, e62, hf⟩ := lt_some hf
      obtain ⟨h63, hf⟩ := gd_some hf
      refine ev_getRb cls9 (j := 1) (by decide) rfl w50 (mono_ob (mono_eI e60) h52) e62 (nz_ne h63) d9_put_117 ?_
      refine ev_iload (i := 4) (q := 4) rfl d9_put_120 ?_
      refine ev_aload_n (j := 0) (i := 0) (q := 0) rfl rfl d9_put_122 ?_
      refine ev_getRb cls9 (j := 1) (by decide) rfl w50 (mono_ob (mono_eI e60) h52) e62 (nz_ne h63) d9_put_123 ?_
      refine ev_iload (i := 4) (q := 4) rfl d9_put_126 ?_
      refine ev_iconst ci_1 d9_put_128 ?_
      refine ev_isub d9_put_129 ?_
      obtain ⟨h64, hf⟩ := gd_some hf
      obtain ⟨h65, hf⟩ := gd_some hf
      refine ev_iald h64 h65 d9_put_130 ?_
      obtain ⟨h66, hf⟩ := gd_some hf
      obtain ⟨t67, e68, hf⟩ := lt_some hf
      refine ev_iast h64 h66 d9_put_131 (ev_nmS e68 ?_)
      obtain ⟨y69, e70, hf⟩ := lt_some hf
      refine ev_iinc (lv2 := [(4, .int y69), (0, .ref v0), (1, .int v1), (2, .int v2), (3, .int v3)]) (i := 4) (q := 4) (v := y69) (n := -1) rfl (by rw [ci_m1]; exact e70.symm) (by decide) rfl d9_put_132 ?_
      refine ev_goto (tgt := 94) (by decide) d9_put_135 ?_
      exact Ev.sub [1, 2, 3, 4, 0] rfl (ih _ _ _ _ _ _ _ _ hf)
def f9_put_p77 (σ : St) (v0 : Nat) (v1 : Int32) (v2 : Int32) (v3 : Int32) : Option (Int32 × St) :=
  gd (ob σ v0 9) (
  (if (sI σ v0 2) < (8 : Int32) then
  lt (sI σ v0 2) fun y32 => (
  f9_put_p94 FU σ v0 v1 v2 v3 y32)
  else
  some ((0 : Int32), σ)))
set_option maxRecDepth 20000 in
theorem s9_put_p77 : ∀ (σ : St) (v0 : Nat) (v1 : Int32) (v2 : Int32) (v3 : Int32) (r : Int32) (τ : St), f9_put_p77 σ v0 v1 v2 v3 = some (r, τ) → Ev 2 m9_put 77 [(0, .ref v0), (1, .int v1), (2, .int v2), (3, .int v3)] [] σ (some (.int r)) τ := by
  intro σ v0 v1 v2 v3 r τ hf
  unfold f9_put_p77 at hf
  refine ev_aload_n (j := 0) (i := 0) (q := 0) rfl rfl d9_put_77 ?_
  obtain ⟨h30, hf⟩ := gd_some hf
  refine ev_getI cls9 (j := 2) (by decide) rfl w51 h30 d9_put_78 ?_
  refine ev_bipush cb_8 d9_put_81 ?_
  rcases ite_some hf with ⟨c31, hf⟩ | ⟨c31, hf⟩
  · refine ev_icmp_lt_P (tgt := 88) c31 (by decide) d9_put_83 ?_
    refine ev_aload_n (j := 0) (i := 0) (q := 0) rfl rfl d9_put_88 ?_
    refine ev_getI cls9 (j := 2) (by decide) rfl w51 h30 d9_put_89 ?_
    obtain ⟨y32, e33, hf⟩ := lt_some hf
    refine ev_nmI e33 ?_
    refine ev_istore (lv2 := [(4, .int y32), (0, .ref v0), (1, .int v1), (2, .int v2), (3, .int v3)]) (i := 4) (by decide) rfl d9_put_92 ?_
    exact Ev.sub [1, 2, 3, 4, 0] rfl (s9_put_p94 FU _ _ _ _ _ _ _ _ hf)
  · refine ev_icmp_lt_Q (tgt := 88) c31 (by decide) d9_put_83 ?_
    refine ev_iconst ci_0 d9_put_86 ?_
    obtain ⟨rfl, rfl⟩ := ret_some hf
    exact ev_zret rfl (by decide) d9_put_87
def f9_put_p50 (σ : St) (v0 : Nat) (v1 : Int32) (v2 : Int32) (v3 : Int32) : Option (Int32 × St) :=
  gd (ob σ v0 9) (
  (if v3 < (sI σ v0 2) then
  lt (sR σ v0 0) fun b17 => (
  gd (nz b17) (
  gd (ob σ b17 14) (
  gd (inb σ b17 v3) (
  (if (sI σ b17 (ix v3)) = v1 then
  lt (sR σ v0 1) fun b23 => (
  gd (nz b23) (
  gd (ob σ b23 14) (
  gd (inb σ b23 v3) (
  lt (wI σ b23 (ix v3) v2) fun t28 => (
  some ((1 : Int32), t28))))))
  else
  f9_put_p77 σ v0 v1 v2 v3)))))
  else
  f9_put_p77 σ v0 v1 v2 v3))
set_option maxRecDepth 20000 in
theorem s9_put_p50 : ∀ (σ : St) (v0 : Nat) (v1 : Int32) (v2 : Int32) (v3 : Int32) (r : Int32) (τ : St), f9_put_p50 σ v0 v1 v2 v3 = some (r, τ) → Ev 2 m9_put 50 [(0, .ref v0), (1, .int v1), (2, .int v2), (3, .int v3)] [] σ (some (.int r)) τ := by
  intro σ v0 v1 v2 v3 r τ hf
  unfold f9_put_p50 at hf
  refine ev_iload_n (j := 3) (i := 3) (q := 3) rfl rfl d9_put_50 ?_
  refine ev_aload_n (j := 0) (i := 0) (q := 0) rfl rfl d9_put_51 ?_
  obtain ⟨h15, hf⟩ := gd_some hf
  refine ev_getI cls9 (j := 2) (by decide) rfl w51 h15 d9_put_52 ?_
  rcases ite_some hf with ⟨c16, hf⟩ | ⟨c16, hf⟩
  · refine ev_icmp_ge_P (tgt := 77) c16 (by decide) d9_put_55 ?_
    refine ev_aload_n (j := 0) (i := 0) (q := 0) rfl rfl d9_put_58 ?_
    obtain ⟨b17, e18, hf⟩ := lt_some hf
    obtain ⟨h19, hf⟩ := gd_some hf
    refine ev_getRb cls9 (j := 0) (by decide) rfl w49 h15 e18 (nz_ne h19) d9_put_59 ?_
    refine ev_iload_n (j := 3) (i := 3) (q := 3) rfl rfl d9_put_62 ?_
    obtain ⟨h20, hf⟩ := gd_some hf
    obtain ⟨h21, hf⟩ := gd_some hf
    refine ev_iald h20 h21 d9_put_63 ?_
    refine ev_iload_n (j := 1) (i := 1) (q := 1) rfl rfl d9_put_64 ?_
    rcases ite_some hf with ⟨c22, hf⟩ | ⟨c22, hf⟩
    · refine ev_icmp_ne_P (tgt := 77) c22 (by decide) d9_put_65 ?_
      refine ev_aload_n (j := 0) (i := 0) (q := 0) rfl rfl d9_put_68 ?_
      obtain ⟨b23, e24, hf⟩ := lt_some hf
      obtain ⟨h25, hf⟩ := gd_some hf
      refine ev_getRb cls9 (j := 1) (by decide) rfl w50 h15 e24 (nz_ne h25) d9_put_69 ?_
      refine ev_iload_n (j := 3) (i := 3) (q := 3) rfl rfl d9_put_72 ?_
      refine ev_iload_n (j := 2) (i := 2) (q := 2) rfl rfl d9_put_73 ?_
      obtain ⟨h26, hf⟩ := gd_some hf
      obtain ⟨h27, hf⟩ := gd_some hf
      obtain ⟨t28, e29, hf⟩ := lt_some hf
      refine ev_iast h26 h27 d9_put_74 (ev_nmS e29 ?_)
      refine ev_iconst ci_1 d9_put_75 ?_
      obtain ⟨rfl, rfl⟩ := ret_some hf
      exact ev_zret rfl (by decide) d9_put_76
    · refine ev_icmp_ne_Q (tgt := 77) c22 (by decide) d9_put_65 ?_
      exact Ev.sub [0, 1, 2, 3] rfl (s9_put_p77 _ _ _ _ _ _ _ hf)
  · refine ev_icmp_ge_Q (tgt := 77) c16 (by decide) d9_put_55 ?_
    exact Ev.sub [0, 1, 2, 3] rfl (s9_put_p77 _ _ _ _ _ _ _ hf)
def f9_put_p26 : Nat → St → Nat → Int32 → Int32 → Int32 → Option (Int32 × St)
  | 0, _, _, _, _, _ => none
  | n + 1, σ, v0, v1, v2, v3 =>
  gd (ob σ v0 9) (
  (if v3 < (sI σ v0 2) then
  lt (sR σ v0 0) fun b7 => (
  gd (nz b7) (
  gd (ob σ b7 14) (
  gd (inb σ b7 v3) (
  (if (sI σ b7 (ix v3)) < v1 then
  lt (v3 + (1 : Int32)) fun y13 => (
  (f9_put_p26 n) σ v0 v1 v2 y13)
  else
  f9_put_p50 σ v0 v1 v2 v3)))))
  else
  f9_put_p50 σ v0 v1 v2 v3))
set_option maxRecDepth 20000 in
theorem s9_put_p26 : ∀ (n : Nat) (σ : St) (v0 : Nat) (v1 : Int32) (v2 : Int32) (v3 : Int32) (r : Int32) (τ : St), f9_put_p26 n σ v0 v1 v2 v3 = some (r, τ) → Ev 2 m9_put 26 [(0, .ref v0), (1, .int v1), (2, .int v2), (3, .int v3)] [] σ (some (.int r)) τ := by
  intro n
  induction n with
  | zero =>
    intro σ v0 v1 v2 v3 r τ hf
    cases hf
  | succ n ih =>
    intro σ v0 v1 v2 v3 r τ hf
    rw [f9_put_p26] at hf
    refine ev_iload_n (j := 3) (i := 3) (q := 3) rfl rfl d9_put_26 ?_
    refine ev_aload_n (j := 0) (i := 0) (q := 0) rfl rfl d9_put_27 ?_
    obtain ⟨h5, hf⟩ := gd_some hf
    refine ev_getI cls9 (j := 2) (by decide) rfl w51 h5 d9_put_28 ?_
    rcases ite_some hf with ⟨c6, hf⟩ | ⟨c6, hf⟩
    · refine ev_icmp_ge_P (tgt := 50) c6 (by decide) d9_put_31 ?_
      refine ev_aload_n (j := 0) (i := 0) (q := 0) rfl rfl d9_put_34 ?_
      obtain ⟨b7, e8, hf⟩ := lt_some hf
      obtain ⟨h9, hf⟩ := gd_some hf
      refine ev_getRb cls9 (j := 0) (by decide) rfl w49 h5 e8 (nz_ne h9) d9_put_35 ?_
      refine ev_iload_n (j := 3) (i := 3) (q := 3) rfl rfl d9_put_38 ?_
      obtain ⟨h10, hf⟩ := gd_some hf
      obtain ⟨h11, hf⟩ := gd_some hf
      refine ev_iald h10 h11 d9_put_39 ?_
      refine ev_iload_n (j := 1) (i := 1) (q := 1) rfl rfl d9_put_40 ?_
      rcases ite_some hf with ⟨c12, hf⟩ | ⟨c12, hf⟩
      · refine ev_icmp_ge_P (tgt := 50) c12 (by decide) d9_put_41 ?_
        obtain ⟨y13, e14, hf⟩ := lt_some hf
        refine ev_iinc (lv2 := [(3, .int y13), (0, .ref v0), (1, .int v1), (2, .int v2)]) (i := 3) (q := 3) (v := y13) (n := 1) rfl (by rw [ci_1]; exact e14.symm) (by decide) rfl d9_put_44 ?_
        refine ev_goto (tgt := 26) (by decide) d9_put_47 ?_
        exact Ev.sub [1, 2, 3, 0] rfl (ih _ _ _ _ _ _ _ hf)
      · refine ev_icmp_ge_Q (tgt := 50) c12 (by decide) d9_put_41 ?_
        exact Ev.sub [0, 1, 2, 3] rfl (s9_put_p50 _ _ _ _ _ _ _ hf)
    · refine ev_icmp_ge_Q (tgt := 50) c6 (by decide) d9_put_31 ?_
      exact Ev.sub [0, 1, 2, 3] rfl (s9_put_p50 _ _ _ _ _ _ _ hf)
def f9_put (σ : St) (v0 : Nat) (v1 : Int32) (v2 : Int32) : Option (Int32 × St) :=
  (if v1 < (0 : Int32) then
  some ((0 : Int32), σ)
  else
  (if v1 ≤ (400 : Int32) then
  (if v2 < (0 : Int32) then
  some ((0 : Int32), σ)
  else
  (if v2 ≤ (400 : Int32) then
  f9_put_p26 FU σ v0 v1 v2 (0 : Int32)
  else
  some ((0 : Int32), σ)))
  else
  some ((0 : Int32), σ)))
set_option maxRecDepth 50000 in
theorem s9_put : ∀ (σ : St) (v0 : Nat) (v1 : Int32) (v2 : Int32) (r : Int32) (τ : St), f9_put σ v0 v1 v2 = some (r, τ) → Call 2 m9_put [.ref v0, .int v1, .int v2] σ (some (.int r)) τ := by
  intro σ v0 v1 v2 r τ hf
  unfold f9_put at hf
  refine Call.of (by decide +kernel) rfl (Nat.le_of_ble_eq_true rfl) ?_
  refine ev_iload_n (j := 1) (i := 1) (q := 1) rfl rfl d9_put_0 ?_
  rcases ite_some hf with ⟨c1, hf⟩ | ⟨c1, hf⟩
  · refine ev_if_lt_P (tgt := 22) c1 (by decide) d9_put_1 ?_
    refine ev_iconst ci_0 d9_put_22 ?_
    obtain ⟨rfl, rfl⟩ := ret_some hf
    exact ev_zret rfl (by decide) d9_put_23
  · refine ev_if_lt_Q (tgt := 22) c1 (by decide) d9_put_1 ?_
    refine ev_iload_n (j := 1) (i := 1) (q := 1) rfl rfl d9_put_4 ?_
    refine ev_sipush cs_400 d9_put_5 ?_
    rcases ite_some hf with ⟨c2, hf⟩ | ⟨c2, hf⟩
    · refine ev_icmp_gt_P (tgt := 22) c2 (by decide) d9_put_8 ?_
      refine ev_iload_n (j := 2) (i := 2) (q := 2) rfl rfl d9_put_11 ?_
      rcases ite_some hf with ⟨c3, hf⟩ | ⟨c3, hf⟩
      · refine ev_if_lt_P (tgt := 22) c3 (by decide) d9_put_12 ?_
        refine ev_iconst ci_0 d9_put_22 ?_
        obtain ⟨rfl, rfl⟩ := ret_some hf
        exact ev_zret rfl (by decide) d9_put_23
      · refine ev_if_lt_Q (tgt := 22) c3 (by decide) d9_put_12 ?_
        refine ev_iload_n (j := 2) (i := 2) (q := 2) rfl rfl d9_put_15 ?_
        refine ev_sipush cs_400 d9_put_16 ?_
        rcases ite_some hf with ⟨c4, hf⟩ | ⟨c4, hf⟩
        · refine ev_icmp_le_P (tgt := 24) c4 (by decide) d9_put_19 ?_
          refine ev_iconst ci_0 d9_put_24 ?_
          refine ev_istore_n (lv2 := [(3, .int (0 : Int32)), (0, .ref v0), (1, .int v1), (2, .int v2)]) (j := 3) (i := 3) rfl (by decide) rfl d9_put_25 ?_
          exact Ev.sub [1, 2, 3, 0] rfl (s9_put_p26 FU _ _ _ _ _ _ _ hf)
        · refine ev_icmp_le_Q (tgt := 24) c4 (by decide) d9_put_19 ?_
          refine ev_iconst ci_0 d9_put_22 ?_
          obtain ⟨rfl, rfl⟩ := ret_some hf
          exact ev_zret rfl (by decide) d9_put_23
    · refine ev_icmp_gt_Q (tgt := 22) c2 (by decide) d9_put_8 ?_
      refine ev_iconst ci_0 d9_put_22 ?_
      obtain ⟨rfl, rfl⟩ := ret_some hf
      exact ev_zret rfl (by decide) d9_put_23
abbrev m11_init : MD := ("MillBoats", ⟨"MillBoats", "<init>", "()V"⟩, prog_1_method_1_code, 1, (none : Option Jvm.ClassFile.FieldType))
theorem k11_init : okY m11_init.2.1 0 := ⟨by decide +kernel, by decide +kernel, by decide +kernel⟩
def f11_init (σ : St) (v0 : Nat) : Option (Unit × St) :=
  lt (sN σ + 1) fun b1 => (
  lt (wN σ 8 6) fun t3 => (
  bd (f8_init t3 b1) fun r5 t6 => (
  gd (ob t6 v0 11) (
  lt (wR t6 v0 0 b1) fun t10 => (
  lt (sN t10 + 1) fun b12 => (
  lt (wN t10 4 8) fun t14 => (
  lt (sR t14 v0 0) fun b16 => (
  gd (nz b16) (
  bd (f4_init t14 b12 b16) fun r19 t20 => (
  lt (wR t20 v0 1 b12) fun t23 => (
  lt (sN t23 + 1) fun b25 => (
  lt (wN t23 2 6) fun t27 => (
  lt (sR t27 v0 0) fun b29 => (
  gd (nz b29) (
  bd (f2_init t27 b25 b29) fun r32 t33 => (
  lt (wR t33 v0 2 b25) fun t36 => (
  lt (sN t36 + 1) fun b38 => (
  lt (wN t36 3 10) fun t40 => (
  lt (sR t40 v0 0) fun b42 => (
  gd (nz b42) (
  lt (sR t40 v0 1) fun b45 => (
  gd (nz b45) (
  bd (f3_init t40 b38 b42 b45) fun r48 t49 => (
  lt (wR t49 v0 3 b38) fun t52 => (
  lt (sN t52 + 1) fun b54 => (
  lt (wN t52 6 16) fun t56 => (
  lt (sR t56 v0 0) fun b58 => (
  gd (nz b58) (
  lt (sR t56 v0 1) fun b61 => (
  gd (nz b61) (
  bd (f6_init t56 b54 b58 b61) fun r64 t65 => (
  lt (wR t65 v0 4 b54) fun t68 => (
  lt (sN t68 + 1) fun b70 => (
  lt (wN t68 5 10) fun t72 => (
  lt (sR t72 v0 0) fun b74 => (
  gd (nz b74) (
  lt (sR t72 v0 4) fun b77 => (
  gd (nz b77) (
  bd (f5_init t72 b70 b74 b77) fun r80 t81 => (
  lt (wR t81 v0 5 b70) fun t84 => (
  lt (sN t84 + 1) fun b86 => (
  gd (szOk (400 : Int32)) (
  lt (wN t84 14 (ix (400 : Int32))) fun t89 => (
  lt (wR t89 v0 6 b86) fun t91 => (
  some ((), t91))))))))))))))))))))))))))))))))))))))))))))))
set_option maxRecDepth 50000 in
theorem s11_init : ∀ (σ : St) (v0 : Nat) (r : Unit) (τ : St), f11_init σ v0 = some (r, τ) → Call 11 m11_init [.ref v0] σ none τ := by
  intro σ v0 r τ hf
  unfold f11_init at hf
  refine Call.of (by decide +kernel) rfl (Nat.le_of_ble_eq_true rfl) ?_
  refine ev_aload_n (j := 0) (i := 0) (q := 0) rfl rfl d11_init_0 ?_
  refine ev_objInit w31 w32 w33 (by decide) (Nat.le_of_ble_eq_true rfl) d11_init_1 ?_
  refine ev_aload_n (j := 0) (i := 0) (q := 0) rfl rfl d11_init_4 ?_
  obtain ⟨b1, e2, hf⟩ := lt_some hf
  obtain ⟨t3, e4, hf⟩ := lt_some hf
  refine ev_new cls8 (by decide) w34 w35 w2 d11_init_5 (ev_nmR e2 (ev_nmS e4 ?_))
  refine ev_dup rfl d11_init_8 ?_
  obtain ⟨r5, t6, k7, hf⟩ := bd_some hf
  have q8 := s8_init _ _ _ _ k7
  refine ev_callI (vs := []) (sk := [.ref b1, .ref v0]) q8 (by decide) (Nat.le_of_ble_eq_true rfl) w36 w37 rfl w2 w38 rfl k8_init rfl (Nat.le_of_ble_eq_true rfl) d11_init_9 ?_
  obtain ⟨h9, hf⟩ := gd_some hf
  obtain ⟨t10, e11, hf⟩ := lt_some hf
  refine ev_putRF cls11 (j := 0) (by decide) rfl (ne_new e2) rfl w507 rfl rfl h9 (fun _ => ⟨rfl, rfl⟩) d11_init_12 (ev_nmS e11 ?_)
  refine ev_aload_n (j := 0) (i := 0) (q := 0) rfl rfl d11_init_15 ?_
  obtain ⟨b12, e13, hf⟩ := lt_some hf
  obtain ⟨t14, e15, hf⟩ := lt_some hf
  refine ev_new cls4 (by decide) w139 w140 w6 d11_init_16 (ev_nmR e13 (ev_nmS e15 ?_))
  refine ev_dup rfl d11_init_19 ?_
  refine ev_aload_n (j := 0) (i := 0) (q := 0) rfl rfl d11_init_20 ?_
  obtain ⟨b16, e17, hf⟩ := lt_some hf
  obtain ⟨h18, hf⟩ := gd_some hf
  refine ev_getRb cls11 (j := 0) (by decide) rfl w507 (mono_ob (mono_eN e15) (mono_ob (mono_eR e11) h9)) e17 (nz_ne h18) d11_init_21 ?_
  obtain ⟨r19, t20, k21, hf⟩ := bd_some hf
  have q22 := s4_init _ _ _ _ _ k21
  refine ev_callI (vs := [.ref b16]) (sk := [.ref b12, .ref v0]) q22 (by decide) (Nat.le_of_ble_eq_true rfl) w141 w142 rfl w6 w143 rfl k4_init rfl (Nat.le_of_ble_eq_true rfl) d11_init_24 ?_
  obtain ⟨t23, e24, hf⟩ := lt_some hf
  refine ev_putRF cls11 (j := 1) (by decide) rfl (ne_new e13) rfl w508 rfl rfl (mono_ob q22.1 (mono_ob (mono_eN e15) (mono_ob (mono_eR e11) h9))) (fun _ => ⟨rfl, rfl⟩) d11_init_27 (ev_nmS e24 ?_)
  refine ev_aload_n (j := 0) (i := 0) (q := 0) rfl rfl d11_init_30 ?_
  obtain ⟨b25, e26, hf⟩ := lt_some hf
  obtain ⟨t27, e28, hf⟩ := lt_some hf
  refine ev_new cls2 (by decide) w344 w345 w15 d11_init_31 (ev_nmR e26 (ev_nmS e28 ?_))
  refine ev_dup rfl d11_init_34 ?_
  refine ev_aload_n (j := 0) (i := 0) (q := 0) rfl rfl d11_init_35 ?_
  obtain ⟨b29, e30, hf⟩ := lt_some hf
  obtain ⟨h31, hf⟩ := gd_some hf
  refine ev_getRb cls11 (j := 0) (by decide) rfl w507 (mono_ob (mono_eN e28) (mono_ob (mono_eR e24) (mono_ob q22.1 (mono_ob (mono_eN e15) (mono_ob (mono_eR e11) h9))))) e30 (nz_ne h31) d11_init_36 ?_
  obtain ⟨r32, t33, k34, hf⟩ := bd_some hf
  have q35 := s2_init _ _ _ _ _ k34
  refine ev_callI (vs := [.ref b29]) (sk := [.ref b25, .ref v0]) q35 (by decide) (Nat.le_of_ble_eq_true rfl) w346 w347 rfl w15 w348 rfl k2_init rfl (Nat.le_of_ble_eq_true rfl) d11_init_39 ?_
  obtain ⟨t36, e37, hf⟩ := lt_some hf
  refine ev_putRF cls11 (j := 2) (by decide) rfl (ne_new e26) rfl w509 rfl rfl (mono_ob q35.1 (mono_ob (mono_eN e28) (mono_ob (mono_eR e24) (mono_ob q22.1 (mono_ob (mono_eN e15) (mono_ob (mono_eR e11) h9)))))) (fun _ => ⟨rfl, rfl⟩) d11_init_42 (ev_nmS e37 ?_)
  refine ev_aload_n (j := 0) (i := 0) (q := 0) rfl rfl d11_init_45 ?_
  obtain ⟨b38, e39, hf⟩ := lt_some hf
  obtain ⟨t40, e41, hf⟩ := lt_some hf
  refine ev_new cls3 (by decide) w370 w371 w16 d11_init_46 (ev_nmR e39 (ev_nmS e41 ?_))
  refine ev_dup rfl d11_init_49 ?_
  refine ev_aload_n (j := 0) (i := 0) (q := 0) rfl rfl d11_init_50 ?_
  obtain ⟨b42, e43, hf⟩ := lt_some hf
  obtain ⟨h44, hf⟩ := gd_some hf
  refine ev_getRb cls11 (j := 0) (by decide) rfl w507 (mono_ob (mono_eN e41) (mono_ob (mono_eR e37) (mono_ob q35.1 (mono_ob (mono_eN e28) (mono_ob (mono_eR e24) (mono_ob q22.1 (mono_ob (mono_eN e15) (mono_ob (mono_eR e11) h9)))))))) e43 (nz_ne h44) d11_init_51 ?_
  refine ev_aload_n (j := 0) (i := 0) (q := 0) rfl rfl d11_init_54 ?_
  obtain ⟨b45, e46, hf⟩ := lt_some hf
  obtain ⟨h47, hf⟩ := gd_some hf
  refine ev_getRb cls11 (j := 1) (by decide) rfl w508 (mono_ob (mono_eN e41) (mono_ob (mono_eR e37) (mono_ob q35.1 (mono_ob (mono_eN e28) (mono_ob (mono_eR e24) (mono_ob q22.1 (mono_ob (mono_eN e15) (mono_ob (mono_eR e11) h9)))))))) e46 (nz_ne h47) d11_init_55 ?_
  obtain ⟨r48, t49, k50, hf⟩ := bd_some hf
  have q51 := s3_init _ _ _ _ _ _ k50
  refine ev_callI (vs := [.ref b42, .ref b45]) (sk := [.ref b38, .ref v0]) q51 (by decide) (Nat.le_of_ble_eq_true rfl) w372 w373 rfl w16 w374 rfl k3_init rfl (Nat.le_of_ble_eq_true rfl) d11_init_58 ?_
  obtain ⟨t52, e53, hf⟩ := lt_some hf
  refine ev_putRF cls11 (j := 3) (by decide) rfl (ne_new e39) rfl w510 rfl rfl (mono_ob q51.1 (mono_ob (mono_eN e41) (mono_ob (mono_eR e37) (mono_ob q35.1 (mono_ob (mono_eN e28) (mono_ob (mono_eR e24) (mono_ob q22.1 (mono_ob (mono_eN e15) (mono_ob (mono_eR e11) h9))))))))) (fun _ => ⟨rfl, rfl⟩) d11_init_61 (ev_nmS e53 ?_)
  refine ev_aload_n (j := 0) (i := 0) (q := 0) rfl rfl d11_init_64 ?_
  obtain ⟨b54, e55, hf⟩ := lt_some hf
  obtain ⟨t56, e57, hf⟩ := lt_some hf
  refine ev_new cls6 (by decide) w409 w410 w17 d11_init_65 (ev_nmR e55 (ev_nmS e57 ?_))
  refine ev_dup rfl d11_init_68 ?_
  refine ev_aload_n (j := 0) (i := 0) (q := 0) rfl rfl d11_init_69 ?_
  obtain ⟨b58, e59, hf⟩ := lt_some hf
  obtain ⟨h60, hf⟩ := gd_some hf
  refine ev_getRb cls11 (j := 0) (by decide) rfl w507 (mono_ob (mono_eN e57) (mono_ob (mono_eR e53) (mono_ob q51.1 (mono_ob (mono_eN e41) (mono_ob (mono_eR e37) (mono_ob q35.1 (mono_ob (mono_eN e28) (mono_ob (mono_eR e24) (mono_ob q22.1 (mono_ob (mono_eN e15) (mono_ob (mono_eR e11) h9))))))))))) e59 (nz_ne h60) d11_init_70 ?_
  refine ev_aload_n (j := 0) (i := 0) (q := 0) rfl rfl d11_init_73 ?_
  obtain ⟨b61, e62, hf⟩ := lt_some hf
  obtain ⟨h63, hf⟩ := gd_some hf
  refine ev_getRb cls11 (j := 1) (by decide) rfl w508 (mono_ob (mono_eN e57) (mono_ob (mono_eR e53) (mono_ob q51.1 (mono_ob (mono_eN e41) (mono_ob (mono_eR e37) (mono_ob q35.1 (mono_ob (mono_eN e28) (mono_ob (mono_eR e24) (mono_ob q22.1 (mono_ob (mono_eN e15) (mono_ob (mono_eR e11) h9))))))))))) e62 (nz_ne h63) d11_init_74 ?_
  obtain ⟨r64, t65, k66, hf⟩ := bd_some hf
  have q67 := s6_init _ _ _ _ _ _ k66
  refine ev_callI (vs := [.ref b58, .ref b61]) (sk := [.ref b54, .ref v0]) q67 (by decide) (Nat.le_of_ble_eq_true rfl) w411 w412 rfl w17 w413 rfl k6_init rfl (Nat.le_of_ble_eq_true rfl) d11_init_77 ?_
  obtain ⟨t68, e69, hf⟩ := lt_some hf
  refine ev_putRF cls11 (j := 4) (by decide) rfl (ne_new e55) rfl w511 rfl rfl (mono_ob q67.1 (mono_ob (mono_eN e57) (mono_ob (mono_eR e53) (mono_ob q51.1 (mono_ob (mono_eN e41) (mono_ob (mono_eR e37) (mono_ob q35.1 (mono_ob (mono_eN e28) (mono_ob (mono_eR e24) (mono_ob q22.1 (mono_ob (mono_eN e15) (mono_ob (mono_eR e11) h9)))))))))))) (fun _ => ⟨rfl, rfl⟩) d11_init_80 (ev_nmS e69 ?_)
  refine ev_aload_n (j := 0) (i := 0) (q := 0) rfl rfl d11_init_83 ?_
  obtain ⟨b70, e71, hf⟩ := lt_some hf
  obtain ⟨t72, e73, hf⟩ := lt_some hf
  refine ev_new cls5 (by decide) w468 w469 w18 d11_init_84 (ev_nmR e71 (ev_nmS e73 ?_))
  refine ev_dup rfl d11_init_87 ?_
  refine ev_aload_n (j := 0) (i := 0) (q := 0) rfl rfl d11_init_88 ?_
  obtain ⟨b74, e75, hf⟩ := lt_some hf
  obtain ⟨h76, hf⟩ := gd_some hf
  refine ev_getRb cls11 (j := 0) (by decide) rfl w507 (mono_ob (mono_eN e73) (mono_ob (mono_eR e69) (mono_ob q67.1 (mono_ob (mono_eN e57) (mono_ob (mono_eR e53) (mono_ob q51.1 (mono_ob (mono_eN e41) (mono_ob (mono_eR e37) (mono_ob q35.1 (mono_ob (mono_eN e28) (mono_ob (mono_eR e24) (mono_ob q22.1 (mono_ob (mono_eN e15) (mono_ob (mono_eR e11) h9)))))))))))))) e75 (nz_ne h76) d11_init_89 ?_
  refine ev_aload_n (j := 0) (i := 0) (q := 0) rfl rfl d11_init_92 ?_
  obtain ⟨b77, e78, hf⟩ := lt_some hf
  obtain ⟨h79, hf⟩ := gd_some hf
  refine ev_getRb cls11 (j := 4) (by decide) rfl w511 (mono_ob (mono_eN e73) (mono_ob (mono_eR e69) (mono_ob q67.1 (mono_ob (mono_eN e57) (mono_ob (mono_eR e53) (mono_ob q51.1 (mono_ob (mono_eN e41) (mono_ob (mono_eR e37) (mono_ob q35.1 (mono_ob (mono_eN e28) (mono_ob (mono_eR e24) (mono_ob q22.1 (mono_ob (mono_eN e15) (mono_ob (mono_eR e11) h9)))))))))))))) e78 (nz_ne h79) d11_init_93 ?_
  obtain ⟨r80, t81, k82, hf⟩ := bd_some hf
  have q83 := s5_init _ _ _ _ _ _ k82
  refine ev_callI (vs := [.ref b74, .ref b77]) (sk := [.ref b70, .ref v0]) q83 (by decide) (Nat.le_of_ble_eq_true rfl) w470 w471 rfl w18 w472 rfl k5_init rfl (Nat.le_of_ble_eq_true rfl) d11_init_96 ?_
  obtain ⟨t84, e85, hf⟩ := lt_some hf
  refine ev_putRF cls11 (j := 5) (by decide) rfl (ne_new e71) rfl w512 rfl rfl (mono_ob q83.1 (mono_ob (mono_eN e73) (mono_ob (mono_eR e69) (mono_ob q67.1 (mono_ob (mono_eN e57) (mono_ob (mono_eR e53) (mono_ob q51.1 (mono_ob (mono_eN e41) (mono_ob (mono_eR e37) (mono_ob q35.1 (mono_ob (mono_eN e28) (mono_ob (mono_eR e24) (mono_ob q22.1 (mono_ob (mono_eN e15) (mono_ob (mono_eR e11) h9))))))))))))))) (fun _ => ⟨rfl, rfl⟩) d11_init_99 (ev_nmS e85 ?_)
  refine ev_aload_n (j := 0) (i := 0) (q := 0) rfl rfl d11_init_102 ?_
  refine ev_sipush cs_400 d11_init_103 ?_
  obtain ⟨b86, e87, hf⟩ := lt_some hf
  obtain ⟨h88, hf⟩ := gd_some hf
  obtain ⟨t89, e90, hf⟩ := lt_some hf
  refine ev_newa_int w59 h88 d11_init_106 (ev_nmR e87 (ev_nmS e90 ?_))
  obtain ⟨t91, e92, hf⟩ := lt_some hf
  refine ev_putRF cls11 (j := 6) (by decide) rfl (ne_new e87) rfl w513 rfl rfl (mono_ob (mono_eN e90) (mono_ob (mono_eR e85) (mono_ob q83.1 (mono_ob (mono_eN e73) (mono_ob (mono_eR e69) (mono_ob q67.1 (mono_ob (mono_eN e57) (mono_ob (mono_eR e53) (mono_ob q51.1 (mono_ob (mono_eN e41) (mono_ob (mono_eR e37) (mono_ob q35.1 (mono_ob (mono_eN e28) (mono_ob (mono_eR e24) (mono_ob q22.1 (mono_ob (mono_eN e15) (mono_ob (mono_eR e11) h9))))))))))))))))) (fun _ => ⟨rfl, rfl⟩) d11_init_108 (ev_nmS e92 ?_)
  obtain ⟨-, rfl⟩ := ret_some hf
  exact ev_vret rfl d11_init_111
abbrev m11_isHeight : MD := ("MillBoats", ⟨"MillBoats", "isHeight", "(I)Z"⟩, prog_1_method_40_code, 1, (some Jvm.ClassFile.FieldType.boolean))
theorem k11_isHeight : okY m11_isHeight.2.1 1 := ⟨by decide +kernel, by decide +kernel, by decide +kernel⟩
def f11_isHeight (σ : St) (v0 : Int32) : Option (Int32 × St) :=
  (if v0 < (0 : Int32) then
  some ((0 : Int32), σ)
  else
  (if v0 ≤ (20 : Int32) then
  some ((1 : Int32), σ)
  else
  some ((0 : Int32), σ)))
set_option maxRecDepth 50000 in
theorem s11_isHeight : ∀ (σ : St) (v0 : Int32) (r : Int32) (τ : St), f11_isHeight σ v0 = some (r, τ) → Call 2 m11_isHeight [.int v0] σ (some (.int r)) τ := by
  intro σ v0 r τ hf
  unfold f11_isHeight at hf
  refine Call.of (by decide +kernel) rfl (Nat.le_of_ble_eq_true rfl) ?_
  refine ev_iload_n (j := 0) (i := 0) (q := 0) rfl rfl d11_isHeight_0 ?_
  rcases ite_some hf with ⟨c1, hf⟩ | ⟨c1, hf⟩
  · refine ev_if_lt_P (tgt := 14) c1 (by decide) d11_isHeight_1 ?_
    refine ev_iconst ci_0 d11_isHeight_14 ?_
    obtain ⟨rfl, rfl⟩ := ret_some hf
    exact ev_zret rfl (by decide) d11_isHeight_15
  · refine ev_if_lt_Q (tgt := 14) c1 (by decide) d11_isHeight_1 ?_
    refine ev_iload_n (j := 0) (i := 0) (q := 0) rfl rfl d11_isHeight_4 ?_
    refine ev_bipush cb_20 d11_isHeight_5 ?_
    rcases ite_some hf with ⟨c2, hf⟩ | ⟨c2, hf⟩
    · refine ev_icmp_gt_P (tgt := 14) c2 (by decide) d11_isHeight_7 ?_
      refine ev_iconst ci_1 d11_isHeight_10 ?_
      refine ev_goto (tgt := 15) (by decide) d11_isHeight_11 ?_
      obtain ⟨rfl, rfl⟩ := ret_some hf
      exact ev_zret rfl (by decide) d11_isHeight_15
    · refine ev_icmp_gt_Q (tgt := 14) c2 (by decide) d11_isHeight_7 ?_
      refine ev_iconst ci_0 d11_isHeight_14 ?_
      obtain ⟨rfl, rfl⟩ := ret_some hf
      exact ev_zret rfl (by decide) d11_isHeight_15
abbrev m11_bed : MD := ("MillBoats", ⟨"MillBoats", "bed", "(II)Z"⟩, prog_1_method_2_code, 3, (some Jvm.ClassFile.FieldType.boolean))
theorem k11_bed : okY m11_bed.2.1 2 := ⟨by decide +kernel, by decide +kernel, by decide +kernel⟩
def f11_bed (σ : St) (v0 : Nat) (v1 : Int32) (v2 : Int32) : Option (Int32 × St) :=
  bd (f11_isBerth σ v1) fun r1 t2 => (
  (if r1 = (0 : Int32) then
  some ((0 : Int32), t2)
  else
  bd (f11_isHeight t2 v2) fun r6 t7 => (
  (if r6 = (0 : Int32) then
  some ((0 : Int32), t7)
  else
  gd (ob t7 v0 11) (
  lt (sR t7 v0 0) fun b12 => (
  gd (nz b12) (
  gd (ob t7 b12 8) (
  lt (sR t7 b12 0) fun b16 => (
  gd (nz b16) (
  gd (ob t7 b16 14) (
  gd (inb t7 b16 v1) (
  lt (wI t7 b16 (ix v1) v2) fun t21 => (
  some ((1 : Int32), t21))))))))))))))
set_option maxRecDepth 50000 in
theorem s11_bed : ∀ (σ : St) (v0 : Nat) (v1 : Int32) (v2 : Int32) (r : Int32) (τ : St), f11_bed σ v0 v1 v2 = some (r, τ) → Call 3 m11_bed [.ref v0, .int v1, .int v2] σ (some (.int r)) τ := by
  intro σ v0 v1 v2 r τ hf
  unfold f11_bed at hf
  refine Call.of (by decide +kernel) rfl (Nat.le_of_ble_eq_true rfl) ?_
  refine ev_iload_n (j := 1) (i := 1) (q := 1) rfl rfl d11_bed_0 ?_
  obtain ⟨r1, t2, k3, hf⟩ := bd_some hf
  have q4 := s11_isBerth _ _ _ _ k3
  refine ev_callS (vs := [.int v1]) (sk := []) q4 (by decide) (Nat.le_of_ble_eq_true rfl) w539 w540 w1 w541 k11_isBerth rfl (Nat.le_of_ble_eq_true rfl) d11_bed_1 ?_
  rcases ite_some hf with ⟨c5, hf⟩ | ⟨c5, hf⟩
  · refine ev_if_eq_P (tgt := 14) c5 (by decide) d11_bed_4 ?_
    refine ev_iconst ci_0 d11_bed_14 ?_
    obtain ⟨rfl, rfl⟩ := ret_some hf
    exact ev_zret rfl (by decide) d11_bed_15
  · refine ev_if_eq_Q (tgt := 14) c5 (by decide) d11_bed_4 ?_
    refine ev_iload_n (j := 2) (i := 2) (q := 2) rfl rfl d11_bed_7 ?_
    obtain ⟨r6, t7, k8, hf⟩ := bd_some hf
    have q9 := s11_isHeight _ _ _ _ k8
    refine ev_callS (vs := [.int v2]) (sk := []) q9 (by decide) (Nat.le_of_ble_eq_true rfl) w542 w543 w1 w544 k11_isHeight rfl (Nat.le_of_ble_eq_true rfl) d11_bed_8 ?_
    rcases ite_some hf with ⟨c10, hf⟩ | ⟨c10, hf⟩
    · refine ev_if_ne_P (tgt := 16) c10 (by decide) d11_bed_11 ?_
      refine ev_iconst ci_0 d11_bed_14 ?_
      obtain ⟨rfl, rfl⟩ := ret_some hf
      exact ev_zret rfl (by decide) d11_bed_15
    · refine ev_if_ne_Q (tgt := 16) c10 (by decide) d11_bed_11 ?_
      refine ev_aload_n (j := 0) (i := 0) (q := 0) rfl rfl d11_bed_16 ?_
      obtain ⟨h11, hf⟩ := gd_some hf
      obtain ⟨b12, e13, hf⟩ := lt_some hf
      obtain ⟨h14, hf⟩ := gd_some hf
      refine ev_getRb cls11 (j := 0) (by decide) rfl w507 h11 e13 (nz_ne h14) d11_bed_17 ?_
      obtain ⟨h15, hf⟩ := gd_some hf
      obtain ⟨b16, e17, hf⟩ := lt_some hf
      obtain ⟨h18, hf⟩ := gd_some hf
      refine ev_getRNb cls8 (j := 0) (by decide) rfl w104 h15 e17 (nz_ne h18) d11_bed_20 ?_
      refine ev_iload_n (j := 1) (i := 1) (q := 1) rfl rfl d11_bed_23 ?_
      refine ev_iload_n (j := 2) (i := 2) (q := 2) rfl rfl d11_bed_24 ?_
      obtain ⟨h19, hf⟩ := gd_some hf
      obtain ⟨h20, hf⟩ := gd_some hf
      obtain ⟨t21, e22, hf⟩ := lt_some hf
      refine ev_iast h19 h20 d11_bed_25 (ev_nmS e22 ?_)
      refine ev_iconst ci_1 d11_bed_26 ?_
      obtain ⟨rfl, rfl⟩ := ret_some hf
      exact ev_zret rfl (by decide) d11_bed_27
abbrev m11_point : MD := ("MillBoats", ⟨"MillBoats", "point", "(III)Z"⟩, prog_1_method_3_code, 4, (some Jvm.ClassFile.FieldType.boolean))
theorem k11_point : okY m11_point.2.1 3 := ⟨by decide +kernel, by decide +kernel, by decide +kernel⟩
def f11_point (σ : St) (v0 : Nat) (v1 : Int32) (v2 : Int32) (v3 : Int32) : Option (Int32 × St) :=
  (if v1 < (0 : Int32) then
  some ((0 : Int32), σ)
  else
  (if v1 < (7 : Int32) then
  gd (ob σ v0 11) (
  lt (sR σ v0 0) fun b4 => (
  gd (nz b4) (
  gd (ob σ b4 8) (
  lt (sR σ b4 1) fun b8 => (
  gd (nz b8) (
  gd (ob σ b8 19) (
  gd (inb σ b8 v1) (
  lt (sR σ b8 (ix v1)) fun b13 => (
  gd (nz b13) (
  gd (ob σ b13 9) (
  bd (f9_put σ b13 v2 v3) fun r17 t18 => (
  gd (isB r17) (
  some (r17, t18))))))))))))))
  else
  some ((0 : Int32), σ)))
set_option maxRecDepth 50000 in
theorem s11_point : ∀ (σ : St) (v0 : Nat) (v1 : Int32) (v2 : Int32) (v3 : Int32) (r : Int32) (τ : St), f11_point σ v0 v1 v2 v3 = some (r, τ) → Call 3 m11_point [.ref v0, .int v1, .int v2, .int v3] σ (some (.int r)) τ := by
  intro σ v0 v1 v2 v3 r τ hf
  unfold f11_point at hf
  refine Call.of (by decide +kernel) rfl (Nat.le_of_ble_eq_true rfl) ?_
  refine ev_iload_n (j := 1) (i := 1) (q := 1) rfl rfl d11_point_0 ?_
  rcases ite_some hf with ⟨c1, hf⟩ | ⟨c1, hf⟩
  · refine ev_if_lt_P (tgt := 10) c1 (by decide) d11_point_1 ?_
    refine ev_iconst ci_0 d11_point_10 ?_
    obtain ⟨rfl, rfl⟩ := ret_some hf
    exact ev_zret rfl (by decide) d11_point_11
  · refine ev_if_lt_Q (tgt := 10) c1 (by decide) d11_point_1 ?_
    refine ev_iload_n (j := 1) (i := 1) (q := 1) rfl rfl d11_point_4 ?_
    refine ev_bipush cb_7 d11_point_5 ?_
    rcases ite_some hf with ⟨c2, hf⟩ | ⟨c2, hf⟩
    · refine ev_icmp_lt_P (tgt := 12) c2 (by decide) d11_point_7 ?_
      refine ev_aload_n (j := 0) (i := 0) (q := 0) rfl rfl d11_point_12 ?_
      obtain ⟨h3, hf⟩ := gd_some hf
      obtain ⟨b4, e5, hf⟩ := lt_some hf
      obtain ⟨h6, hf⟩ := gd_some hf
      refine ev_getRb cls11 (j := 0) (by decide) rfl w507 h3 e5 (nz_ne h6) d11_point_13 ?_
      obtain ⟨h7, hf⟩ := gd_some hf
      obtain ⟨b8, e9, hf⟩ := lt_some hf
      obtain ⟨h10, hf⟩ := gd_some hf
      refine ev_getRNb cls8 (j := 1) (by decide) rfl w106 h7 e9 (nz_ne h10) d11_point_16 ?_
      refine ev_iload_n (j := 1) (i := 1) (q := 1) rfl rfl d11_point_19 ?_
      obtain ⟨h11, hf⟩ := gd_some hf
      obtain ⟨h12, hf⟩ := gd_some hf
      obtain ⟨b13, e14, hf⟩ := lt_some hf
      obtain ⟨h15, hf⟩ := gd_some hf
      refine ev_qaldb (kd := 19) (by decide) (by decide) rfl h11 h12 e14 (nz_ne h15) d11_point_20 ?_
      refine ev_iload_n (j := 2) (i := 2) (q := 2) rfl rfl d11_point_21 ?_
      refine ev_iload_n (j := 3) (i := 3) (q := 3) rfl rfl d11_point_22 ?_
      obtain ⟨h16, hf⟩ := gd_some hf
      obtain ⟨r17, t18, k19, hf⟩ := bd_some hf
      have q20 := s9_put _ _ _ _ _ _ k19
      refine ev_callV (vs := [.int v2, .int v3]) (sk := []) cls9 h16 q20 (by decide) (Nat.le_of_ble_eq_true rfl) w549 w550 w551 w3 w552 k9_put rfl (Nat.le_of_ble_eq_true rfl) d11_point_23 ?_
      obtain ⟨h21, hf⟩ := gd_some hf
      obtain ⟨rfl, rfl⟩ := ret_some hf
      exact ev_zret rfl (narB h21) d11_point_26
    · refine ev_icmp_lt_Q (tgt := 12) c2 (by decide) d11_point_7 ?_
      refine ev_iconst ci_0 d11_point_10 ?_
      obtain ⟨rfl, rfl⟩ := ret_some hf
      exact ev_zret rfl (by decide) d11_point_11
abbrev m11_value : MD := ("MillBoats", ⟨"MillBoats", "value", "(II)I"⟩, prog_1_method_4_code, 3, (some Jvm.ClassFile.FieldType.int))
theorem k11_value : okY m11_value.2.1 2 := ⟨by decide +kernel, by decide +kernel, by decide +kernel⟩
def f11_value (σ : St) (v0 : Nat) (v1 : Int32) (v2 : Int32) : Option (Int32 × St) :=
  (if v1 < (0 : Int32) then
  some ((-1 : Int32), σ)
  else
  (if v1 < (7 : Int32) then
  gd (ob σ v0 11) (
  lt (sR σ v0 0) fun b4 => (
  gd (nz b4) (
  gd (ob σ b4 8) (
  lt (sR σ b4 1) fun b8 => (
  gd (nz b8) (
  gd (ob σ b8 19) (
  gd (inb σ b8 v1) (
  lt (sR σ b8 (ix v1)) fun b13 => (
  gd (nz b13) (
  gd (ob σ b13 9) (
  bd (f9_at σ b13 v2) fun r17 t18 => (
  some (r17, t18)))))))))))))
  else
  some ((-1 : Int32), σ)))
set_option maxRecDepth 50000 in
theorem s11_value : ∀ (σ : St) (v0 : Nat) (v1 : Int32) (v2 : Int32) (r : Int32) (τ : St), f11_value σ v0 v1 v2 = some (r, τ) → Call 4 m11_value [.ref v0, .int v1, .int v2] σ (some (.int r)) τ := by
  intro σ v0 v1 v2 r τ hf
  unfold f11_value at hf
  refine Call.of (by decide +kernel) rfl (Nat.le_of_ble_eq_true rfl) ?_
  refine ev_iload_n (j := 1) (i := 1) (q := 1) rfl rfl d11_value_0 ?_
  rcases ite_some hf with ⟨c1, hf⟩ | ⟨c1, hf⟩
  · refine ev_if_lt_P (tgt := 10) c1 (by decide) d11_value_1 ?_
    refine ev_iconst ci_m1 d11_value_10 ?_
    obtain ⟨rfl, rfl⟩ := ret_some hf
    exact ev_iret rfl d11_value_11
  · refine ev_if_lt_Q (tgt := 10) c1 (by decide) d11_value_1 ?_
    refine ev_iload_n (j := 1) (i := 1) (q := 1) rfl rfl d11_value_4 ?_
    refine ev_bipush cb_7 d11_value_5 ?_
    rcases ite_some hf with ⟨c2, hf⟩ | ⟨c2, hf⟩
    · refine ev_icmp_lt_P (tgt := 12) c2 (by decide) d11_value_7 ?_
      refine ev_aload_n (j := 0) (i := 0) (q := 0) rfl rfl d11_value_12 ?_
      obtain ⟨h3, hf⟩ := gd_some hf
      obtain ⟨b4, e5, hf⟩ := lt_some hf
      obtain ⟨h6, hf⟩ := gd_some hf
      refine ev_getRb cls11 (j := 0) (by decide) rfl w507 h3 e5 (nz_ne h6) d11_value_13 ?_
      obtain ⟨h7, hf⟩ := gd_some hf
      obtain ⟨b8, e9, hf⟩ := lt_some hf
      obtain ⟨h10, hf⟩ := gd_some hf
      refine ev_getRNb cls8 (j := 1) (by decide) rfl w106 h7 e9 (nz_ne h10) d11_value_16 ?_
      refine ev_iload_n (j := 1) (i := 1) (q := 1) rfl rfl d11_value_19 ?_
      obtain ⟨h11, hf⟩ := gd_some hf
      obtain ⟨h12, hf⟩ := gd_some hf
      obtain ⟨b13, e14, hf⟩ := lt_some hf
      obtain ⟨h15, hf⟩ := gd_some hf
      refine ev_qaldb (kd := 19) (by decide) (by decide) rfl h11 h12 e14 (nz_ne h15) d11_value_20 ?_
      refine ev_iload_n (j := 2) (i := 2) (q := 2) rfl rfl d11_value_21 ?_
      obtain ⟨h16, hf⟩ := gd_some hf
      obtain ⟨r17, t18, k19, hf⟩ := bd_some hf
      have q20 := s9_at _ _ _ _ _ k19
      refine ev_callV (vs := [.int v2]) (sk := []) cls9 h16 q20 (by decide) (Nat.le_of_ble_eq_true rfl) w557 w558 w559 w3 w560 k9_at rfl (Nat.le_of_ble_eq_true rfl) d11_value_22 ?_
      obtain ⟨rfl, rfl⟩ := ret_some hf
      exact ev_iret rfl d11_value_25
    · refine ev_icmp_lt_Q (tgt := 12) c2 (by decide) d11_value_7 ?_
      refine ev_iconst ci_m1 d11_value_10 ?_
      obtain ⟨rfl, rfl⟩ := ret_some hf
      exact ev_iret rfl d11_value_11
abbrev m11_mill : MD := ("MillBoats", ⟨"MillBoats", "mill", "(III)I"⟩, prog_1_method_5_code, 4, (some Jvm.ClassFile.FieldType.int))
theorem k11_mill : okY m11_mill.2.1 3 := ⟨by decide +kernel, by decide +kernel, by decide +kernel⟩
def f11_mill (σ : St) (v0 : Nat) (v1 : Int32) (v2 : Int32) (v3 : Int32) : Option (Int32 × St) :=
  (if v1 < (1 : Int32) then
  some ((-1 : Int32), σ)
  else
  (if v1 ≤ (9 : Int32) then
  (if v2 < (1 : Int32) then
  some ((-1 : Int32), σ)
  else
  (if v2 ≤ (90 : Int32) then
  (if v3 < (1 : Int32) then
  some ((-1 : Int32), σ)
  else
  (if v3 ≤ (2000 : Int32) then
  gd (ob σ v0 11) (
  lt (sR σ v0 0) fun b8 => (
  gd (nz b8) (
  gd (ob σ b8 8) (
  bd (f8_launch σ b8 v1 v2 v3) fun r12 t13 => (
  some (r12, t13))))))
  else
  some ((-1 : Int32), σ)))
  else
  some ((-1 : Int32), σ)))
  else
  some ((-1 : Int32), σ)))
set_option maxRecDepth 50000 in
theorem s11_mill : ∀ (σ : St) (v0 : Nat) (v1 : Int32) (v2 : Int32) (v3 : Int32) (r : Int32) (τ : St), f11_mill σ v0 v1 v2 v3 = some (r, τ) → Call 3 m11_mill [.ref v0, .int v1, .int v2, .int v3] σ (some (.int r)) τ := by
  intro σ v0 v1 v2 v3 r τ hf
  unfold f11_mill at hf
  refine Call.of (by decide +kernel) rfl (Nat.le_of_ble_eq_true rfl) ?_
  refine ev_iload_n (j := 1) (i := 1) (q := 1) rfl rfl d11_mill_0 ?_
  refine ev_iconst ci_1 d11_mill_1 ?_
  rcases ite_some hf with ⟨c1, hf⟩ | ⟨c1, hf⟩
  · refine ev_icmp_lt_P (tgt := 34) c1 (by decide) d11_mill_2 ?_
    refine ev_iconst ci_m1 d11_mill_34 ?_
    obtain ⟨rfl, rfl⟩ := ret_some hf
    exact ev_iret rfl d11_mill_35
  · refine ev_icmp_lt_Q (tgt := 34) c1 (by decide) d11_mill_2 ?_
    refine ev_iload_n (j := 1) (i := 1) (q := 1) rfl rfl d11_mill_5 ?_
    refine ev_bipush cb_9 d11_mill_6 ?_
    rcases ite_some hf with ⟨c2, hf⟩ | ⟨c2, hf⟩
    · refine ev_icmp_gt_P (tgt := 34) c2 (by decide) d11_mill_8 ?_
      refine ev_iload_n (j := 2) (i := 2) (q := 2) rfl rfl d11_mill_11 ?_
      refine ev_iconst ci_1 d11_mill_12 ?_
      rcases ite_some hf with ⟨c3, hf⟩ | ⟨c3, hf⟩
      · refine ev_icmp_lt_P (tgt := 34) c3 (by decide) d11_mill_13 ?_
        refine ev_iconst ci_m1 d11_mill_34 ?_
        obtain ⟨rfl, rfl⟩ := ret_some hf
        exact ev_iret rfl d11_mill_35
      · refine ev_icmp_lt_Q (tgt := 34) c3 (by decide) d11_mill_13 ?_
        refine ev_iload_n (j := 2) (i := 2) (q := 2) rfl rfl d11_mill_16 ?_
        refine ev_bipush cb_90 d11_mill_17 ?_
        rcases ite_some hf with ⟨c4, hf⟩ | ⟨c4, hf⟩
        · refine ev_icmp_gt_P (tgt := 34) c4 (by decide) d11_mill_19 ?_
          refine ev_iload_n (j := 3) (i := 3) (q := 3) rfl rfl d11_mill_22 ?_
          refine ev_iconst ci_1 d11_mill_23 ?_
          rcases ite_some hf with ⟨c5, hf⟩ | ⟨c5, hf⟩
          · refine ev_icmp_lt_P (tgt := 34) c5 (by decide) d11_mill_24 ?_
            refine ev_iconst ci_m1 d11_mill_34 ?_
            obtain ⟨rfl, rfl⟩ := ret_some hf
            exact ev_iret rfl d11_mill_35
          · refine ev_icmp_lt_Q (tgt := 34) c5 (by decide) d11_mill_24 ?_
            refine ev_iload_n (j := 3) (i := 3) (q := 3) rfl rfl d11_mill_27 ?_
            refine ev_sipush cs_2000 d11_mill_28 ?_
            rcases ite_some hf with ⟨c6, hf⟩ | ⟨c6, hf⟩
            · refine ev_icmp_le_P (tgt := 36) c6 (by decide) d11_mill_31 ?_
              refine ev_aload_n (j := 0) (i := 0) (q := 0) rfl rfl d11_mill_36 ?_
              obtain ⟨h7, hf⟩ := gd_some hf
              obtain ⟨b8, e9, hf⟩ := lt_some hf
              obtain ⟨h10, hf⟩ := gd_some hf
              refine ev_getRb cls11 (j := 0) (by decide) rfl w507 h7 e9 (nz_ne h10) d11_mill_37 ?_
              refine ev_iload_n (j := 1) (i := 1) (q := 1) rfl rfl d11_mill_40 ?_
              refine ev_iload_n (j := 2) (i := 2) (q := 2) rfl rfl d11_mill_41 ?_
              refine ev_iload_n (j := 3) (i := 3) (q := 3) rfl rfl d11_mill_42 ?_
              obtain ⟨h11, hf⟩ := gd_some hf
              obtain ⟨r12, t13, k14, hf⟩ := bd_some hf
              have q15 := s8_launch _ _ _ _ _ _ _ k14
              refine ev_callV (vs := [.int v1, .int v2, .int v3]) (sk := []) cls8 h11 q15 (by decide) (Nat.le_of_ble_eq_true rfl) w568 w569 w570 w2 w571 k8_launch rfl (Nat.le_of_ble_eq_true rfl) d11_mill_43 ?_
              obtain ⟨rfl, rfl⟩ := ret_some hf
              exact ev_iret rfl d11_mill_46
            · refine ev_icmp_le_Q (tgt := 36) c6 (by decide) d11_mill_31 ?_
              refine ev_iconst ci_m1 d11_mill_34 ?_
              obtain ⟨rfl, rfl⟩ := ret_some hf
              exact ev_iret rfl d11_mill_35
        · refine ev_icmp_gt_Q (tgt := 34) c4 (by decide) d11_mill_19 ?_
          refine ev_iconst ci_m1 d11_mill_34 ?_
          obtain ⟨rfl, rfl⟩ := ret_some hf
          exact ev_iret rfl d11_mill_35
    · refine ev_icmp_gt_Q (tgt := 34) c2 (by decide) d11_mill_8 ?_
      refine ev_iconst ci_m1 d11_mill_34 ?_
      obtain ⟨rfl, rfl⟩ := ret_some hf
      exact ev_iret rfl d11_mill_35
abbrev m11_moor : MD := ("MillBoats", ⟨"MillBoats", "moor", "(II)I"⟩, prog_1_method_6_code, 4, (some Jvm.ClassFile.FieldType.int))
theorem k11_moor : okY m11_moor.2.1 2 := ⟨by decide +kernel, by decide +kernel, by decide +kernel⟩
def f11_moor_p76 (σ : St) (v0 : Nat) (v1 : Int32) (v2 : Int32) : Option (Int32 × St) :=
  gd (ob σ v0 11) (
  lt (sR σ v0 0) fun b36 => (
  gd (nz b36) (
  gd (ob σ b36 8) (
  lt (sR σ b36 3) fun b40 => (
  gd (nz b40) (
  gd (ob σ b40 14) (
  gd (inb σ b40 v1) (
  lt (wI σ b40 (ix v1) v2) fun t45 => (
  some ((0 : Int32), t45))))))))))
set_option maxRecDepth 20000 in
theorem s11_moor_p76 : ∀ (σ : St) (v0 : Nat) (v1 : Int32) (v2 : Int32) (r : Int32) (τ : St), f11_moor_p76 σ v0 v1 v2 = some (r, τ) → Ev 3 m11_moor 76 [(0, .ref v0), (1, .int v1), (2, .int v2)] [] σ (some (.int r)) τ := by
  intro σ v0 v1 v2 r τ hf
  unfold f11_moor_p76 at hf
  refine ev_aload_n (j := 0) (i := 0) (q := 0) rfl rfl d11_moor_76 ?_
  obtain ⟨h35, hf⟩ := gd_some hf
  obtain ⟨b36, e37, hf⟩ := lt_some hf
  obtain ⟨h38, hf⟩ := gd_some hf
  refine ev_getRb cls11 (j := 0) (by decide) rfl w507 h35 e37 (nz_ne h38) d11_moor_77 ?_
  obtain ⟨h39, hf⟩ := gd_some hf
  obtain ⟨b40, e41, hf⟩ := lt_some hf
  obtain ⟨h42, hf⟩ := gd_some hf
  refine ev_getRNb cls8 (j := 3) (by decide) rfl w119 h39 e41 (nz_ne h42) d11_moor_80 ?_
  refine ev_iload_n (j := 1) (i := 1) (q := 1) rfl rfl d11_moor_83 ?_
  refine ev_iload_n (j := 2) (i := 2) (q := 2) rfl rfl d11_moor_84 ?_
  obtain ⟨h43, hf⟩ := gd_some hf
  obtain ⟨h44, hf⟩ := gd_some hf
  obtain ⟨t45, e46, hf⟩ := lt_some hf
  refine ev_iast h43 h44 d11_moor_85 (ev_nmS e46 ?_)
  refine ev_iconst ci_0 d11_moor_86 ?_
  obtain ⟨rfl, rfl⟩ := ret_some hf
  exact ev_iret rfl d11_moor_87
def f11_moor_p25 (σ : St) (v0 : Nat) (v1 : Int32) (v2 : Int32) : Option (Int32 × St) :=
  gd (ob σ v0 11) (
  lt (sR σ v0 0) fun b18 => (
  gd (nz b18) (
  gd (ob σ b18 8) (
  lt (sR σ b18 3) fun b22 => (
  gd (nz b22) (
  gd (ob σ b22 14) (
  gd (inb σ b22 v1) (
  (if (sI σ b22 (ix v1)) = (-2 : Int32) then
  some ((-2 : Int32), σ)
  else
  (if v2 = (-1 : Int32) then
  f11_moor_p76 σ v0 v1 v2
  else
  bd (f8_lyingAt σ b18 v2 b22) fun r29 t30 => (
  (if r29 = (-1 : Int32) then
  f11_moor_p76 t30 v0 v1 v2
  else
  (if r29 = v1 then
  f11_moor_p76 t30 v0 v1 v2
  else
  some ((-3 : Int32), t30))))))))))))))
set_option maxRecDepth 20000 in
theorem s11_moor_p25 : ∀ (σ : St) (v0 : Nat) (v1 : Int32) (v2 : Int32) (r : Int32) (τ : St), f11_moor_p25 σ v0 v1 v2 = some (r, τ) → Ev 3 m11_moor 25 [(0, .ref v0), (1, .int v1), (2, .int v2)] [] σ (some (.int r)) τ := by
  intro σ v0 v1 v2 r τ hf
  unfold f11_moor_p25 at hf
  refine ev_aload_n (j := 0) (i := 0) (q := 0) rfl rfl d11_moor_25 ?_
  obtain ⟨h17, hf⟩ := gd_some hf
  obtain ⟨b18, e19, hf⟩ := lt_some hf
  obtain ⟨h20, hf⟩ := gd_some hf
  refine ev_getRb cls11 (j := 0) (by decide) rfl w507 h17 e19 (nz_ne h20) d11_moor_26 ?_
  obtain ⟨h21, hf⟩ := gd_some hf
  obtain ⟨b22, e23, hf⟩ := lt_some hf
  obtain ⟨h24, hf⟩ := gd_some hf
  refine ev_getRNb cls8 (j := 3) (by decide) rfl w119 h21 e23 (nz_ne h24) d11_moor_29 ?_
  refine ev_iload_n (j := 1) (i := 1) (q := 1) rfl rfl d11_moor_32 ?_
  obtain ⟨h25, hf⟩ := gd_some hf
  obtain ⟨h26, hf⟩ := gd_some hf
  refine ev_iald h25 h26 d11_moor_33 ?_
  refine ev_bipush cb_m2 d11_moor_34 ?_
  rcases ite_some hf with ⟨c27, hf⟩ | ⟨c27, hf⟩
  · refine ev_icmp_ne_P (tgt := 42) c27 (by decide) d11_moor_36 ?_
    refine ev_bipush cb_m2 d11_moor_39 ?_
    obtain ⟨rfl, rfl⟩ := ret_some hf
    exact ev_iret rfl d11_moor_41
  · refine ev_icmp_ne_Q (tgt := 42) c27 (by decide) d11_moor_36 ?_
    refine ev_iload_n (j := 2) (i := 2) (q := 2) rfl rfl d11_moor_42 ?_
    refine ev_iconst ci_m1 d11_moor_43 ?_
    rcases ite_some hf with ⟨c28, hf⟩ | ⟨c28, hf⟩
    · refine ev_icmp_eq_P (tgt := 76) c28 (by decide) d11_moor_44 ?_
      exact Ev.sub [0, 1, 2] rfl (s11_moor_p76 _ _ _ _ _ _ hf)
    · refine ev_icmp_eq_Q (tgt := 76) c28 (by decide) d11_moor_44 ?_
      refine ev_aload_n (j := 0) (i := 0) (q := 0) rfl rfl d11_moor_47 ?_
      refine ev_getRb cls11 (j := 0) (by decide) rfl w507 h17 e19 (nz_ne h20) d11_moor_48 ?_
      refine ev_iload_n (j := 2) (i := 2) (q := 2) rfl rfl d11_moor_51 ?_
      refine ev_aload_n (j := 0) (i := 0) (q := 0) rfl rfl d11_moor_52 ?_
      refine ev_getRb cls11 (j := 0) (by decide) rfl w507 h17 e19 (nz_ne h20) d11_moor_53 ?_
      refine ev_getRNb cls8 (j := 3) (by decide) rfl w119 h21 e23 (nz_ne h24) d11_moor_56 ?_
      obtain ⟨r29, t30, k31, hf⟩ := bd_some hf
      have q32 := s8_lyingAt _ _ _ _ _ _ k31
      refine ev_callV (vs := [.int v2, .ref b22]) (sk := []) cls8 h21 q32 (by decide) (Nat.le_of_ble_eq_true rfl) w580 w581 w582 w2 w583 k8_lyingAt rfl (Nat.le_of_ble_eq_true rfl) d11_moor_59 ?_
      refine ev_istore_n (lv2 := [(3, .int r29), (0, .ref v0), (1, .int v1), (2, .int v2)]) (j := 3) (i := 3) rfl (by decide) rfl d11_moor_62 ?_
      refine ev_iload_n (j := 3) (i := 3) (q := 0) rfl rfl d11_moor_63 ?_
      refine ev_iconst ci_m1 d11_moor_64 ?_
      rcases ite_some hf with ⟨c33, hf⟩ | ⟨c33, hf⟩
      · refine ev_icmp_eq_P (tgt := 76) c33 (by decide) d11_moor_65 ?_
        exact Ev.sub [1, 2, 3] rfl (s11_moor_p76 _ _ _ _ _ _ hf)
      · refine ev_icmp_eq_Q (tgt := 76) c33 (by decide) d11_moor_65 ?_
        refine ev_iload_n (j := 3) (i := 3) (q := 0) rfl rfl d11_moor_68 ?_
        refine ev_iload_n (j := 1) (i := 1) (q := 2) rfl rfl d11_moor_69 ?_
        rcases ite_some hf with ⟨c34, hf⟩ | ⟨c34, hf⟩
        · refine ev_icmp_eq_P (tgt := 76) c34 (by decide) d11_moor_70 ?_
          exact Ev.sub [1, 2, 3] rfl (s11_moor_p76 _ _ _ _ _ _ hf)
        · refine ev_icmp_eq_Q (tgt := 76) c34 (by decide) d11_moor_70 ?_
          refine ev_bipush cb_m3 d11_moor_73 ?_
          obtain ⟨rfl, rfl⟩ := ret_some hf
          exact ev_iret rfl d11_moor_75
def f11_moor (σ : St) (v0 : Nat) (v1 : Int32) (v2 : Int32) : Option (Int32 × St) :=
  gd (ob σ v0 11) (
  lt (sR σ v0 0) fun b2 => (
  gd (nz b2) (
  gd (ob σ b2 8) (
  bd (f8_has σ b2 v1) fun r6 t7 => (
  (if r6 = (0 : Int32) then
  some ((-1 : Int32), t7)
  else
  (if v2 = (-1 : Int32) then
  f11_moor_p25 t7 v0 v1 v2
  else
  bd (f11_isBerth t7 v2) fun r12 t13 => (
  (if r12 = (0 : Int32) then
  some ((-1 : Int32), t13)
  else
  f11_moor_p25 t13 v0 v1 v2)))))))))
set_option maxRecDepth 50000 in
theorem s11_moor : ∀ (σ : St) (v0 : Nat) (v1 : Int32) (v2 : Int32) (r : Int32) (τ : St), f11_moor σ v0 v1 v2 = some (r, τ) → Call 3 m11_moor [.ref v0, .int v1, .int v2] σ (some (.int r)) τ := by
  intro σ v0 v1 v2 r τ hf
  unfold f11_moor at hf
  refine Call.of (by decide +kernel) rfl (Nat.le_of_ble_eq_true rfl) ?_
  refine ev_aload_n (j := 0) (i := 0) (q := 0) rfl rfl d11_moor_0 ?_
  obtain ⟨h1, hf⟩ := gd_some hf
  obtain ⟨b2, e3, hf⟩ := lt_some hf
  obtain ⟨h4, hf⟩ := gd_some hf
  refine ev_getRb cls11 (j := 0) (by decide) rfl w507 h1 e3 (nz_ne h4) d11_moor_1 ?_
  refine ev_iload_n (j := 1) (i := 1) (q := 1) rfl rfl d11_moor_4 ?_
  obtain ⟨h5, hf⟩ := gd_some hf
  obtain ⟨r6, t7, k8, hf⟩ := bd_some hf
  have q9 := s8_has _ _ _ _ _ k8
  refine ev_callV (vs := [.int v1]) (sk := []) cls8 h5 q9 (by decide) (Nat.le_of_ble_eq_true rfl) w576 w577 w578 w2 w579 k8_has rfl (Nat.le_of_ble_eq_true rfl) d11_moor_5 ?_
  rcases ite_some hf with ⟨c10, hf⟩ | ⟨c10, hf⟩
  · refine ev_if_eq_P (tgt := 23) c10 (by decide) d11_moor_8 ?_
    refine ev_iconst ci_m1 d11_moor_23 ?_
    obtain ⟨rfl, rfl⟩ := ret_some hf
    exact ev_iret rfl d11_moor_24
  · refine ev_if_eq_Q (tgt := 23) c10 (by decide) d11_moor_8 ?_
    refine ev_iload_n (j := 2) (i := 2) (q := 2) rfl rfl d11_moor_11 ?_
    refine ev_iconst ci_m1 d11_moor_12 ?_
    rcases ite_some hf with ⟨c11, hf⟩ | ⟨c11, hf⟩
    · refine ev_icmp_eq_P (tgt := 25) c11 (by decide) d11_moor_13 ?_
      exact Ev.sub [0, 1, 2] rfl (s11_moor_p25 _ _ _ _ _ _ hf)
    · refine ev_icmp_eq_Q (tgt := 25) c11 (by decide) d11_moor_13 ?_
      refine ev_iload_n (j := 2) (i := 2) (q := 2) rfl rfl d11_moor_16 ?_
      obtain ⟨r12, t13, k14, hf⟩ := bd_some hf
      have q15 := s11_isBerth _ _ _ _ k14
      refine ev_callS (vs := [.int v2]) (sk := []) q15 (by decide) (Nat.le_of_ble_eq_true rfl) w539 w540 w1 w541 k11_isBerth rfl (Nat.le_of_ble_eq_true rfl) d11_moor_17 ?_
      rcases ite_some hf with ⟨c16, hf⟩ | ⟨c16, hf⟩
      · refine ev_if_ne_P (tgt := 25) c16 (by decide) d11_moor_20 ?_
        refine ev_iconst ci_m1 d11_moor_23 ?_
        obtain ⟨rfl, rfl⟩ := ret_some hf
        exact ev_iret rfl d11_moor_24
      · refine ev_if_ne_Q (tgt := 25) c16 (by decide) d11_moor_20 ?_
        exact Ev.sub [0, 1, 2] rfl (s11_moor_p25 _ _ _ _ _ _ hf)
abbrev m11_dress : MD := ("MillBoats", ⟨"MillBoats", "dress", "(I)Z"⟩, prog_1_method_7_code, 2, (some Jvm.ClassFile.FieldType.boolean))
theorem k11_dress : okY m11_dress.2.1 1 := ⟨by decide +kernel, by decide +kernel, by decide +kernel⟩
def f11_dress (σ : St) (v0 : Nat) (v1 : Int32) : Option (Int32 × St) :=
  gd (ob σ v0 11) (
  lt (sR σ v0 0) fun b2 => (
  gd (nz b2) (
  gd (ob σ b2 8) (
  bd (f8_has σ b2 v1) fun r6 t7 => (
  (if r6 = (0 : Int32) then
  some ((0 : Int32), t7)
  else
  lt (sR t7 v0 0) fun b11 => (
  gd (nz b11) (
  gd (ob t7 b11 8) (
  lt (sR t7 b11 3) fun b15 => (
  gd (nz b15) (
  gd (ob t7 b15 14) (
  gd (inb t7 b15 v1) (
  (if (sI t7 b15 (ix v1)) = (-2 : Int32) then
  some ((0 : Int32), t7)
  else
  lt (sR t7 b11 2) fun b21 => (
  gd (nz b21) (
  gd (ob t7 b21 17) (
  gd (inb t7 b21 v1) (
  lt (sR t7 b21 (ix v1)) fun b26 => (
  gd (nz b26) (
  gd (ob t7 b26 0) (
  bd (f0_dressOn t7 b26 (sI t7 v0 8)) fun r30 t31 => (
  gd (isB r30) (
  some (r30, t31))))))))))))))))))))))))
set_option maxRecDepth 50000 in
theorem s11_dress : ∀ (σ : St) (v0 : Nat) (v1 : Int32) (r : Int32) (τ : St), f11_dress σ v0 v1 = some (r, τ) → Call 3 m11_dress [.ref v0, .int v1] σ (some (.int r)) τ := by
  intro σ v0 v1 r τ hf
  unfold f11_dress at hf
  refine Call.of (by decide +kernel) rfl (Nat.le_of_ble_eq_true rfl) ?_
  refine ev_aload_n (j := 0) (i := 0) (q := 0) rfl rfl d11_dress_0 ?_
  obtain ⟨h1, hf⟩ := gd_some hf
  obtain ⟨b2, e3, hf⟩ := lt_some hf
  obtain ⟨h4, hf⟩ := gd_some hf
  refine ev_getRb cls11 (j := 0) (by decide) rfl w507 h1 e3 (nz_ne h4) d11_dress_1 ?_
  refine ev_iload_n (j := 1) (i := 1) (q := 1) rfl rfl d11_dress_4 ?_
  obtain ⟨h5, hf⟩ := gd_some hf
  obtain ⟨r6, t7, k8, hf⟩ := bd_some hf
  have q9 := s8_has _ _ _ _ _ k8
  refine ev_callV (vs := [.int v1]) (sk := []) cls8 h5 q9 (by decide) (Nat.le_of_ble_eq_true rfl) w576 w577 w578 w2 w579 k8_has rfl (Nat.le_of_ble_eq_true rfl) d11_dress_5 ?_
  rcases ite_some hf with ⟨c10, hf⟩ | ⟨c10, hf⟩
  · refine ev_if_eq_P (tgt := 25) c10 (by decide) d11_dress_8 ?_
    refine ev_iconst ci_0 d11_dress_25 ?_
    obtain ⟨rfl, rfl⟩ := ret_some hf
    exact ev_zret rfl (by decide) d11_dress_26
  · refine ev_if_eq_Q (tgt := 25) c10 (by decide) d11_dress_8 ?_
    refine ev_aload_n (j := 0) (i := 0) (q := 0) rfl rfl d11_dress_11 ?_
    obtain ⟨b11, e12, hf⟩ := lt_some hf
    obtain ⟨h13, hf⟩ := gd_some hf
    refine ev_getRb cls11 (j := 0) (by decide) rfl w507 (mono_ob q9.1 h1) e12 (nz_ne h13) d11_dress_12 ?_
    obtain ⟨h14, hf⟩ := gd_some hf
    obtain ⟨b15, e16, hf⟩ := lt_some hf
    obtain ⟨h17, hf⟩ := gd_some hf
    refine ev_getRNb cls8 (j := 3) (by decide) rfl w119 h14 e16 (nz_ne h17) d11_dress_15 ?_
    refine ev_iload_n (j := 1) (i := 1) (q := 1) rfl rfl d11_dress_18 ?_
    obtain ⟨h18, hf⟩ := gd_some hf
    obtain ⟨h19, hf⟩ := gd_some hf
    refine ev_iald h18 h19 d11_dress_19 ?_
    refine ev_bipush cb_m2 d11_dress_20 ?_
    rcases ite_some hf with ⟨c20, hf⟩ | ⟨c20, hf⟩
    · refine ev_icmp_ne_P (tgt := 27) c20 (by decide) d11_dress_22 ?_
      refine ev_iconst ci_0 d11_dress_25 ?_
      obtain ⟨rfl, rfl⟩ := ret_some hf
      exact ev_zret rfl (by decide) d11_dress_26
    · refine ev_icmp_ne_Q (tgt := 27) c20 (by decide) d11_dress_22 ?_
      refine ev_aload_n (j := 0) (i := 0) (q := 0) rfl rfl d11_dress_27 ?_
      refine ev_getRb cls11 (j := 0) (by decide) rfl w507 (mono_ob q9.1 h1) e12 (nz_ne h13) d11_dress_28 ?_
      obtain ⟨b21, e22, hf⟩ := lt_some hf
      obtain ⟨h23, hf⟩ := gd_some hf
      refine ev_getRNb cls8 (j := 2) (by decide) rfl w112 h14 e22 (nz_ne h23) d11_dress_31 ?_
      refine ev_iload_n (j := 1) (i := 1) (q := 1) rfl rfl d11_dress_34 ?_
      obtain ⟨h24, hf⟩ := gd_some hf
      obtain ⟨h25, hf⟩ := gd_some hf
      obtain ⟨b26, e27, hf⟩ := lt_some hf
      obtain ⟨h28, hf⟩ := gd_some hf
      refine ev_qaldb (kd := 17) (by decide) (by decide) rfl h24 h25 e27 (nz_ne h28) d11_dress_35 ?_
      refine ev_aload_n (j := 0) (i := 0) (q := 0) rfl rfl d11_dress_36 ?_
      refine ev_getI cls11 (j := 8) (by decide) rfl w515 (mono_ob q9.1 h1) d11_dress_37 ?_
      obtain ⟨h29, hf⟩ := gd_some hf
      obtain ⟨r30, t31, k32, hf⟩ := bd_some hf
      have q33 := s0_dressOn _ _ _ _ _ k32
      refine ev_callV (vs := [.int (sI t7 v0 8)]) (sk := []) cls0 h29 q33 (by decide) (Nat.le_of_ble_eq_true rfl) w588 w589 w590 w4 w591 k0_dressOn rfl (Nat.le_of_ble_eq_true rfl) d11_dress_40 ?_
      obtain ⟨h34, hf⟩ := gd_some hf
      obtain ⟨rfl, rfl⟩ := ret_some hf
      exact ev_zret rfl (narB h34) d11_dress_43
abbrev m11_flow : MD := ("MillBoats", ⟨"MillBoats", "flow", "(II)I"⟩, prog_1_method_8_code, 3, (some Jvm.ClassFile.FieldType.int))
theorem k11_flow : okY m11_flow.2.1 2 := ⟨by decide +kernel, by decide +kernel, by decide +kernel⟩
def f11_flow (σ : St) (v0 : Nat) (v1 : Int32) (v2 : Int32) : Option (Int32 × St) :=
  gd (ob σ v0 11) (
  lt (sR σ v0 0) fun b2 => (
  gd (nz b2) (
  gd (ob σ b2 8) (
  bd (f8_liesAtBerth σ b2 v1) fun r6 t7 => (
  (if r6 = (0 : Int32) then
  some ((-1 : Int32), t7)
  else
  bd (f11_isHeight t7 v2) fun r11 t12 => (
  (if r11 = (0 : Int32) then
  some ((-1 : Int32), t12)
  else
  lt (sR t12 v0 0) fun b16 => (
  gd (nz b16) (
  gd (ob t12 b16 8) (
  lt (sR t12 b16 3) fun b20 => (
  gd (nz b20) (
  bd (f8_flowMet t12 b16 v1 b20 v2) fun r23 t24 => (
  some (r23, t24)))))))))))))))
set_option maxRecDepth 50000 in
theorem s11_flow : ∀ (σ : St) (v0 : Nat) (v1 : Int32) (v2 : Int32) (r : Int32) (τ : St), f11_flow σ v0 v1 v2 = some (r, τ) → Call 5 m11_flow [.ref v0, .int v1, .int v2] σ (some (.int r)) τ := by
  intro σ v0 v1 v2 r τ hf
  unfold f11_flow at hf
  refine Call.of (by decide +kernel) rfl (Nat.le_of_ble_eq_true rfl) ?_
  refine ev_aload_n (j := 0) (i := 0) (q := 0) rfl rfl d11_flow_0 ?_
  obtain ⟨h1, hf⟩ := gd_some hf
  obtain ⟨b2, e3, hf⟩ := lt_some hf
  obtain ⟨h4, hf⟩ := gd_some hf
  refine ev_getRb cls11 (j := 0) (by decide) rfl w507 h1 e3 (nz_ne h4) d11_flow_1 ?_
  refine ev_iload_n (j := 1) (i := 1) (q := 1) rfl rfl d11_flow_4 ?_
  obtain ⟨h5, hf⟩ := gd_some hf
  obtain ⟨r6, t7, k8, hf⟩ := bd_some hf
  have q9 := s8_liesAtBerth _ _ _ _ _ k8
  refine ev_callV (vs := [.int v1]) (sk := []) cls8 h5 q9 (by decide) (Nat.le_of_ble_eq_true rfl) w596 w597 w598 w2 w599 k8_liesAtBerth rfl (Nat.le_of_ble_eq_true rfl) d11_flow_5 ?_
  rcases ite_some hf with ⟨c10, hf⟩ | ⟨c10, hf⟩
  · refine ev_if_eq_P (tgt := 18) c10 (by decide) d11_flow_8 ?_
    refine ev_iconst ci_m1 d11_flow_18 ?_
    obtain ⟨rfl, rfl⟩ := ret_some hf
    exact ev_iret rfl d11_flow_19
  · refine ev_if_eq_Q (tgt := 18) c10 (by decide) d11_flow_8 ?_
    refine ev_iload_n (j := 2) (i := 2) (q := 2) rfl rfl d11_flow_11 ?_
    obtain ⟨r11, t12, k13, hf⟩ := bd_some hf
    have q14 := s11_isHeight _ _ _ _ k13
    refine ev_callS (vs := [.int v2]) (sk := []) q14 (by decide) (Nat.le_of_ble_eq_true rfl) w542 w543 w1 w544 k11_isHeight rfl (Nat.le_of_ble_eq_true rfl) d11_flow_12 ?_
    rcases ite_some hf with ⟨c15, hf⟩ | ⟨c15, hf⟩
    · refine ev_if_ne_P (tgt := 20) c15 (by decide) d11_flow_15 ?_
      refine ev_iconst ci_m1 d11_flow_18 ?_
      obtain ⟨rfl, rfl⟩ := ret_some hf
      exact ev_iret rfl d11_flow_19
    · refine ev_if_ne_Q (tgt := 20) c15 (by decide) d11_flow_15 ?_
      refine ev_aload_n (j := 0) (i := 0) (q := 0) rfl rfl d11_flow_20 ?_
      obtain ⟨b16, e17, hf⟩ := lt_some hf
      obtain ⟨h18, hf⟩ := gd_some hf
      refine ev_getRb cls11 (j := 0) (by decide) rfl w507 (mono_ob q14.1 (mono_ob q9.1 h1)) e17 (nz_ne h18) d11_flow_21 ?_
      refine ev_iload_n (j := 1) (i := 1) (q := 1) rfl rfl d11_flow_24 ?_
      refine ev_aload_n (j := 0) (i := 0) (q := 0) rfl rfl d11_flow_25 ?_
      refine ev_getRb cls11 (j := 0) (by decide) rfl w507 (mono_ob q14.1 (mono_ob q9.1 h1)) e17 (nz_ne h18) d11_flow_26 ?_
      obtain ⟨h19, hf⟩ := gd_some hf
      obtain ⟨b20, e21, hf⟩ := lt_some hf
      obtain ⟨h22, hf⟩ := gd_some hf
      refine ev_getRNb cls8 (j := 3) (by decide) rfl w119 h19 e21 (nz_ne h22) d11_flow_29 ?_
      refine ev_iload_n (j := 2) (i := 2) (q := 2) rfl rfl d11_flow_32 ?_
      obtain ⟨r23, t24, k25, hf⟩ := bd_some hf
      have q26 := s8_flowMet _ _ _ _ _ _ _ k25
      refine ev_callV (vs := [.int v1, .ref b20, .int v2]) (sk := []) cls8 h19 q26 (by decide) (Nat.le_of_ble_eq_true rfl) w601 w602 w603 w2 w604 k8_flowMet rfl (Nat.le_of_ble_eq_true rfl) d11_flow_33 ?_
      obtain ⟨rfl, rfl⟩ := ret_some hf
      exact ev_iret rfl d11_flow_36
abbrev m11_power : MD := ("MillBoats", ⟨"MillBoats", "power", "(II)I"⟩, prog_1_method_9_code, 3, (some Jvm.ClassFile.FieldType.int))
theorem k11_power : okY m11_power.2.1 2 := ⟨by decide +kernel, by decide +kernel, by decide +kernel⟩
def f11_power (σ : St) (v0 : Nat) (v1 : Int32) (v2 : Int32) : Option (Int32 × St) :=
  gd (ob σ v0 11) (
  lt (sR σ v0 0) fun b2 => (
  gd (nz b2) (
  gd (ob σ b2 8) (
  bd (f8_liesAtBerth σ b2 v1) fun r6 t7 => (
  (if r6 = (0 : Int32) then
  some ((-1 : Int32), t7)
  else
  bd (f11_isHeight t7 v2) fun r11 t12 => (
  (if r11 = (0 : Int32) then
  some ((-1 : Int32), t12)
  else
  lt (sR t12 v0 0) fun b16 => (
  gd (nz b16) (
  gd (ob t12 b16 8) (
  lt (sR t12 b16 3) fun b20 => (
  gd (nz b20) (
  bd (f8_powerHad t12 b16 v1 b20 v2) fun r23 t24 => (
  some (r23, t24)))))))))))))))
set_option maxRecDepth 50000 in
theorem s11_power : ∀ (σ : St) (v0 : Nat) (v1 : Int32) (v2 : Int32) (r : Int32) (τ : St), f11_power σ v0 v1 v2 = some (r, τ) → Call 6 m11_power [.ref v0, .int v1, .int v2] σ (some (.int r)) τ := by
  intro σ v0 v1 v2 r τ hf
  unfold f11_power at hf
  refine Call.of (by decide +kernel) rfl (Nat.le_of_ble_eq_true rfl) ?_
  refine ev_aload_n (j := 0) (i := 0) (q := 0) rfl rfl d11_power_0 ?_
  obtain ⟨h1, hf⟩ := gd_some hf
  obtain ⟨b2, e3, hf⟩ := lt_some hf
  obtain ⟨h4, hf⟩ := gd_some hf
  refine ev_getRb cls11 (j := 0) (by decide) rfl w507 h1 e3 (nz_ne h4) d11_power_1 ?_
  refine ev_iload_n (j := 1) (i := 1) (q := 1) rfl rfl d11_power_4 ?_
  obtain ⟨h5, hf⟩ := gd_some hf
  obtain ⟨r6, t7, k8, hf⟩ := bd_some hf
  have q9 := s8_liesAtBerth _ _ _ _ _ k8
  refine ev_callV (vs := [.int v1]) (sk := []) cls8 h5 q9 (by decide) (Nat.le_of_ble_eq_true rfl) w596 w597 w598 w2 w599 k8_liesAtBerth rfl (Nat.le_of_ble_eq_true rfl) d11_power_5 ?_
  rcases ite_some hf with ⟨c10, hf⟩ | ⟨c10, hf⟩
  · refine ev_if_eq_P (tgt := 18) c10 (by decide) d11_power_8 ?_
    refine ev_iconst ci_m1 d11_power_18 ?_
    obtain ⟨rfl, rfl⟩ := ret_some hf
    exact ev_iret rfl d11_power_19
  · refine ev_if_eq_Q (tgt := 18) c10 (by decide) d11_power_8 ?_
    refine ev_iload_n (j := 2) (i := 2) (q := 2) rfl rfl d11_power_11 ?_
    obtain ⟨r11, t12, k13, hf⟩ := bd_some hf
    have q14 := s11_isHeight _ _ _ _ k13
    refine ev_callS (vs := [.int v2]) (sk := []) q14 (by decide) (Nat.le_of_ble_eq_true rfl) w542 w543 w1 w544 k11_isHeight rfl (Nat.le_of_ble_eq_true rfl) d11_power_12 ?_
    rcases ite_some hf with ⟨c15, hf⟩ | ⟨c15, hf⟩
    · refine ev_if_ne_P (tgt := 20) c15 (by decide) d11_power_15 ?_
      refine ev_iconst ci_m1 d11_power_18 ?_
      obtain ⟨rfl, rfl⟩ := ret_some hf
      exact ev_iret rfl d11_power_19
    · refine ev_if_ne_Q (tgt := 20) c15 (by decide) d11_power_15 ?_
      refine ev_aload_n (j := 0) (i := 0) (q := 0) rfl rfl d11_power_20 ?_
      obtain ⟨b16, e17, hf⟩ := lt_some hf
      obtain ⟨h18, hf⟩ := gd_some hf
      refine ev_getRb cls11 (j := 0) (by decide) rfl w507 (mono_ob q14.1 (mono_ob q9.1 h1)) e17 (nz_ne h18) d11_power_21 ?_
      refine ev_iload_n (j := 1) (i := 1) (q := 1) rfl rfl d11_power_24 ?_
      refine ev_aload_n (j := 0) (i := 0) (q := 0) rfl rfl d11_power_25 ?_
      refine ev_getRb cls11 (j := 0) (by decide) rfl w507 (mono_ob q14.1 (mono_ob q9.1 h1)) e17 (nz_ne h18) d11_power_26 ?_
      obtain ⟨h19, hf⟩ := gd_some hf
      obtain ⟨b20, e21, hf⟩ := lt_some hf
      obtain ⟨h22, hf⟩ := gd_some hf
      refine ev_getRNb cls8 (j := 3) (by decide) rfl w119 h19 e21 (nz_ne h22) d11_power_29 ?_
      refine ev_iload_n (j := 2) (i := 2) (q := 2) rfl rfl d11_power_32 ?_
      obtain ⟨r23, t24, k25, hf⟩ := bd_some hf
      have q26 := s8_powerHad _ _ _ _ _ _ _ k25
      refine ev_callV (vs := [.int v1, .ref b20, .int v2]) (sk := []) cls8 h19 q26 (by decide) (Nat.le_of_ble_eq_true rfl) w618 w619 w620 w2 w621 k8_powerHad rfl (Nat.le_of_ble_eq_true rfl) d11_power_33 ?_
      obtain ⟨rfl, rfl⟩ := ret_some hf
      exact ev_iret rfl d11_power_36
abbrev m11_pull : MD := ("MillBoats", ⟨"MillBoats", "pull", "(IIZ)I"⟩, prog_1_method_10_code, 4, (some Jvm.ClassFile.FieldType.int))
theorem k11_pull : okY m11_pull.2.1 3 := ⟨by decide +kernel, by decide +kernel, by decide +kernel⟩
def f11_pull (σ : St) (v0 : Nat) (v1 : Int32) (v2 : Int32) (v3 : Int32) : Option (Int32 × St) :=
  gd (ob σ v0 11) (
  lt (sR σ v0 0) fun b2 => (
  gd (nz b2) (
  gd (ob σ b2 8) (
  bd (f8_liesAtBerth σ b2 v1) fun r6 t7 => (
  (if r6 = (0 : Int32) then
  some ((-1 : Int32), t7)
  else
  bd (f11_isHeight t7 v2) fun r11 t12 => (
  (if r11 = (0 : Int32) then
  some ((-1 : Int32), t12)
  else
  lt (sR t12 v0 0) fun b16 => (
  gd (nz b16) (
  gd (ob t12 b16 8) (
  lt (sR t12 b16 3) fun b20 => (
  gd (nz b20) (
  bd (f8_pullBorne t12 b16 v1 b20 v2 v3) fun r23 t24 => (
  some (r23, t24)))))))))))))))
set_option maxRecDepth 50000 in
theorem s11_pull : ∀ (σ : St) (v0 : Nat) (v1 : Int32) (v2 : Int32) (v3 : Int32) (r : Int32) (τ : St), f11_pull σ v0 v1 v2 v3 = some (r, τ) → Call 6 m11_pull [.ref v0, .int v1, .int v2, .int v3] σ (some (.int r)) τ := by
  intro σ v0 v1 v2 v3 r τ hf
  unfold f11_pull at hf
  refine Call.of (by decide +kernel) rfl (Nat.le_of_ble_eq_true rfl) ?_
  refine ev_aload_n (j := 0) (i := 0) (q := 0) rfl rfl d11_pull_0 ?_
  obtain ⟨h1, hf⟩ := gd_some hf
  obtain ⟨b2, e3, hf⟩ := lt_some hf
  obtain ⟨h4, hf⟩ := gd_some hf
  refine ev_getRb cls11 (j := 0) (by decide) rfl w507 h1 e3 (nz_ne h4) d11_pull_1 ?_
  refine ev_iload_n (j := 1) (i := 1) (q := 1) rfl rfl d11_pull_4 ?_
  obtain ⟨h5, hf⟩ := gd_some hf
  obtain ⟨r6, t7, k8, hf⟩ := bd_some hf
  have q9 := s8_liesAtBerth _ _ _ _ _ k8
  refine ev_callV (vs := [.int v1]) (sk := []) cls8 h5 q9 (by decide) (Nat.le_of_ble_eq_true rfl) w596 w597 w598 w2 w599 k8_liesAtBerth rfl (Nat.le_of_ble_eq_true rfl) d11_pull_5 ?_
  rcases ite_some hf with ⟨c10, hf⟩ | ⟨c10, hf⟩
  · refine ev_if_eq_P (tgt := 18) c10 (by decide) d11_pull_8 ?_
    refine ev_iconst ci_m1 d11_pull_18 ?_
    obtain ⟨rfl, rfl⟩ := ret_some hf
    exact ev_iret rfl d11_pull_19
  · refine ev_if_eq_Q (tgt := 18) c10 (by decide) d11_pull_8 ?_
    refine ev_iload_n (j := 2) (i := 2) (q := 2) rfl rfl d11_pull_11 ?_
    obtain ⟨r11, t12, k13, hf⟩ := bd_some hf
    have q14 := s11_isHeight _ _ _ _ k13
    refine ev_callS (vs := [.int v2]) (sk := []) q14 (by decide) (Nat.le_of_ble_eq_true rfl) w542 w543 w1 w544 k11_isHeight rfl (Nat.le_of_ble_eq_true rfl) d11_pull_12 ?_
    rcases ite_some hf with ⟨c15, hf⟩ | ⟨c15, hf⟩
    · refine ev_if_ne_P (tgt := 20) c15 (by decide) d11_pull_15 ?_
      refine ev_iconst ci_m1 d11_pull_18 ?_
      obtain ⟨rfl, rfl⟩ := ret_some hf
      exact ev_iret rfl d11_pull_19
    · refine ev_if_ne_Q (tgt := 20) c15 (by decide) d11_pull_15 ?_
      refine ev_aload_n (j := 0) (i := 0) (q := 0) rfl rfl d11_pull_20 ?_
      obtain ⟨b16, e17, hf⟩ := lt_some hf
      obtain ⟨h18, hf⟩ := gd_some hf
      refine ev_getRb cls11 (j := 0) (by decide) rfl w507 (mono_ob q14.1 (mono_ob q9.1 h1)) e17 (nz_ne h18) d11_pull_21 ?_
      refine ev_iload_n (j := 1) (i := 1) (q := 1) rfl rfl d11_pull_24 ?_
      refine ev_aload_n (j := 0) (i := 0) (q := 0) rfl rfl d11_pull_25 ?_
      refine ev_getRb cls11 (j := 0) (by decide) rfl w507 (mono_ob q14.1 (mono_ob q9.1 h1)) e17 (nz_ne h18) d11_pull_26 ?_
      obtain ⟨h19, hf⟩ := gd_some hf
      obtain ⟨b20, e21, hf⟩ := lt_some hf
      obtain ⟨h22, hf⟩ := gd_some hf
      refine ev_getRNb cls8 (j := 3) (by decide) rfl w119 h19 e21 (nz_ne h22) d11_pull_29 ?_
      refine ev_iload_n (j := 2) (i := 2) (q := 2) rfl rfl d11_pull_32 ?_
      refine ev_iload_n (j := 3) (i := 3) (q := 3) rfl rfl d11_pull_33 ?_
      obtain ⟨r23, t24, k25, hf⟩ := bd_some hf
      have q26 := s8_pullBorne _ _ _ _ _ _ _ _ k25
      refine ev_callV (vs := [.int v1, .ref b20, .int v2, .int v3]) (sk := []) cls8 h19 q26 (by decide) (Nat.le_of_ble_eq_true rfl) w642 w643 w644 w2 w645 k8_pullBorne rfl (Nat.le_of_ble_eq_true rfl) d11_pull_34 ?_
      obtain ⟨rfl, rfl⟩ := ret_some hf
      exact ev_iret rfl d11_pull_37
abbrev m11_loss : MD := ("MillBoats", ⟨"MillBoats", "loss", "(III)I"⟩, prog_1_method_11_code, 5, (some Jvm.ClassFile.FieldType.int))
theorem k11_loss : okY m11_loss.2.1 3 := ⟨by decide +kernel, by decide +kernel, by decide +kernel⟩
def f11_loss (σ : St) (v0 : Nat) (v1 : Int32) (v2 : Int32) (v3 : Int32) : Option (Int32 × St) :=
  (if v1 = v2 then
  some ((-1 : Int32), σ)
  else
  gd (ob σ v0 11) (
  lt (sR σ v0 0) fun b3 => (
  gd (nz b3) (
  gd (ob σ b3 8) (
  bd (f8_liesAtBerth σ b3 v1) fun r7 t8 => (
  (if r7 = (0 : Int32) then
  some ((-1 : Int32), t8)
  else
  lt (sR t8 v0 0) fun b12 => (
  gd (nz b12) (
  gd (ob t8 b12 8) (
  bd (f8_liesAtBerth t8 b12 v2) fun r16 t17 => (
  (if r16 = (0 : Int32) then
  some ((-1 : Int32), t17)
  else
  bd (f11_isHeight t17 v3) fun r21 t22 => (
  (if r21 = (0 : Int32) then
  some ((-1 : Int32), t22)
  else
  lt (sR t22 v0 0) fun b26 => (
  gd (nz b26) (
  gd (ob t22 b26 8) (
  lt (sR t22 b26 3) fun b30 => (
  gd (nz b30) (
  bd (f8_powerHad t22 b26 v1 b30 v3) fun r33 t34 => (
  lt (sR t34 v0 0) fun b37 => (
  gd (nz b37) (
  gd (ob t34 b37 8) (
  bd (f8_powerWithout t34 b37 v1 v2 v3) fun r41 t42 => (
  some (r41 - r33, t42)))))))))))))))))))))))))
set_option maxRecDepth 50000 in
theorem s11_loss : ∀ (σ : St) (v0 : Nat) (v1 : Int32) (v2 : Int32) (v3 : Int32) (r : Int32) (τ : St), f11_loss σ v0 v1 v2 v3 = some (r, τ) → Call 7 m11_loss [.ref v0, .int v1, .int v2, .int v3] σ (some (.int r)) τ := by
  intro σ v0 v1 v2 v3 r τ hf
  unfold f11_loss at hf
  refine Call.of (by decide +kernel) rfl (Nat.le_of_ble_eq_true rfl) ?_
  refine ev_iload_n (j := 1) (i := 1) (q := 1) rfl rfl d11_loss_0 ?_
  refine ev_iload_n (j := 2) (i := 2) (q := 2) rfl rfl d11_loss_1 ?_
  rcases ite_some hf with ⟨c1, hf⟩ | ⟨c1, hf⟩
  · refine ev_icmp_eq_P (tgt := 34) c1 (by decide) d11_loss_2 ?_
    refine ev_iconst ci_m1 d11_loss_34 ?_
    obtain ⟨rfl, rfl⟩ := ret_some hf
    exact ev_iret rfl d11_loss_35
  · refine ev_icmp_eq_Q (tgt := 34) c1 (by decide) d11_loss_2 ?_
    refine ev_aload_n (j := 0) (i := 0) (q := 0) rfl rfl d11_loss_5 ?_
    obtain ⟨h2, hf⟩ := gd_some hf
    obtain ⟨b3, e4, hf⟩ := lt_some hf
    obtain ⟨h5, hf⟩ := gd_some hf
    refine ev_getRb cls11 (j := 0) (by decide) rfl w507 h2 e4 (nz_ne h5) d11_loss_6 ?_
    refine ev_iload_n (j := 1) (i := 1) (q := 1) rfl rfl d11_loss_9 ?_
    obtain ⟨h6, hf⟩ := gd_some hf
    obtain ⟨r7, t8, k9, hf⟩ := bd_some hf
    have q10 := s8_liesAtBerth _ _ _ _ _ k9
    refine ev_callV (vs := [.int v1]) (sk := []) cls8 h6 q10 (by decide) (Nat.le_of_ble_eq_true rfl) w596 w597 w598 w2 w599 k8_liesAtBerth rfl (Nat.le_of_ble_eq_true rfl) d11_loss_10 ?_
    rcases ite_some hf with ⟨c11, hf⟩ | ⟨c11, hf⟩
    · refine ev_if_eq_P (tgt := 34) c11 (by decide) d11_loss_13 ?_
      refine ev_iconst ci_m1 d11_loss_34 ?_
      obtain ⟨rfl, rfl⟩ := ret_some hf
      exact ev_iret rfl d11_loss_35
    · refine ev_if_eq_Q (tgt := 34) c11 (by decide) d11_loss_13 ?_
      refine ev_aload_n (j := 0) (i := 0) (q := 0) rfl rfl d11_loss_16 ?_
      obtain ⟨b12, e13, hf⟩ := lt_some hf
      obtain ⟨h14, hf⟩ := gd_some hf
      refine ev_getRb cls11 (j := 0) (by decide) rfl w507 (mono_ob q10.1 h2) e13 (nz_ne h14) d11_loss_17 ?_
      refine ev_iload_n (j := 2) (i := 2) (q := 2) rfl rfl d11_loss_20 ?_
      obtain ⟨h15, hf⟩ := gd_some hf
      obtain ⟨r16, t17, k18, hf⟩ := bd_some hf
      have q19 := s8_liesAtBerth _ _ _ _ _ k18
      refine ev_callV (vs := [.int v2]) (sk := []) cls8 h15 q19 (by decide) (Nat.le_of_ble_eq_true rfl) w596 w597 w598 w2 w599 k8_liesAtBerth rfl (Nat.le_of_ble_eq_true rfl) d11_loss_21 ?_
      rcases ite_some hf with ⟨c20, hf⟩ | ⟨c20, hf⟩
      · refine ev_if_eq_P (tgt := 34) c20 (by decide) d11_loss_24 ?_
        refine ev_iconst ci_m1 d11_loss_34 ?_
        obtain ⟨rfl, rfl⟩ := ret_some hf
        exact ev_iret rfl d11_loss_35
      · refine ev_if_eq_Q (tgt := 34) c20 (by decide) d11_loss_24 ?_
        refine ev_iload_n (j := 3) (i := 3) (q := 3) rfl rfl d11_loss_27 ?_
        obtain ⟨r21, t22, k23, hf⟩ := bd_some hf
        have q24 := s11_isHeight _ _ _ _ k23
        refine ev_callS (vs := [.int v3]) (sk := []) q24 (by decide) (Nat.le_of_ble_eq_true rfl) w542 w543 w1 w544 k11_isHeight rfl (Nat.le_of_ble_eq_true rfl) d11_loss_28 ?_
        rcases ite_some hf with ⟨c25, hf⟩ | ⟨c25, hf⟩
        · refine ev_if_ne_P (tgt := 36) c25 (by decide) d11_loss_31 ?_
          refine ev_iconst ci_m1 d11_loss_34 ?_
          obtain ⟨rfl, rfl⟩ := ret_some hf
          exact ev_iret rfl d11_loss_35
        · refine ev_if_ne_Q (tgt := 36) c25 (by decide) d11_loss_31 ?_
          refine ev_aload_n (j := 0) (i := 0) (q := 0) rfl rfl d11_loss_36 ?_
          obtain ⟨b26, e27, hf⟩ := lt_some hf
          obtain ⟨h28, hf⟩ := gd_some hf
          refine ev_getRb cls11 (j := 0) (by decide) rfl w507 (mono_ob q24.1 (mono_ob q19.1 (mono_ob q10.1 h2))) e27 (nz_ne h28) d11_loss_37 ?_
          refine ev_iload_n (j := 1) (i := 1) (q := 1) rfl rfl d11_loss_40 ?_
          refine ev_aload_n (j := 0) (i := 0) (q := 0) rfl rfl d11_loss_41 ?_
          refine ev_getRb cls11 (j := 0) (by decide) rfl w507 (mono_ob q24.1 (mono_ob q19.1 (mono_ob q10.1 h2))) e27 (nz_ne h28) d11_loss_42 ?_
          obtain ⟨h29, hf⟩ := gd_some hf
          obtain ⟨b30, e31, hf⟩ := lt_some hf
          obtain ⟨h32, hf⟩ := gd_some hf
          refine ev_getRNb cls8 (j := 3) (by decide) rfl w119 h29 e31 (nz_ne h32) d11_loss_45 ?_
          refine ev_iload_n (j := 3) (i := 3) (q := 3) rfl rfl d11_loss_48 ?_
          obtain ⟨r33, t34, k35, hf⟩ := bd_some hf
          have q36 := s8_powerHad _ _ _ _ _ _ _ k35
          refine ev_callV (vs := [.int v1, .ref b30, .int v3]) (sk := []) cls8 h29 q36 (by decide) (Nat.le_of_ble_eq_true rfl) w618 w619 w620 w2 w621 k8_powerHad rfl (Nat.le_of_ble_eq_true rfl) d11_loss_49 ?_
          refine ev_istore (lv2 := [(4, .int r33), (0, .ref v0), (1, .int v1), (2, .int v2), (3, .int v3)]) (i := 4) (by decide) rfl d11_loss_52 ?_
          refine ev_aload_n (j := 0) (i := 0) (q := 1) rfl rfl d11_loss_54 ?_
          obtain ⟨b37, e38, hf⟩ := lt_some hf
          obtain ⟨h39, hf⟩ := gd_some hf
          refine ev_getRb cls11 (j := 0) (by decide) rfl w507 (mono_ob q36.1 (mono_ob q24.1 (mono_ob q19.1 (mono_ob q10.1 h2)))) e38 (nz_ne h39) d11_loss_55 ?_
          refine ev_iload_n (j := 1) (i := 1) (q := 2) rfl rfl d11_loss_58 ?_
          refine ev_iload_n (j := 2) (i := 2) (q := 3) rfl rfl d11_loss_59 ?_
          refine ev_iload_n (j := 3) (i := 3) (q := 4) rfl rfl d11_loss_60 ?_
          obtain ⟨h40, hf⟩ := gd_some hf
          obtain ⟨r41, t42, k43, hf⟩ := bd_some hf
          have q44 := s8_powerWithout _ _ _ _ _ _ _ k43
          refine ev_callV (vs := [.int v1, .int v2, .int v3]) (sk := []) cls8 h40 q44 (by decide) (Nat.le_of_ble_eq_true rfl) w650 w651 w652 w2 w653 k8_powerWithout rfl (Nat.le_of_ble_eq_true rfl) d11_loss_61 ?_
          refine ev_iload (i := 4) (q := 0) rfl d11_loss_64 ?_
          refine ev_isub d11_loss_66 ?_
          obtain ⟨rfl, rfl⟩ := ret_some hf
          exact ev_iret rfl d11_loss_67
abbrev m11_isDay : MD := ("MillBoats", ⟨"MillBoats", "isDay", "(I)Z"⟩, prog_1_method_39_code, 1, (some Jvm.ClassFile.FieldType.boolean))
theorem k11_isDay : okY m11_isDay.2.1 1 := ⟨by decide +kernel, by decide +kernel, by decide +kernel⟩
def f11_isDay (σ : St) (v0 : Int32) : Option (Int32 × St) :=
  (if v0 < (0 : Int32) then
  some ((0 : Int32), σ)
  else
  (if v0 ≤ (999 : Int32) then
  some ((1 : Int32), σ)
  else
  some ((0 : Int32), σ)))
set_option maxRecDepth 50000 in
theorem s11_isDay : ∀ (σ : St) (v0 : Int32) (r : Int32) (τ : St), f11_isDay σ v0 = some (r, τ) → Call 2 m11_isDay [.int v0] σ (some (.int r)) τ := by
  intro σ v0 r τ hf
  unfold f11_isDay at hf
  refine Call.of (by decide +kernel) rfl (Nat.le_of_ble_eq_true rfl) ?_
  refine ev_iload_n (j := 0) (i := 0) (q := 0) rfl rfl d11_isDay_0 ?_
  rcases ite_some hf with ⟨c1, hf⟩ | ⟨c1, hf⟩
  · refine ev_if_lt_P (tgt := 15) c1 (by decide) d11_isDay_1 ?_
    refine ev_iconst ci_0 d11_isDay_15 ?_
    obtain ⟨rfl, rfl⟩ := ret_some hf
    exact ev_zret rfl (by decide) d11_isDay_16
  · refine ev_if_lt_Q (tgt := 15) c1 (by decide) d11_isDay_1 ?_
    refine ev_iload_n (j := 0) (i := 0) (q := 0) rfl rfl d11_isDay_4 ?_
    refine ev_sipush cs_999 d11_isDay_5 ?_
    rcases ite_some hf with ⟨c2, hf⟩ | ⟨c2, hf⟩
    · refine ev_icmp_gt_P (tgt := 15) c2 (by decide) d11_isDay_8 ?_
      refine ev_iconst ci_1 d11_isDay_11 ?_
      refine ev_goto (tgt := 16) (by decide) d11_isDay_12 ?_
      obtain ⟨rfl, rfl⟩ := ret_some hf
      exact ev_zret rfl (by decide) d11_isDay_16
    · refine ev_icmp_gt_Q (tgt := 15) c2 (by decide) d11_isDay_8 ?_
      refine ev_iconst ci_0 d11_isDay_15 ?_
      obtain ⟨rfl, rfl⟩ := ret_some hf
      exact ev_zret rfl (by decide) d11_isDay_16
abbrev m11_height : MD := ("MillBoats", ⟨"MillBoats", "height", "(II)Z"⟩, prog_1_method_12_code, 3, (some Jvm.ClassFile.FieldType.boolean))
theorem k11_height : okY m11_height.2.1 2 := ⟨by decide +kernel, by decide +kernel, by decide +kernel⟩
def f11_height (σ : St) (v0 : Nat) (v1 : Int32) (v2 : Int32) : Option (Int32 × St) :=
  bd (f11_isDay σ v1) fun r1 t2 => (
  (if r1 = (0 : Int32) then
  some ((0 : Int32), t2)
  else
  bd (f11_isHeight t2 v2) fun r6 t7 => (
  (if r6 = (0 : Int32) then
  some ((0 : Int32), t7)
  else
  gd (ob t7 v0 11) (
  lt (sR t7 v0 1) fun b12 => (
  gd (nz b12) (
  gd (ob t7 b12 4) (
  lt (sR t7 b12 1) fun b16 => (
  gd (nz b16) (
  gd (ob t7 b16 1) (
  bd (f1_tell t7 b16 v1 v2 (sI t7 v0 8)) fun r20 t21 => (
  (if r20 = (0 : Int32) then
  some ((0 : Int32), t21)
  else
  some ((1 : Int32), t21))))))))))))))
set_option maxRecDepth 50000 in
theorem s11_height : ∀ (σ : St) (v0 : Nat) (v1 : Int32) (v2 : Int32) (r : Int32) (τ : St), f11_height σ v0 v1 v2 = some (r, τ) → Call 3 m11_height [.ref v0, .int v1, .int v2] σ (some (.int r)) τ := by
  intro σ v0 v1 v2 r τ hf
  unfold f11_height at hf
  refine Call.of (by decide +kernel) rfl (Nat.le_of_ble_eq_true rfl) ?_
  refine ev_iload_n (j := 1) (i := 1) (q := 1) rfl rfl d11_height_0 ?_
  obtain ⟨r1, t2, k3, hf⟩ := bd_some hf
  have q4 := s11_isDay _ _ _ _ k3
  refine ev_callS (vs := [.int v1]) (sk := []) q4 (by decide) (Nat.le_of_ble_eq_true rfl) w662 w663 w1 w664 k11_isDay rfl (Nat.le_of_ble_eq_true rfl) d11_height_1 ?_
  rcases ite_some hf with ⟨c5, hf⟩ | ⟨c5, hf⟩
  · refine ev_if_eq_P (tgt := 37) c5 (by decide) d11_height_4 ?_
    refine ev_iconst ci_0 d11_height_37 ?_
    obtain ⟨rfl, rfl⟩ := ret_some hf
    exact ev_zret rfl (by decide) d11_height_38
  · refine ev_if_eq_Q (tgt := 37) c5 (by decide) d11_height_4 ?_
    refine ev_iload_n (j := 2) (i := 2) (q := 2) rfl rfl d11_height_7 ?_
    obtain ⟨r6, t7, k8, hf⟩ := bd_some hf
    have q9 := s11_isHeight _ _ _ _ k8
    refine ev_callS (vs := [.int v2]) (sk := []) q9 (by decide) (Nat.le_of_ble_eq_true rfl) w542 w543 w1 w544 k11_isHeight rfl (Nat.le_of_ble_eq_true rfl) d11_height_8 ?_
    rcases ite_some hf with ⟨c10, hf⟩ | ⟨c10, hf⟩
    · refine ev_if_eq_P (tgt := 37) c10 (by decide) d11_height_11 ?_
      refine ev_iconst ci_0 d11_height_37 ?_
      obtain ⟨rfl, rfl⟩ := ret_some hf
      exact ev_zret rfl (by decide) d11_height_38
    · refine ev_if_eq_Q (tgt := 37) c10 (by decide) d11_height_11 ?_
      refine ev_aload_n (j := 0) (i := 0) (q := 0) rfl rfl d11_height_14 ?_
      obtain ⟨h11, hf⟩ := gd_some hf
      obtain ⟨b12, e13, hf⟩ := lt_some hf
      obtain ⟨h14, hf⟩ := gd_some hf
      refine ev_getRb cls11 (j := 1) (by decide) rfl w508 h11 e13 (nz_ne h14) d11_height_15 ?_
      obtain ⟨h15, hf⟩ := gd_some hf
      obtain ⟨b16, e17, hf⟩ := lt_some hf
      obtain ⟨h18, hf⟩ := gd_some hf
      refine ev_getRNb cls4 (j := 1) (by decide) rfl w317 h15 e17 (nz_ne h18) d11_height_18 ?_
      refine ev_iload_n (j := 1) (i := 1) (q := 1) rfl rfl d11_height_21 ?_
      refine ev_iload_n (j := 2) (i := 2) (q := 2) rfl rfl d11_height_22 ?_
      refine ev_aload_n (j := 0) (i := 0) (q := 0) rfl rfl d11_height_23 ?_
      refine ev_getI cls11 (j := 8) (by decide) rfl w515 h11 d11_height_24 ?_
      obtain ⟨h19, hf⟩ := gd_some hf
      obtain ⟨r20, t21, k22, hf⟩ := bd_some hf
      have q23 := s1_tell _ _ _ _ _ _ _ k22
      refine ev_callV (vs := [.int v1, .int v2, .int (sI t7 v0 8)]) (sk := []) cls1 h19 q23 (by decide) (Nat.le_of_ble_eq_true rfl) w665 w666 w667 w7 w668 k1_tell rfl (Nat.le_of_ble_eq_true rfl) d11_height_27 ?_
      rcases ite_some hf with ⟨c24, hf⟩ | ⟨c24, hf⟩
      · refine ev_if_eq_P (tgt := 37) c24 (by decide) d11_height_30 ?_
        refine ev_iconst ci_0 d11_height_37 ?_
        obtain ⟨rfl, rfl⟩ := ret_some hf
        exact ev_zret rfl (by decide) d11_height_38
      · refine ev_if_eq_Q (tgt := 37) c24 (by decide) d11_height_30 ?_
        refine ev_iconst ci_1 d11_height_33 ?_
        refine ev_goto (tgt := 38) (by decide) d11_height_34 ?_
        obtain ⟨rfl, rfl⟩ := ret_some hf
        exact ev_zret rfl (by decide) d11_height_38
abbrev m11_ice : MD := ("MillBoats", ⟨"MillBoats", "ice", "(IZ)Z"⟩, prog_1_method_13_code, 3, (some Jvm.ClassFile.FieldType.boolean))
theorem k11_ice : okY m11_ice.2.1 2 := ⟨by decide +kernel, by decide +kernel, by decide +kernel⟩
def f11_ice_p24 (σ : St) (v0 : Nat) (x0 : Int32) (x1 : Int32) (x2 : Nat) : Option (Int32 × St) :=
  gd (ob σ v0 11) (
  gd (ob σ x2 1) (
  bd (f1_tell σ x2 x1 x0 (sI σ v0 8)) fun r17 t18 => (
  (if r17 = (0 : Int32) then
  some ((0 : Int32), t18)
  else
  some ((1 : Int32), t18)))))
set_option maxRecDepth 20000 in
theorem s11_ice_p24 : ∀ (σ : St) (v0 : Nat) (x0 : Int32) (x1 : Int32) (x2 : Nat) (r : Int32) (τ : St), f11_ice_p24 σ v0 x0 x1 x2 = some (r, τ) → Ev 3 m11_ice 24 [(0, .ref v0)] [.int x0, .int x1, .ref x2] σ (some (.int r)) τ := by
  intro σ v0 x0 x1 x2 r τ hf
  unfold f11_ice_p24 at hf
  refine ev_aload_n (j := 0) (i := 0) (q := 0) rfl rfl d11_ice_24 ?_
  obtain ⟨h15, hf⟩ := gd_some hf
  refine ev_getI cls11 (j := 8) (by decide) rfl w515 h15 d11_ice_25 ?_
  obtain ⟨h16, hf⟩ := gd_some hf
  obtain ⟨r17, t18, k19, hf⟩ := bd_some hf
  have q20 := s1_tell _ _ _ _ _ _ _ k19
  refine ev_callV (vs := [.int x1, .int x0, .int (sI σ v0 8)]) (sk := []) cls1 h16 q20 (by decide) (Nat.le_of_ble_eq_true rfl) w665 w666 w667 w7 w668 k1_tell rfl (Nat.le_of_ble_eq_true rfl) d11_ice_28 ?_
  rcases ite_some hf with ⟨c21, hf⟩ | ⟨c21, hf⟩
  · refine ev_if_eq_P (tgt := 38) c21 (by decide) d11_ice_31 ?_
    refine ev_iconst ci_0 d11_ice_38 ?_
    obtain ⟨rfl, rfl⟩ := ret_some hf
    exact ev_zret rfl (by decide) d11_ice_39
  · refine ev_if_eq_Q (tgt := 38) c21 (by decide) d11_ice_31 ?_
    refine ev_iconst ci_1 d11_ice_34 ?_
    refine ev_goto (tgt := 39) (by decide) d11_ice_35 ?_
    obtain ⟨rfl, rfl⟩ := ret_some hf
    exact ev_zret rfl (by decide) d11_ice_39
def f11_ice (σ : St) (v0 : Nat) (v1 : Int32) (v2 : Int32) : Option (Int32 × St) :=
  bd (f11_isDay σ v1) fun r1 t2 => (
  (if r1 = (0 : Int32) then
  some ((0 : Int32), t2)
  else
  gd (ob t2 v0 11) (
  lt (sR t2 v0 1) fun b7 => (
  gd (nz b7) (
  gd (ob t2 b7 4) (
  lt (sR t2 b7 2) fun b11 => (
  gd (nz b11) (
  (if v2 = (0 : Int32) then
  f11_ice_p24 t2 v0 (0 : Int32) v1 b11
  else
  f11_ice_p24 t2 v0 (1 : Int32) v1 b11)))))))))
set_option maxRecDepth 50000 in
theorem s11_ice : ∀ (σ : St) (v0 : Nat) (v1 : Int32) (v2 : Int32) (r : Int32) (τ : St), f11_ice σ v0 v1 v2 = some (r, τ) → Call 3 m11_ice [.ref v0, .int v1, .int v2] σ (some (.int r)) τ := by
  intro σ v0 v1 v2 r τ hf
  unfold f11_ice at hf
  refine Call.of (by decide +kernel) rfl (Nat.le_of_ble_eq_true rfl) ?_
  refine ev_iload_n (j := 1) (i := 1) (q := 1) rfl rfl d11_ice_0 ?_
  obtain ⟨r1, t2, k3, hf⟩ := bd_some hf
  have q4 := s11_isDay _ _ _ _ k3
  refine ev_callS (vs := [.int v1]) (sk := []) q4 (by decide) (Nat.le_of_ble_eq_true rfl) w662 w663 w1 w664 k11_isDay rfl (Nat.le_of_ble_eq_true rfl) d11_ice_1 ?_
  rcases ite_some hf with ⟨c5, hf⟩ | ⟨c5, hf⟩
  · refine ev_if_eq_P (tgt := 38) c5 (by decide) d11_ice_4 ?_
    refine ev_iconst ci_0 d11_ice_38 ?_
    obtain ⟨rfl, rfl⟩ := ret_some hf
    exact ev_zret rfl (by decide) d11_ice_39
  · refine ev_if_eq_Q (tgt := 38) c5 (by decide) d11_ice_4 ?_
    refine ev_aload_n (j := 0) (i := 0) (q := 0) rfl rfl d11_ice_7 ?_
    obtain ⟨h6, hf⟩ := gd_some hf
    obtain ⟨b7, e8, hf⟩ := lt_some hf
    obtain ⟨h9, hf⟩ := gd_some hf
    refine ev_getRb cls11 (j := 1) (by decide) rfl w508 h6 e8 (nz_ne h9) d11_ice_8 ?_
    obtain ⟨h10, hf⟩ := gd_some hf
    obtain ⟨b11, e12, hf⟩ := lt_some hf
    obtain ⟨h13, hf⟩ := gd_some hf
    refine ev_getRNb cls4 (j := 2) (by decide) rfl w320 h10 e12 (nz_ne h13) d11_ice_11 ?_
    refine ev_iload_n (j := 1) (i := 1) (q := 1) rfl rfl d11_ice_14 ?_
    refine ev_iload_n (j := 2) (i := 2) (q := 2) rfl rfl d11_ice_15 ?_
    rcases ite_some hf with ⟨c14, hf⟩ | ⟨c14, hf⟩
    · refine ev_if_eq_P (tgt := 23) c14 (by decide) d11_ice_16 ?_
      refine ev_iconst ci_0 d11_ice_23 ?_
      exact Ev.sub [0] rfl (s11_ice_p24 _ _ _ _ _ _ _ hf)
    · refine ev_if_eq_Q (tgt := 23) c14 (by decide) d11_ice_16 ?_
      refine ev_iconst ci_1 d11_ice_19 ?_
      refine ev_goto (tgt := 24) (by decide) d11_ice_20 ?_
      exact Ev.sub [0] rfl (s11_ice_p24 _ _ _ _ _ _ _ hf)
abbrev m11_isKnownDay : MD := ("MillBoats", ⟨"MillBoats", "isKnownDay", "(I)Z"⟩, prog_1_method_38_code, 2, (some Jvm.ClassFile.FieldType.boolean))
theorem k11_isKnownDay : okY m11_isKnownDay.2.1 1 := ⟨by decide +kernel, by decide +kernel, by decide +kernel⟩
def f11_isKnownDay (σ : St) (v0 : Nat) (v1 : Int32) : Option (Int32 × St) :=
  (if v1 < (0 : Int32) then
  some ((0 : Int32), σ)
  else
  gd (ob σ v0 11) (
  (if v1 ≤ (sI σ v0 8) then
  some ((1 : Int32), σ)
  else
  some ((0 : Int32), σ))))
set_option maxRecDepth 50000 in
theorem s11_isKnownDay : ∀ (σ : St) (v0 : Nat) (v1 : Int32) (r : Int32) (τ : St), f11_isKnownDay σ v0 v1 = some (r, τ) → Call 2 m11_isKnownDay [.ref v0, .int v1] σ (some (.int r)) τ := by
  intro σ v0 v1 r τ hf
  unfold f11_isKnownDay at hf
  refine Call.of (by decide +kernel) rfl (Nat.le_of_ble_eq_true rfl) ?_
  refine ev_iload_n (j := 1) (i := 1) (q := 1) rfl rfl d11_isKnownDay_0 ?_
  rcases ite_some hf with ⟨c1, hf⟩ | ⟨c1, hf⟩
  · refine ev_if_lt_P (tgt := 16) c1 (by decide) d11_isKnownDay_1 ?_
    refine ev_iconst ci_0 d11_isKnownDay_16 ?_
    obtain ⟨rfl, rfl⟩ := ret_some hf
    exact ev_zret rfl (by decide) d11_isKnownDay_17
  · refine ev_if_lt_Q (tgt := 16) c1 (by decide) d11_isKnownDay_1 ?_
    refine ev_iload_n (j := 1) (i := 1) (q := 1) rfl rfl d11_isKnownDay_4 ?_
    refine ev_aload_n (j := 0) (i := 0) (q := 0) rfl rfl d11_isKnownDay_5 ?_
    obtain ⟨h2, hf⟩ := gd_some hf
    refine ev_getI cls11 (j := 8) (by decide) rfl w515 h2 d11_isKnownDay_6 ?_
    rcases ite_some hf with ⟨c3, hf⟩ | ⟨c3, hf⟩
    · refine ev_icmp_gt_P (tgt := 16) c3 (by decide) d11_isKnownDay_9 ?_
      refine ev_iconst ci_1 d11_isKnownDay_12 ?_
      refine ev_goto (tgt := 17) (by decide) d11_isKnownDay_13 ?_
      obtain ⟨rfl, rfl⟩ := ret_some hf
      exact ev_zret rfl (by decide) d11_isKnownDay_17
    · refine ev_icmp_gt_Q (tgt := 16) c3 (by decide) d11_isKnownDay_9 ?_
      refine ev_iconst ci_0 d11_isKnownDay_16 ?_
      obtain ⟨rfl, rfl⟩ := ret_some hf
      exact ev_zret rfl (by decide) d11_isKnownDay_17
abbrev m11_heightOf : MD := ("MillBoats", ⟨"MillBoats", "heightOf", "(II)I"⟩, prog_1_method_14_code, 3, (some Jvm.ClassFile.FieldType.int))
theorem k11_heightOf : okY m11_heightOf.2.1 2 := ⟨by decide +kernel, by decide +kernel, by decide +kernel⟩
def f11_heightOf (σ : St) (v0 : Nat) (v1 : Int32) (v2 : Int32) : Option (Int32 × St) :=
  bd (f11_isDay σ v1) fun r1 t2 => (
  (if r1 = (0 : Int32) then
  some ((-1 : Int32), t2)
  else
  gd (ob t2 v0 11) (
  bd (f11_isKnownDay t2 v0 v2) fun r7 t8 => (
  (if r7 = (0 : Int32) then
  some ((-1 : Int32), t8)
  else
  lt (sR t8 v0 1) fun b12 => (
  gd (nz b12) (
  gd (ob t8 b12 4) (
  lt (sR t8 b12 1) fun b16 => (
  gd (nz b16) (
  gd (ob t8 b16 1) (
  bd (f1_latestOr t8 b16 v1 v2 (5 : Int32)) fun r20 t21 => (
  some (r20, t21)))))))))))))
set_option maxRecDepth 50000 in
theorem s11_heightOf : ∀ (σ : St) (v0 : Nat) (v1 : Int32) (v2 : Int32) (r : Int32) (τ : St), f11_heightOf σ v0 v1 v2 = some (r, τ) → Call 4 m11_heightOf [.ref v0, .int v1, .int v2] σ (some (.int r)) τ := by
  intro σ v0 v1 v2 r τ hf
  unfold f11_heightOf at hf
  refine Call.of (by decide +kernel) rfl (Nat.le_of_ble_eq_true rfl) ?_
  refine ev_iload_n (j := 1) (i := 1) (q := 1) rfl rfl d11_heightOf_0 ?_
  obtain ⟨r1, t2, k3, hf⟩ := bd_some hf
  have q4 := s11_isDay _ _ _ _ k3
  refine ev_callS (vs := [.int v1]) (sk := []) q4 (by decide) (Nat.le_of_ble_eq_true rfl) w662 w663 w1 w664 k11_isDay rfl (Nat.le_of_ble_eq_true rfl) d11_heightOf_1 ?_
  rcases ite_some hf with ⟨c5, hf⟩ | ⟨c5, hf⟩
  · refine ev_if_eq_P (tgt := 15) c5 (by decide) d11_heightOf_4 ?_
    refine ev_iconst ci_m1 d11_heightOf_15 ?_
    obtain ⟨rfl, rfl⟩ := ret_some hf
    exact ev_iret rfl d11_heightOf_16
  · refine ev_if_eq_Q (tgt := 15) c5 (by decide) d11_heightOf_4 ?_
    refine ev_aload_n (j := 0) (i := 0) (q := 0) rfl rfl d11_heightOf_7 ?_
    refine ev_iload_n (j := 2) (i := 2) (q := 2) rfl rfl d11_heightOf_8 ?_
    obtain ⟨h6, hf⟩ := gd_some hf
    obtain ⟨r7, t8, k9, hf⟩ := bd_some hf
    have q10 := s11_isKnownDay _ _ _ _ _ k9
    refine ev_callV (vs := [.int v2]) (sk := []) cls11 h6 q10 (by decide) (Nat.le_of_ble_eq_true rfl) w677 w679 ws0 w1 w680 k11_isKnownDay rfl (Nat.le_of_ble_eq_true rfl) d11_heightOf_9 ?_
    rcases ite_some hf with ⟨c11, hf⟩ | ⟨c11, hf⟩
    · refine ev_if_ne_P (tgt := 17) c11 (by decide) d11_heightOf_12 ?_
      refine ev_iconst ci_m1 d11_heightOf_15 ?_
      obtain ⟨rfl, rfl⟩ := ret_some hf
      exact ev_iret rfl d11_heightOf_16
    · refine ev_if_ne_Q (tgt := 17) c11 (by decide) d11_heightOf_12 ?_
      refine ev_aload_n (j := 0) (i := 0) (q := 0) rfl rfl d11_heightOf_17 ?_
      obtain ⟨b12, e13, hf⟩ := lt_some hf
      obtain ⟨h14, hf⟩ := gd_some hf
      refine ev_getRb cls11 (j := 1) (by decide) rfl w508 (mono_ob q10.1 h6) e13 (nz_ne h14) d11_heightOf_18 ?_
      obtain ⟨h15, hf⟩ := gd_some hf
      obtain ⟨b16, e17, hf⟩ := lt_some hf
      obtain ⟨h18, hf⟩ := gd_some hf
      refine ev_getRNb cls4 (j := 1) (by decide) rfl w317 h15 e17 (nz_ne h18) d11_heightOf_21 ?_
      refine ev_iload_n (j := 1) (i := 1) (q := 1) rfl rfl d11_heightOf_24 ?_
      refine ev_iload_n (j := 2) (i := 2) (q := 2) rfl rfl d11_heightOf_25 ?_
      refine ev_iconst ci_5 d11_heightOf_26 ?_
      obtain ⟨h19, hf⟩ := gd_some hf
      obtain ⟨r20, t21, k22, hf⟩ := bd_some hf
      have q23 := s1_latestOr _ _ _ _ _ _ _ k22
      refine ev_callV (vs := [.int v1, .int v2, .int (5 : Int32)]) (sk := []) cls1 h19 q23 (by decide) (Nat.le_of_ble_eq_true rfl) w681 w682 w683 w7 w684 k1_latestOr rfl (Nat.le_of_ble_eq_true rfl) d11_heightOf_27 ?_
      obtain ⟨rfl, rfl⟩ := ret_some hf
      exact ev_iret rfl d11_heightOf_30
abbrev m11_iceOf : MD := ("MillBoats", ⟨"MillBoats", "iceOf", "(II)I"⟩, prog_1_method_15_code, 3, (some Jvm.ClassFile.FieldType.int))
theorem k11_iceOf : okY m11_iceOf.2.1 2 := ⟨by decide +kernel, by decide +kernel, by decide +kernel⟩
def f11_iceOf (σ : St) (v0 : Nat) (v1 : Int32) (v2 : Int32) : Option (Int32 × St) :=
  bd (f11_isDay σ v1) fun r1 t2 => (
  (if r1 = (0 : Int32) then
  some ((-1 : Int32), t2)
  else
  gd (ob t2 v0 11) (
  bd (f11_isKnownDay t2 v0 v2) fun r7 t8 => (
  (if r7 = (0 : Int32) then
  some ((-1 : Int32), t8)
  else
  lt (sR t8 v0 1) fun b12 => (
  gd (nz b12) (
  gd (ob t8 b12 4) (
  lt (sR t8 b12 2) fun b16 => (
  gd (nz b16) (
  gd (ob t8 b16 1) (
  bd (f1_exactOr t8 b16 v1 v2 (0 : Int32)) fun r20 t21 => (
  some (r20, t21)))))))))))))
set_option maxRecDepth 50000 in
theorem s11_iceOf : ∀ (σ : St) (v0 : Nat) (v1 : Int32) (v2 : Int32) (r : Int32) (τ : St), f11_iceOf σ v0 v1 v2 = some (r, τ) → Call 4 m11_iceOf [.ref v0, .int v1, .int v2] σ (some (.int r)) τ := by
  intro σ v0 v1 v2 r τ hf
  unfold f11_iceOf at hf
  refine Call.of (by decide +kernel) rfl (Nat.le_of_ble_eq_true rfl) ?_
  refine ev_iload_n (j := 1) (i := 1) (q := 1) rfl rfl d11_iceOf_0 ?_
  obtain ⟨r1, t2, k3, hf⟩ := bd_some hf
  have q4 := s11_isDay _ _ _ _ k3
  refine ev_callS (vs := [.int v1]) (sk := []) q4 (by decide) (Nat.le_of_ble_eq_true rfl) w662 w663 w1 w664 k11_isDay rfl (Nat.le_of_ble_eq_true rfl) d11_iceOf_1 ?_
  rcases ite_some hf with ⟨c5, hf⟩ | ⟨c5, hf⟩
  · refine ev_if_eq_P (tgt := 15) c5 (by decide) d11_iceOf_4 ?_
    refine ev_iconst ci_m1 d11_iceOf_15 ?_
    obtain ⟨rfl, rfl⟩ := ret_some hf
    exact ev_iret rfl d11_iceOf_16
  · refine ev_if_eq_Q (tgt := 15) c5 (by decide) d11_iceOf_4 ?_
    refine ev_aload_n (j := 0) (i := 0) (q := 0) rfl rfl d11_iceOf_7 ?_
    refine ev_iload_n (j := 2) (i := 2) (q := 2) rfl rfl d11_iceOf_8 ?_
    obtain ⟨h6, hf⟩ := gd_some hf
    obtain ⟨r7, t8, k9, hf⟩ := bd_some hf
    have q10 := s11_isKnownDay _ _ _ _ _ k9
    refine ev_callV (vs := [.int v2]) (sk := []) cls11 h6 q10 (by decide) (Nat.le_of_ble_eq_true rfl) w677 w679 ws0 w1 w680 k11_isKnownDay rfl (Nat.le_of_ble_eq_true rfl) d11_iceOf_9 ?_
    rcases ite_some hf with ⟨c11, hf⟩ | ⟨c11, hf⟩
    · refine ev_if_ne_P (tgt := 17) c11 (by decide) d11_iceOf_12 ?_
      refine ev_iconst ci_m1 d11_iceOf_15 ?_
      obtain ⟨rfl, rfl⟩ := ret_some hf
      exact ev_iret rfl d11_iceOf_16
    · refine ev_if_ne_Q (tgt := 17) c11 (by decide) d11_iceOf_12 ?_
      refine ev_aload_n (j := 0) (i := 0) (q := 0) rfl rfl d11_iceOf_17 ?_
      obtain ⟨b12, e13, hf⟩ := lt_some hf
      obtain ⟨h14, hf⟩ := gd_some hf
      refine ev_getRb cls11 (j := 1) (by decide) rfl w508 (mono_ob q10.1 h6) e13 (nz_ne h14) d11_iceOf_18 ?_
      obtain ⟨h15, hf⟩ := gd_some hf
      obtain ⟨b16, e17, hf⟩ := lt_some hf
      obtain ⟨h18, hf⟩ := gd_some hf
      refine ev_getRNb cls4 (j := 2) (by decide) rfl w320 h15 e17 (nz_ne h18) d11_iceOf_21 ?_
      refine ev_iload_n (j := 1) (i := 1) (q := 1) rfl rfl d11_iceOf_24 ?_
      refine ev_iload_n (j := 2) (i := 2) (q := 2) rfl rfl d11_iceOf_25 ?_
      refine ev_iconst ci_0 d11_iceOf_26 ?_
      obtain ⟨h19, hf⟩ := gd_some hf
      obtain ⟨r20, t21, k22, hf⟩ := bd_some hf
      have q23 := s1_exactOr _ _ _ _ _ _ _ k22
      refine ev_callV (vs := [.int v1, .int v2, .int (0 : Int32)]) (sk := []) cls1 h19 q23 (by decide) (Nat.le_of_ble_eq_true rfl) w693 w694 w695 w7 w696 k1_exactOr rfl (Nat.le_of_ble_eq_true rfl) d11_iceOf_27 ?_
      obtain ⟨rfl, rfl⟩ := ret_some hf
      exact ev_iret rfl d11_iceOf_30
abbrev m11_addBytes : MD := ("MillBoats", ⟨"MillBoats", "addBytes", "(I)V"⟩, prog_1_method_37_code, 3, (none : Option Jvm.ClassFile.FieldType))
theorem k11_addBytes : okY m11_addBytes.2.1 1 := ⟨by decide +kernel, by decide +kernel, by decide +kernel⟩
def f11_addBytes_p3 : Nat → St → Nat → Int32 → Int32 → Option (Unit × St)
  | 0, _, _, _, _ => none
  | n + 1, σ, v0, v1, v2 =>
  (if v2 < (0 : Int32) then
  some ((), σ)
  else
  gd (ob σ v0 11) (
  (if (sI σ v0 7) < (400 : Int32) then
  lt (sR σ v0 6) fun b4 => (
  gd (nz b4) (
  gd (ob σ b4 14) (
  gd (inb σ b4 (sI σ v0 7)) (
  lt (wI σ b4 (ix (sI σ v0 7)) (((v1.toUInt32 >>> (v2.toUInt32 &&& Int32.toUInt32 31)).toInt32) &&& (255 : Int32))) fun t9 => (
  lt (wI t9 v0 7 ((sI t9 v0 7) + (1 : Int32))) fun t11 => (
  lt (v2 + (-8 : Int32)) fun y13 => (
  (f11_addBytes_p3 n) t11 v0 v1 y13)))))))
  else
  some ((), σ))))
set_option maxRecDepth 20000 in
theorem s11_addBytes_p3 : ∀ (n : Nat) (σ : St) (v0 : Nat) (v1 : Int32) (v2 : Int32) (r : Unit) (τ : St), f11_addBytes_p3 n σ v0 v1 v2 = some (r, τ) → Ev 2 m11_addBytes 3 [(0, .ref v0), (1, .int v1), (2, .int v2)] [] σ none τ := by
  intro n
  induction n with
  | zero =>
    intro σ v0 v1 v2 r τ hf
    cases hf
  | succ n ih =>
    intro σ v0 v1 v2 r τ hf
    rw [f11_addBytes_p3] at hf
    refine ev_iload_n (j := 2) (i := 2) (q := 2) rfl rfl d11_addBytes_3 ?_
    rcases ite_some hf with ⟨c1, hf⟩ | ⟨c1, hf⟩
    · refine ev_if_lt_P (tgt := 49) c1 (by decide) d11_addBytes_4 ?_
      obtain ⟨-, rfl⟩ := ret_some hf
      exact ev_vret rfl d11_addBytes_49
    · refine ev_if_lt_Q (tgt := 49) c1 (by decide) d11_addBytes_4 ?_
      refine ev_aload_n (j := 0) (i := 0) (q := 0) rfl rfl d11_addBytes_7 ?_
      obtain ⟨h2, hf⟩ := gd_some hf
      refine ev_getI cls11 (j := 7) (by decide) rfl w514 h2 d11_addBytes_8 ?_
      refine ev_sipush cs_400 d11_addBytes_11 ?_
      rcases ite_some hf with ⟨c3, hf⟩ | ⟨c3, hf⟩
      · refine ev_icmp_ge_P (tgt := 49) c3 (by decide) d11_addBytes_14 ?_
        refine ev_aload_n (j := 0) (i := 0) (q := 0) rfl rfl d11_addBytes_17 ?_
        obtain ⟨b4, e5, hf⟩ := lt_some hf
        obtain ⟨h6, hf⟩ := gd_some hf
        refine ev_getRb cls11 (j := 6) (by decide) rfl w513 h2 e5 (nz_ne h6) d11_addBytes_18 ?_
        refine ev_aload_n (j := 0) (i := 0) (q := 0) rfl rfl d11_addBytes_21 ?_
        refine ev_getI cls11 (j := 7) (by decide) rfl w514 h2 d11_addBytes_22 ?_
        refine ev_iload_n (j := 1) (i := 1) (q := 1) rfl rfl d11_addBytes_25 ?_
        refine ev_iload_n (j := 2) (i := 2) (q := 2) rfl rfl d11_addBytes_26 ?_
        refine ev_iushr d11_addBytes_27 ?_
        refine ev_sipush cs_255 d11_addBytes_28 ?_
        refine ev_iand d11_addBytes_31 ?_
        obtain ⟨h7, hf⟩ := gd_some hf
        obtain ⟨h8, hf⟩ := gd_some hf
        obtain ⟨t9, e10, hf⟩ := lt_some hf
        refine ev_iast h7 h8 d11_addBytes_32 (ev_nmS e10 ?_)
        refine ev_aload_n (j := 0) (i := 0) (q := 0) rfl rfl d11_addBytes_33 ?_
        refine ev_dup rfl d11_addBytes_34 ?_
        refine ev_getI cls11 (j := 7) (by decide) rfl w514 (mono_ob (mono_eI e10) h2) d11_addBytes_35 ?_
        refine ev_iconst ci_1 d11_addBytes_38 ?_
        refine ev_iadd d11_addBytes_39 ?_
        obtain ⟨t11, e12, hf⟩ := lt_some hf
        refine ev_putI cls11 (j := 7) (by decide) rfl rfl w514 (mono_ob (mono_eI e10) h2) (fun _ => ⟨rfl, rfl⟩) d11_addBytes_40 (ev_nmS e12 ?_)
        obtain ⟨y13, e14, hf⟩ := lt_some hf
        refine ev_iinc (lv2 := [(2, .int y13), (0, .ref v0), (1, .int v1)]) (i := 2) (q := 2) (v := y13) (n := -8) rfl (by rw [ci_m8]; exact e14.symm) (by decide) rfl d11_addBytes_43 ?_
        refine ev_goto (tgt := 3) (by decide) d11_addBytes_46 ?_
        exact Ev.sub [1, 2, 0] rfl (ih _ _ _ _ _ _ hf)
      · refine ev_icmp_ge_Q (tgt := 49) c3 (by decide) d11_addBytes_14 ?_
        obtain ⟨-, rfl⟩ := ret_some hf
        exact ev_vret rfl d11_addBytes_49
def f11_addBytes (σ : St) (v0 : Nat) (v1 : Int32) : Option (Unit × St) :=
  f11_addBytes_p3 FU σ v0 v1 (24 : Int32)
set_option maxRecDepth 50000 in
theorem s11_addBytes : ∀ (σ : St) (v0 : Nat) (v1 : Int32) (r : Unit) (τ : St), f11_addBytes σ v0 v1 = some (r, τ) → Call 2 m11_addBytes [.ref v0, .int v1] σ none τ := by
  intro σ v0 v1 r τ hf
  unfold f11_addBytes at hf
  refine Call.of (by decide +kernel) rfl (Nat.le_of_ble_eq_true rfl) ?_
  refine ev_bipush cb_24 d11_addBytes_0 ?_
  refine ev_istore_n (lv2 := [(2, .int (24 : Int32)), (0, .ref v0), (1, .int v1)]) (j := 2) (i := 2) rfl (by decide) rfl d11_addBytes_2 ?_
  exact Ev.sub [1, 2, 0] rfl (s11_addBytes_p3 FU _ _ _ _ _ _ hf)
abbrev m11_feed : MD := ("MillBoats", ⟨"MillBoats", "feed", "(IIIII)I"⟩, prog_1_method_16_code, 6, (some Jvm.ClassFile.FieldType.int))
theorem k11_feed : okY m11_feed.2.1 5 := ⟨by decide +kernel, by decide +kernel, by decide +kernel⟩
def f11_feed (σ : St) (v0 : Nat) (v1 : Int32) (v2 : Int32) (v3 : Int32) (v4 : Int32) (v5 : Int32) : Option (Int32 × St) :=
  gd (ob σ v0 11) (
  (if ((sI σ v0 7) + (20 : Int32)) ≤ (400 : Int32) then
  bd (f11_addBytes σ v0 v1) fun r3 t4 => (
  bd (f11_addBytes t4 v0 v2) fun r7 t8 => (
  bd (f11_addBytes t8 v0 v3) fun r11 t12 => (
  bd (f11_addBytes t12 v0 v4) fun r15 t16 => (
  bd (f11_addBytes t16 v0 v5) fun r19 t20 => (
  some (sI t20 v0 7, t20))))))
  else
  some ((-1 : Int32), σ)))
set_option maxRecDepth 50000 in
theorem s11_feed : ∀ (σ : St) (v0 : Nat) (v1 : Int32) (v2 : Int32) (v3 : Int32) (v4 : Int32) (v5 : Int32) (r : Int32) (τ : St), f11_feed σ v0 v1 v2 v3 v4 v5 = some (r, τ) → Call 3 m11_feed [.ref v0, .int v1, .int v2, .int v3, .int v4, .int v5] σ (some (.int r)) τ := by
  intro σ v0 v1 v2 v3 v4 v5 r τ hf
  unfold f11_feed at hf
  refine Call.of (by decide +kernel) rfl (Nat.le_of_ble_eq_true rfl) ?_
  refine ev_aload_n (j := 0) (i := 0) (q := 0) rfl rfl d11_feed_0 ?_
  obtain ⟨h1, hf⟩ := gd_some hf
  refine ev_getI cls11 (j := 7) (by decide) rfl w514 h1 d11_feed_1 ?_
  refine ev_bipush cb_20 d11_feed_4 ?_
  refine ev_iadd d11_feed_6 ?_
  refine ev_sipush cs_400 d11_feed_7 ?_
  rcases ite_some hf with ⟨c2, hf⟩ | ⟨c2, hf⟩
  · refine ev_icmp_le_P (tgt := 15) c2 (by decide) d11_feed_10 ?_
    refine ev_aload_n (j := 0) (i := 0) (q := 0) rfl rfl d11_feed_15 ?_
    refine ev_iload_n (j := 1) (i := 1) (q := 1) rfl rfl d11_feed_16 ?_
    obtain ⟨r3, t4, k5, hf⟩ := bd_some hf
    have q6 := s11_addBytes _ _ _ _ _ k5
    refine ev_callV (vs := [.int v1]) (sk := []) cls11 h1 q6 (by decide) (Nat.le_of_ble_eq_true rfl) w701 w703 ws1 w1 w704 k11_addBytes rfl (Nat.le_of_ble_eq_true rfl) d11_feed_17 ?_
    refine ev_aload_n (j := 0) (i := 0) (q := 0) rfl rfl d11_feed_20 ?_
    refine ev_iload_n (j := 2) (i := 2) (q := 2) rfl rfl d11_feed_21 ?_
    obtain ⟨r7, t8, k9, hf⟩ := bd_some hf
    have q10 := s11_addBytes _ _ _ _ _ k9
    refine ev_callV (vs := [.int v2]) (sk := []) cls11 (mono_ob q6.1 h1) q10 (by decide) (Nat.le_of_ble_eq_true rfl) w701 w703 ws1 w1 w704 k11_addBytes rfl (Nat.le_of_ble_eq_true rfl) d11_feed_22 ?_
    refine ev_aload_n (j := 0) (i := 0) (q := 0) rfl rfl d11_feed_25 ?_
    refine ev_iload_n (j := 3) (i := 3) (q := 3) rfl rfl d11_feed_26 ?_
    obtain ⟨r11, t12, k13, hf⟩ := bd_some hf
    have q14 := s11_addBytes _ _ _ _ _ k13
    refine ev_callV (vs := [.int v3]) (sk := []) cls11 (mono_ob q10.1 (mono_ob q6.1 h1)) q14 (by decide) (Nat.le_of_ble_eq_true rfl) w701 w703 ws1 w1 w704 k11_addBytes rfl (Nat.le_of_ble_eq_true rfl) d11_feed_27 ?_
    refine ev_aload_n (j := 0) (i := 0) (q := 0) rfl rfl d11_feed_30 ?_
    refine ev_iload (i := 4) (q := 4) rfl d11_feed_31 ?_
    obtain ⟨r15, t16, k17, hf⟩ := bd_some hf
    have q18 := s11_addBytes _ _ _ _ _ k17
    refine ev_callV (vs := [.int v4]) (sk := []) cls11 (mono_ob q14.1 (mono_ob q10.1 (mono_ob q6.1 h1))) q18 (by decide) (Nat.le_of_ble_eq_true rfl) w701 w703 ws1 w1 w704 k11_addBytes rfl (Nat.le_of_ble_eq_true rfl) d11_feed_33 ?_
    refine ev_aload_n (j := 0) (i := 0) (q := 0) rfl rfl d11_feed_36 ?_
    refine ev_iload (i := 5) (q := 5) rfl d11_feed_37 ?_
    obtain ⟨r19, t20, k21, hf⟩ := bd_some hf
    have q22 := s11_addBytes _ _ _ _ _ k21
    refine ev_callV (vs := [.int v5]) (sk := []) cls11 (mono_ob q18.1 (mono_ob q14.1 (mono_ob q10.1 (mono_ob q6.1 h1)))) q22 (by decide) (Nat.le_of_ble_eq_true rfl) w701 w703 ws1 w1 w704 k11_addBytes rfl (Nat.le_of_ble_eq_true rfl) d11_feed_39 ?_
    refine ev_aload_n (j := 0) (i := 0) (q := 0) rfl rfl d11_feed_42 ?_
    refine ev_getI cls11 (j := 7) (by decide) rfl w514 (mono_ob q22.1 (mono_ob q18.1 (mono_ob q14.1 (mono_ob q10.1 (mono_ob q6.1 h1))))) d11_feed_43 ?_
    obtain ⟨rfl, rfl⟩ := ret_some hf
    exact ev_iret rfl d11_feed_46
  · refine ev_icmp_le_Q (tgt := 15) c2 (by decide) d11_feed_10 ?_
    refine ev_iconst ci_m1 d11_feed_13 ?_
    obtain ⟨rfl, rfl⟩ := ret_some hf
    exact ev_iret rfl d11_feed_14
abbrev m11_end : MD := ("MillBoats", ⟨"MillBoats", "end", "(I)I"⟩, prog_1_method_17_code, 2, (some Jvm.ClassFile.FieldType.int))
theorem k11_end : okY m11_end.2.1 1 := ⟨by decide +kernel, by decide +kernel, by decide +kernel⟩
def f11_end (σ : St) (v0 : Nat) (v1 : Int32) : Option (Int32 × St) :=
  (if v1 < (0 : Int32) then
  some ((-1 : Int32), σ)
  else
  gd (ob σ v0 11) (
  (if v1 ≤ (sI σ v0 7) then
  lt (wI σ v0 7 v1) fun t4 => (
  some (v1, t4))
  else
  some ((-1 : Int32), σ))))
set_option maxRecDepth 50000 in
theorem s11_end : ∀ (σ : St) (v0 : Nat) (v1 : Int32) (r : Int32) (τ : St), f11_end σ v0 v1 = some (r, τ) → Call 2 m11_end [.ref v0, .int v1] σ (some (.int r)) τ := by
  intro σ v0 v1 r τ hf
  unfold f11_end at hf
  refine Call.of (by decide +kernel) rfl (Nat.le_of_ble_eq_true rfl) ?_
  refine ev_iload_n (j := 1) (i := 1) (q := 1) rfl rfl d11_end_0 ?_
  rcases ite_some hf with ⟨c1, hf⟩ | ⟨c1, hf⟩
  · refine ev_if_lt_P (tgt := 12) c1 (by decide) d11_end_1 ?_
    refine ev_iconst ci_m1 d11_end_12 ?_
    obtain ⟨rfl, rfl⟩ := ret_some hf
    exact ev_iret rfl d11_end_13
  · refine ev_if_lt_Q (tgt := 12) c1 (by decide) d11_end_1 ?_
    refine ev_iload_n (j := 1) (i := 1) (q := 1) rfl rfl d11_end_4 ?_
    refine ev_aload_n (j := 0) (i := 0) (q := 0) rfl rfl d11_end_5 ?_
    obtain ⟨h2, hf⟩ := gd_some hf
    refine ev_getI cls11 (j := 7) (by decide) rfl w514 h2 d11_end_6 ?_
    rcases ite_some hf with ⟨c3, hf⟩ | ⟨c3, hf⟩
    · refine ev_icmp_le_P (tgt := 14) c3 (by decide) d11_end_9 ?_
      refine ev_aload_n (j := 0) (i := 0) (q := 0) rfl rfl d11_end_14 ?_
      refine ev_iload_n (j := 1) (i := 1) (q := 1) rfl rfl d11_end_15 ?_
      obtain ⟨t4, e5, hf⟩ := lt_some hf
      refine ev_putI cls11 (j := 7) (by decide) rfl rfl w514 h2 (fun _ => ⟨rfl, rfl⟩) d11_end_16 (ev_nmS e5 ?_)
      refine ev_iload_n (j := 1) (i := 1) (q := 1) rfl rfl d11_end_19 ?_
      obtain ⟨rfl, rfl⟩ := ret_some hf
      exact ev_iret rfl d11_end_20
    · refine ev_icmp_le_Q (tgt := 14) c3 (by decide) d11_end_9 ?_
      refine ev_iconst ci_m1 d11_end_12 ?_
      obtain ⟨rfl, rfl⟩ := ret_some hf
      exact ev_iret rfl d11_end_13
abbrev m11_isShore : MD := ("MillBoats", ⟨"MillBoats", "isShore", "(I)Z"⟩, prog_1_method_41_code, 1, (some Jvm.ClassFile.FieldType.boolean))
theorem k11_isShore : okY m11_isShore.2.1 1 := ⟨by decide +kernel, by decide +kernel, by decide +kernel⟩
def f11_isShore (σ : St) (v0 : Int32) : Option (Int32 × St) :=
  (if v0 < (0 : Int32) then
  some ((0 : Int32), σ)
  else
  (if v0 < (2 : Int32) then
  some ((1 : Int32), σ)
  else
  some ((0 : Int32), σ)))
set_option maxRecDepth 50000 in
theorem s11_isShore : ∀ (σ : St) (v0 : Int32) (r : Int32) (τ : St), f11_isShore σ v0 = some (r, τ) → Call 2 m11_isShore [.int v0] σ (some (.int r)) τ := by
  intro σ v0 r τ hf
  unfold f11_isShore at hf
  refine Call.of (by decide +kernel) rfl (Nat.le_of_ble_eq_true rfl) ?_
  refine ev_iload_n (j := 0) (i := 0) (q := 0) rfl rfl d11_isShore_0 ?_
  rcases ite_some hf with ⟨c1, hf⟩ | ⟨c1, hf⟩
  · refine ev_if_lt_P (tgt := 13) c1 (by decide) d11_isShore_1 ?_
    refine ev_iconst ci_0 d11_isShore_13 ?_
    obtain ⟨rfl, rfl⟩ := ret_some hf
    exact ev_zret rfl (by decide) d11_isShore_14
  · refine ev_if_lt_Q (tgt := 13) c1 (by decide) d11_isShore_1 ?_
    refine ev_iload_n (j := 0) (i := 0) (q := 0) rfl rfl d11_isShore_4 ?_
    refine ev_iconst ci_2 d11_isShore_5 ?_
    rcases ite_some hf with ⟨c2, hf⟩ | ⟨c2, hf⟩
    · refine ev_icmp_ge_P (tgt := 13) c2 (by decide) d11_isShore_6 ?_
      refine ev_iconst ci_1 d11_isShore_9 ?_
      refine ev_goto (tgt := 14) (by decide) d11_isShore_10 ?_
      obtain ⟨rfl, rfl⟩ := ret_some hf
      exact ev_zret rfl (by decide) d11_isShore_14
    · refine ev_icmp_ge_Q (tgt := 13) c2 (by decide) d11_isShore_6 ?_
      refine ev_iconst ci_0 d11_isShore_13 ?_
      obtain ⟨rfl, rfl⟩ := ret_some hf
      exact ev_zret rfl (by decide) d11_isShore_14
