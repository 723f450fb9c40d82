theorem d4_lastHolding_0 : decode prog_6_method_13_code 0 = .ok (.iconst (-1), 1) := by decide +kernel
theorem d4_lastHolding_1 : decode prog_6_method_13_code 1 = .ok (.istore 4, 2) := by decide +kernel
theorem d4_lastHolding_3 : decode prog_6_method_13_code 3 = .ok (.aload_n 1, 1) := by decide +kernel
theorem d4_lastHolding_4 : decode prog_6_method_13_code 4 = .ok (.ifnonnull 6, 3) := by decide +kernel
theorem d4_lastHolding_7 : decode prog_6_method_13_code 7 = .ok (.iload 4, 2) := by decide +kernel
theorem d4_lastHolding_9 : decode prog_6_method_13_code 9 = .ok (.ireturn, 1) := by decide +kernel
theorem d4_lastHolding_10 : decode prog_6_method_13_code 10 = .ok (.iconst 0, 1) := by decide +kernel
theorem d4_lastHolding_11 : decode prog_6_method_13_code 11 = .ok (.istore 5, 2) := by decide +kernel
theorem d4_lastHolding_13 : decode prog_6_method_13_code 13 = .ok (.iload 5, 2) := by decide +kernel
theorem d4_lastHolding_15 : decode prog_6_method_13_code 15 = .ok (.aload_n 1, 1) := by decide +kernel
theorem d4_lastHolding_16 : decode prog_6_method_13_code 16 = .ok (.getfield 67, 3) := by decide +kernel
theorem d4_lastHolding_19 : decode prog_6_method_13_code 19 = .ok (.if_icmp .ge 93, 3) := by decide +kernel
theorem d4_lastHolding_22 : decode prog_6_method_13_code 22 = .ok (.aload_n 1, 1) := by decide +kernel
theorem d4_lastHolding_23 : decode prog_6_method_13_code 23 = .ok (.getfield 119, 3) := by decide +kernel
theorem d4_lastHolding_26 : decode prog_6_method_13_code 26 = .ok (.iload 5, 2) := by decide +kernel
theorem d4_lastHolding_28 : decode prog_6_method_13_code 28 = .ok (.iaload, 1) := by decide +kernel
theorem d4_lastHolding_29 : decode prog_6_method_13_code 29 = .ok (.istore 6, 2) := by decide +kernel
theorem d4_lastHolding_31 : decode prog_6_method_13_code 31 = .ok (.iload 6, 2) := by decide +kernel
theorem d4_lastHolding_33 : decode prog_6_method_13_code 33 = .ok (.sipush 256, 3) := by decide +kernel
theorem d4_lastHolding_36 : decode prog_6_method_13_code 36 = .ok (.if_icmp .ne 44, 3) := by decide +kernel
theorem d4_lastHolding_39 : decode prog_6_method_13_code 39 = .ok (.aload_n 1, 1) := by decide +kernel
theorem d4_lastHolding_40 : decode prog_6_method_13_code 40 = .ok (.getfield 126, 3) := by decide +kernel
theorem d4_lastHolding_43 : decode prog_6_method_13_code 43 = .ok (.iload 5, 2) := by decide +kernel
theorem d4_lastHolding_45 : decode prog_6_method_13_code 45 = .ok (.iaload, 1) := by decide +kernel
theorem d4_lastHolding_46 : decode prog_6_method_13_code 46 = .ok (.istore 7, 2) := by decide +kernel
theorem d4_lastHolding_48 : decode prog_6_method_13_code 48 = .ok (.iload 7, 2) := by decide +kernel
theorem d4_lastHolding_50 : decode prog_6_method_13_code 50 = .ok (.ifCond .lt 27, 3) := by decide +kernel
theorem d4_lastHolding_53 : decode prog_6_method_13_code 53 = .ok (.iload 7, 2) := by decide +kernel
theorem d4_lastHolding_55 : decode prog_6_method_13_code 55 = .ok (.aload_n 0, 1) := by decide +kernel
theorem d4_lastHolding_56 : decode prog_6_method_13_code 56 = .ok (.getfield 40, 3) := by decide +kernel
theorem d4_lastHolding_59 : decode prog_6_method_13_code 59 = .ok (.arraylength, 1) := by decide +kernel
theorem d4_lastHolding_60 : decode prog_6_method_13_code 60 = .ok (.if_icmp .ge 17, 3) := by decide +kernel
theorem d4_lastHolding_63 : decode prog_6_method_13_code 63 = .ok (.aload_n 0, 1) := by decide +kernel
theorem d4_lastHolding_64 : decode prog_6_method_13_code 64 = .ok (.getfield 40, 3) := by decide +kernel
theorem d4_lastHolding_67 : decode prog_6_method_13_code 67 = .ok (.iload 7, 2) := by decide +kernel
theorem d4_lastHolding_69 : decode prog_6_method_13_code 69 = .ok (.aload_n 0, 1) := by decide +kernel
theorem d4_lastHolding_70 : decode prog_6_method_13_code 70 = .ok (.aload_n 1, 1) := by decide +kernel
theorem d4_lastHolding_71 : decode prog_6_method_13_code 71 = .ok (.iload 5, 2) := by decide +kernel
theorem d4_lastHolding_73 : decode prog_6_method_13_code 73 = .ok (.invokevirtual 137, 3) := by decide +kernel
theorem d4_lastHolding_76 : decode prog_6_method_13_code 76 = .ok (.iastore, 1) := by decide +kernel
theorem d4_lastHolding_77 : decode prog_6_method_13_code 77 = .ok (.goto 29, 3) := by decide +kernel
theorem d4_lastHolding_80 : decode prog_6_method_13_code 80 = .ok (.iload 6, 2) := by decide +kernel
theorem d4_lastHolding_82 : decode prog_6_method_13_code 82 = .ok (.iload_n 2, 1) := by decide +kernel
theorem d4_lastHolding_83 : decode prog_6_method_13_code 83 = .ok (.if_icmp .eq 9, 3) := by decide +kernel
theorem d4_lastHolding_86 : decode prog_6_method_13_code 86 = .ok (.iload 6, 2) := by decide +kernel
theorem d4_lastHolding_88 : decode prog_6_method_13_code 88 = .ok (.iload_n 3, 1) := by decide +kernel
theorem d4_lastHolding_89 : decode prog_6_method_13_code 89 = .ok (.if_icmp .ne 17, 3) := by decide +kernel
theorem d4_lastHolding_92 : decode prog_6_method_13_code 92 = .ok (.aload_n 0, 1) := by decide +kernel
theorem d4_lastHolding_93 : decode prog_6_method_13_code 93 = .ok (.aload_n 1, 1) := by decide +kernel
theorem d4_lastHolding_94 : decode prog_6_method_13_code 94 = .ok (.iload 5, 2) := by decide +kernel
theorem d4_lastHolding_96 : decode prog_6_method_13_code 96 = .ok (.invokevirtual 137, 3) := by decide +kernel
theorem d4_lastHolding_99 : decode prog_6_method_13_code 99 = .ok (.ifCond .eq 7, 3) := by decide +kernel
theorem d4_lastHolding_102 : decode prog_6_method_13_code 102 = .ok (.iload 5, 2) := by decide +kernel
theorem d4_lastHolding_104 : decode prog_6_method_13_code 104 = .ok (.istore 4, 2) := by decide +kernel
theorem d4_lastHolding_106 : decode prog_6_method_13_code 106 = .ok (.iinc 5 1, 3) := by decide +kernel
theorem d4_lastHolding_109 : decode prog_6_method_13_code 109 = .ok (.goto (-96), 3) := by decide +kernel
theorem d4_lastHolding_112 : decode prog_6_method_13_code 112 = .ok (.iload 4, 2) := by decide +kernel
theorem d4_lastHolding_114 : decode prog_6_method_13_code 114 = .ok (.ireturn, 1) := by decide +kernel
theorem d4_tollFor_0 : decode prog_6_method_12_code 0 = .ok (.aload_n 0, 1) := by decide +kernel
theorem d4_tollFor_1 : decode prog_6_method_12_code 1 = .ok (.iload 4, 2) := by decide +kernel
theorem d4_tollFor_3 : decode prog_6_method_12_code 3 = .ok (.iload 5, 2) := by decide +kernel
theorem d4_tollFor_5 : decode prog_6_method_12_code 5 = .ok (.iload 6, 2) := by decide +kernel
theorem d4_tollFor_7 : decode prog_6_method_12_code 7 = .ok (.iload 6, 2) := by decide +kernel
theorem d4_tollFor_9 : decode prog_6_method_12_code 9 = .ok (.invokevirtual 103, 3) := by decide +kernel
theorem d4_tollFor_12 : decode prog_6_method_12_code 12 = .ok (.aload_n 0, 1) := by decide +kernel
theorem d4_tollFor_13 : decode prog_6_method_12_code 13 = .ok (.getfield 40, 3) := by decide +kernel
theorem d4_tollFor_16 : decode prog_6_method_12_code 16 = .ok (.bipush 8, 2) := by decide +kernel
theorem d4_tollFor_18 : decode prog_6_method_12_code 18 = .ok (.iload_n 3, 1) := by decide +kernel
theorem d4_tollFor_19 : decode prog_6_method_12_code 19 = .ok (.iastore, 1) := by decide +kernel
theorem d4_tollFor_20 : decode prog_6_method_12_code 20 = .ok (.aload_n 0, 1) := by decide +kernel
theorem d4_tollFor_21 : decode prog_6_method_12_code 21 = .ok (.iload_n 2, 1) := by decide +kernel
theorem d4_tollFor_22 : decode prog_6_method_12_code 22 = .ok (.iload 6, 2) := by decide +kernel
theorem d4_tollFor_24 : decode prog_6_method_12_code 24 = .ok (.iload 6, 2) := by decide +kernel
theorem d4_tollFor_26 : decode prog_6_method_12_code 26 = .ok (.invokevirtual 107, 3) := by decide +kernel
theorem d4_tollFor_29 : decode prog_6_method_12_code 29 = .ok (.astore 7, 2) := by decide +kernel
theorem d4_tollFor_31 : decode prog_6_method_12_code 31 = .ok (.aload_n 0, 1) := by decide +kernel
theorem d4_tollFor_32 : decode prog_6_method_12_code 32 = .ok (.aload 7, 2) := by decide +kernel
theorem d4_tollFor_34 : decode prog_6_method_12_code 34 = .ok (.sipush 259, 3) := by decide +kernel
theorem d4_tollFor_37 : decode prog_6_method_12_code 37 = .ok (.sipush 259, 3) := by decide +kernel
theorem d4_tollFor_40 : decode prog_6_method_12_code 40 = .ok (.invokevirtual 111, 3) := by decide +kernel
theorem d4_tollFor_43 : decode prog_6_method_12_code 43 = .ok (.istore 8, 2) := by decide +kernel
theorem d4_tollFor_45 : decode prog_6_method_12_code 45 = .ok (.aload 7, 2) := by decide +kernel
theorem d4_tollFor_47 : decode prog_6_method_12_code 47 = .ok (.ifnull 19, 3) := by decide +kernel
theorem d4_tollFor_50 : decode prog_6_method_12_code 50 = .ok (.iload 8, 2) := by decide +kernel
theorem d4_tollFor_52 : decode prog_6_method_12_code 52 = .ok (.ifCond .lt 14, 3) := by decide +kernel
theorem d4_tollFor_55 : decode prog_6_method_12_code 55 = .ok (.aload 7, 2) := by decide +kernel
theorem d4_tollFor_57 : decode prog_6_method_12_code 57 = .ok (.getfield 134, 3) := by decide +kernel
theorem d4_tollFor_60 : decode prog_6_method_12_code 60 = .ok (.iload 8, 2) := by decide +kernel
theorem d4_tollFor_62 : decode prog_6_method_12_code 62 = .ok (.iaload, 1) := by decide +kernel
theorem d4_tollFor_63 : decode prog_6_method_12_code 63 = .ok (.ifCond .gt 8, 3) := by decide +kernel
theorem d4_tollFor_66 : decode prog_6_method_12_code 66 = .ok (.iload_n 1, 1) := by decide +kernel
theorem d4_tollFor_67 : decode prog_6_method_12_code 67 = .ok (.bipush 16, 2) := by decide +kernel
theorem d4_tollFor_69 : decode prog_6_method_12_code 69 = .ok (.idiv, 1) := by decide +kernel
theorem d4_tollFor_70 : decode prog_6_method_12_code 70 = .ok (.ireturn, 1) := by decide +kernel
theorem d4_tollFor_71 : decode prog_6_method_12_code 71 = .ok (.iload_n 1, 1) := by decide +kernel
theorem d4_tollFor_72 : decode prog_6_method_12_code 72 = .ok (.aload 7, 2) := by decide +kernel
theorem d4_tollFor_74 : decode prog_6_method_12_code 74 = .ok (.getfield 126, 3) := by decide +kernel
theorem d4_tollFor_77 : decode prog_6_method_12_code 77 = .ok (.iload 8, 2) := by decide +kernel
theorem d4_tollFor_79 : decode prog_6_method_12_code 79 = .ok (.iaload, 1) := by decide +kernel
theorem d4_tollFor_80 : decode prog_6_method_12_code 80 = .ok (.imul, 1) := by decide +kernel
theorem d4_tollFor_81 : decode prog_6_method_12_code 81 = .ok (.aload 7, 2) := by decide +kernel
theorem d4_tollFor_83 : decode prog_6_method_12_code 83 = .ok (.getfield 134, 3) := by decide +kernel
theorem d4_tollFor_86 : decode prog_6_method_12_code 86 = .ok (.iload 8, 2) := by decide +kernel
theorem d4_tollFor_88 : decode prog_6_method_12_code 88 = .ok (.iaload, 1) := by decide +kernel
theorem d4_tollFor_89 : decode prog_6_method_12_code 89 = .ok (.idiv, 1) := by decide +kernel
theorem d4_tollFor_90 : decode prog_6_method_12_code 90 = .ok (.ireturn, 1) := by decide +kernel
theorem d3_grindOrders_0 : decode prog_5_method_7_code 0 = .ok (.aload_n 0, 1) := by decide +kernel
theorem d3_grindOrders_1 : decode prog_5_method_7_code 1 = .ok (.getfield 33, 3) := by decide +kernel
theorem d3_grindOrders_4 : decode prog_5_method_7_code 4 = .ok (.getfield 52, 3) := by decide +kernel
theorem d3_grindOrders_7 : decode prog_5_method_7_code 7 = .ok (.iload_n 1, 1) := by decide +kernel
theorem d3_grindOrders_8 : decode prog_5_method_7_code 8 = .ok (.iaload, 1) := by decide +kernel
theorem d3_grindOrders_9 : decode prog_5_method_7_code 9 = .ok (.istore 4, 2) := by decide +kernel
theorem d3_grindOrders_11 : decode prog_5_method_7_code 11 = .ok (.iload 4, 2) := by decide +kernel
theorem d3_grindOrders_13 : decode prog_5_method_7_code 13 = .ok (.invokestatic 82, 3) := by decide +kernel
theorem d3_grindOrders_16 : decode prog_5_method_7_code 16 = .ok (.istore 5, 2) := by decide +kernel
theorem d3_grindOrders_18 : decode prog_5_method_7_code 18 = .ok (.iload_n 3, 1) := by decide +kernel
theorem d3_grindOrders_19 : decode prog_5_method_7_code 19 = .ok (.istore 6, 2) := by decide +kernel
theorem d3_grindOrders_21 : decode prog_5_method_7_code 21 = .ok (.iconst 0, 1) := by decide +kernel
theorem d3_grindOrders_22 : decode prog_5_method_7_code 22 = .ok (.istore 7, 2) := by decide +kernel
theorem d3_grindOrders_24 : decode prog_5_method_7_code 24 = .ok (.iload 7, 2) := by decide +kernel
theorem d3_grindOrders_26 : decode prog_5_method_7_code 26 = .ok (.aload_n 0, 1) := by decide +kernel
theorem d3_grindOrders_27 : decode prog_5_method_7_code 27 = .ok (.getfield 41, 3) := by decide +kernel
theorem d3_grindOrders_30 : decode prog_5_method_7_code 30 = .ok (.if_icmp .ge 195, 3) := by decide +kernel
theorem d3_grindOrders_33 : decode prog_5_method_7_code 33 = .ok (.iload 6, 2) := by decide +kernel
theorem d3_grindOrders_35 : decode prog_5_method_7_code 35 = .ok (.ifCond .le 190, 3) := by decide +kernel
theorem d3_grindOrders_38 : decode prog_5_method_7_code 38 = .ok (.aload_n 0, 1) := by decide +kernel
theorem d3_grindOrders_39 : decode prog_5_method_7_code 39 = .ok (.getfield 18, 3) := by decide +kernel
theorem d3_grindOrders_42 : decode prog_5_method_7_code 42 = .ok (.iload 7, 2) := by decide +kernel
theorem d3_grindOrders_44 : decode prog_5_method_7_code 44 = .ok (.iaload, 1) := by decide +kernel
theorem d3_grindOrders_45 : decode prog_5_method_7_code 45 = .ok (.istore 8, 2) := by decide +kernel
theorem d3_grindOrders_47 : decode prog_5_method_7_code 47 = .ok (.iload 8, 2) := by decide +kernel
theorem d3_grindOrders_49 : decode prog_5_method_7_code 49 = .ok (.ifCond .ne 10, 3) := by decide +kernel
theorem d3_grindOrders_52 : decode prog_5_method_7_code 52 = .ok (.iconst 1, 1) := by decide +kernel
theorem d3_grindOrders_53 : decode prog_5_method_7_code 53 = .ok (.iload 5, 2) := by decide +kernel
theorem d3_grindOrders_55 : decode prog_5_method_7_code 55 = .ok (.iadd, 1) := by decide +kernel
theorem d3_grindOrders_56 : decode prog_5_method_7_code 56 = .ok (.goto 8, 3) := by decide +kernel
theorem d3_grindOrders_59 : decode prog_5_method_7_code 59 = .ok (.bipush 6, 2) := by decide +kernel
theorem d3_grindOrders_61 : decode prog_5_method_7_code 61 = .ok (.iload 5, 2) := by decide +kernel
theorem d3_grindOrders_63 : decode prog_5_method_7_code 63 = .ok (.isub, 1) := by decide +kernel
theorem d3_grindOrders_64 : decode prog_5_method_7_code 64 = .ok (.istore 9, 2) := by decide +kernel
theorem d3_grindOrders_66 : decode prog_5_method_7_code 66 = .ok (.iload 9, 2) := by decide +kernel
theorem d3_grindOrders_68 : decode prog_5_method_7_code 68 = .ok (.ifCond .le 16, 3) := by decide +kernel
theorem d3_grindOrders_71 : decode prog_5_method_7_code 71 = .ok (.aload_n 0, 1) := by decide +kernel
theorem d3_grindOrders_72 : decode prog_5_method_7_code 72 = .ok (.getfield 15, 3) := by decide +kernel
theorem d3_grindOrders_75 : decode prog_5_method_7_code 75 = .ok (.iload 8, 2) := by decide +kernel
theorem d3_grindOrders_77 : decode prog_5_method_7_code 77 = .ok (.iaload, 1) := by decide +kernel
theorem d3_grindOrders_78 : decode prog_5_method_7_code 78 = .ok (.iload 9, 2) := by decide +kernel
theorem d3_grindOrders_80 : decode prog_5_method_7_code 80 = .ok (.idiv, 1) := by decide +kernel
theorem d3_grindOrders_81 : decode prog_5_method_7_code 81 = .ok (.goto 4, 3) := by decide +kernel
theorem d3_grindOrders_84 : decode prog_5_method_7_code 84 = .ok (.iconst 0, 1) := by decide +kernel
theorem d3_grindOrders_85 : decode prog_5_method_7_code 85 = .ok (.istore 10, 2) := by decide +kernel
theorem d3_grindOrders_87 : decode prog_5_method_7_code 87 = .ok (.aload_n 0, 1) := by decide +kernel
theorem d3_grindOrders_88 : decode prog_5_method_7_code 88 = .ok (.getfield 24, 3) := by decide +kernel
theorem d3_grindOrders_91 : decode prog_5_method_7_code 91 = .ok (.iload 7, 2) := by decide +kernel
theorem d3_grindOrders_93 : decode prog_5_method_7_code 93 = .ok (.iaload, 1) := by decide +kernel
theorem d3_grindOrders_94 : decode prog_5_method_7_code 94 = .ok (.iload 6, 2) := by decide +kernel
theorem d3_grindOrders_96 : decode prog_5_method_7_code 96 = .ok (.invokestatic 86, 3) := by decide +kernel
theorem d3_grindOrders_99 : decode prog_5_method_7_code 99 = .ok (.iload 10, 2) := by decide +kernel
theorem d3_grindOrders_101 : decode prog_5_method_7_code 101 = .ok (.invokestatic 86, 3) := by decide +kernel
theorem d3_grindOrders_104 : decode prog_5_method_7_code 104 = .ok (.istore 11, 2) := by decide +kernel
theorem d3_grindOrders_106 : decode prog_5_method_7_code 106 = .ok (.iload 11, 2) := by decide +kernel
theorem d3_grindOrders_108 : decode prog_5_method_7_code 108 = .ok (.ifCond .le 111, 3) := by decide +kernel
theorem d3_grindOrders_111 : decode prog_5_method_7_code 111 = .ok (.aload_n 0, 1) := by decide +kernel
theorem d3_grindOrders_112 : decode prog_5_method_7_code 112 = .ok (.getfield 37, 3) := by decide +kernel
theorem d3_grindOrders_115 : decode prog_5_method_7_code 115 = .ok (.iload 11, 2) := by decide +kernel
theorem d3_grindOrders_117 : decode prog_5_method_7_code 117 = .ok (.iload 8, 2) := by decide +kernel
theorem d3_grindOrders_119 : decode prog_5_method_7_code 119 = .ok (.aload_n 0, 1) := by decide +kernel
theorem d3_grindOrders_120 : decode prog_5_method_7_code 120 = .ok (.getfield 21, 3) := by decide +kernel
theorem d3_grindOrders_123 : decode prog_5_method_7_code 123 = .ok (.iload 7, 2) := by decide +kernel
theorem d3_grindOrders_125 : decode prog_5_method_7_code 125 = .ok (.iaload, 1) := by decide +kernel
theorem d3_grindOrders_126 : decode prog_5_method_7_code 126 = .ok (.iload_n 1, 1) := by decide +kernel
theorem d3_grindOrders_127 : decode prog_5_method_7_code 127 = .ok (.iload 4, 2) := by decide +kernel
theorem d3_grindOrders_129 : decode prog_5_method_7_code 129 = .ok (.iload_n 2, 1) := by decide +kernel
theorem d3_grindOrders_130 : decode prog_5_method_7_code 130 = .ok (.invokevirtual 92, 3) := by decide +kernel
theorem d3_grindOrders_133 : decode prog_5_method_7_code 133 = .ok (.istore 12, 2) := by decide +kernel
theorem d3_grindOrders_135 : decode prog_5_method_7_code 135 = .ok (.iload 6, 2) := by decide +kernel
theorem d3_grindOrders_137 : decode prog_5_method_7_code 137 = .ok (.iload 11, 2) := by decide +kernel
theorem d3_grindOrders_139 : decode prog_5_method_7_code 139 = .ok (.isub, 1) := by decide +kernel
theorem d3_grindOrders_140 : decode prog_5_method_7_code 140 = .ok (.istore 6, 2) := by decide +kernel
theorem d3_grindOrders_142 : decode prog_5_method_7_code 142 = .ok (.aload_n 0, 1) := by decide +kernel
theorem d3_grindOrders_143 : decode prog_5_method_7_code 143 = .ok (.getfield 15, 3) := by decide +kernel
theorem d3_grindOrders_146 : decode prog_5_method_7_code 146 = .ok (.iload 8, 2) := by decide +kernel
theorem d3_grindOrders_148 : decode prog_5_method_7_code 148 = .ok (.dup2, 1) := by decide +kernel
theorem d3_grindOrders_149 : decode prog_5_method_7_code 149 = .ok (.iaload, 1) := by decide +kernel
theorem d3_grindOrders_150 : decode prog_5_method_7_code 150 = .ok (.iload 11, 2) := by decide +kernel
theorem d3_grindOrders_152 : decode prog_5_method_7_code 152 = .ok (.iload 9, 2) := by decide +kernel
theorem d3_grindOrders_154 : decode prog_5_method_7_code 154 = .ok (.imul, 1) := by decide +kernel
theorem d3_grindOrders_155 : decode prog_5_method_7_code 155 = .ok (.isub, 1) := by decide +kernel
theorem d3_grindOrders_156 : decode prog_5_method_7_code 156 = .ok (.iastore, 1) := by decide +kernel
theorem d3_grindOrders_157 : decode prog_5_method_7_code 157 = .ok (.aload_n 0, 1) := by decide +kernel
theorem d3_grindOrders_158 : decode prog_5_method_7_code 158 = .ok (.getfield 24, 3) := by decide +kernel
theorem d3_grindOrders_161 : decode prog_5_method_7_code 161 = .ok (.iload 7, 2) := by decide +kernel
theorem d3_grindOrders_163 : decode prog_5_method_7_code 163 = .ok (.dup2, 1) := by decide +kernel
theorem d3_grindOrders_164 : decode prog_5_method_7_code 164 = .ok (.iaload, 1) := by decide +kernel
theorem d3_grindOrders_165 : decode prog_5_method_7_code 165 = .ok (.iload 11, 2) := by decide +kernel
theorem d3_grindOrders_167 : decode prog_5_method_7_code 167 = .ok (.isub, 1) := by decide +kernel
theorem d3_grindOrders_168 : decode prog_5_method_7_code 168 = .ok (.iastore, 1) := by decide +kernel
theorem d3_grindOrders_169 : decode prog_5_method_7_code 169 = .ok (.aload_n 0, 1) := by decide +kernel
theorem d3_grindOrders_170 : decode prog_5_method_7_code 170 = .ok (.getfield 27, 3) := by decide +kernel
theorem d3_grindOrders_173 : decode prog_5_method_7_code 173 = .ok (.iload 7, 2) := by decide +kernel
theorem d3_grindOrders_175 : decode prog_5_method_7_code 175 = .ok (.dup2, 1) := by decide +kernel
theorem d3_grindOrders_176 : decode prog_5_method_7_code 176 = .ok (.iaload, 1) := by decide +kernel
theorem d3_grindOrders_177 : decode prog_5_method_7_code 177 = .ok (.iload 12, 2) := by decide +kernel
theorem d3_grindOrders_179 : decode prog_5_method_7_code 179 = .ok (.iadd, 1) := by decide +kernel
theorem d3_grindOrders_180 : decode prog_5_method_7_code 180 = .ok (.iastore, 1) := by decide +kernel
theorem d3_grindOrders_181 : decode prog_5_method_7_code 181 = .ok (.aload_n 0, 1) := by decide +kernel
theorem d3_grindOrders_182 : decode prog_5_method_7_code 182 = .ok (.getfield 30, 3) := by decide +kernel
theorem d3_grindOrders_185 : decode prog_5_method_7_code 185 = .ok (.iload 7, 2) := by decide +kernel
theorem d3_grindOrders_187 : decode prog_5_method_7_code 187 = .ok (.aload_n 0, 1) := by decide +kernel
theorem d3_grindOrders_188 : decode prog_5_method_7_code 188 = .ok (.getfield 24, 3) := by decide +kernel
theorem d3_grindOrders_191 : decode prog_5_method_7_code 191 = .ok (.iload 7, 2) := by decide +kernel
theorem d3_grindOrders_193 : decode prog_5_method_7_code 193 = .ok (.iaload, 1) := by decide +kernel
theorem d3_grindOrders_194 : decode prog_5_method_7_code 194 = .ok (.ifCond .ne 7, 3) := by decide +kernel
theorem d3_grindOrders_197 : decode prog_5_method_7_code 197 = .ok (.iload_n 2, 1) := by decide +kernel
theorem d3_grindOrders_198 : decode prog_5_method_7_code 198 = .ok (.goto 4, 3) := by decide +kernel
theorem d3_grindOrders_201 : decode prog_5_method_7_code 201 = .ok (.iconst (-1), 1) := by decide +kernel
theorem d3_grindOrders_202 : decode prog_5_method_7_code 202 = .ok (.iastore, 1) := by decide +kernel
theorem d3_grindOrders_203 : decode prog_5_method_7_code 203 = .ok (.aload_n 0, 1) := by decide +kernel
theorem d3_grindOrders_204 : decode prog_5_method_7_code 204 = .ok (.getfield 33, 3) := by decide +kernel
theorem d3_grindOrders_207 : decode prog_5_method_7_code 207 = .ok (.getfield 67, 3) := by decide +kernel
theorem d3_grindOrders_210 : decode prog_5_method_7_code 210 = .ok (.iload_n 1, 1) := by decide +kernel
theorem d3_grindOrders_211 : decode prog_5_method_7_code 211 = .ok (.aaload, 1) := by decide +kernel
theorem d3_grindOrders_212 : decode prog_5_method_7_code 212 = .ok (.iload 11, 2) := by decide +kernel
theorem d3_grindOrders_214 : decode prog_5_method_7_code 214 = .ok (.iload 12, 2) := by decide +kernel
theorem d3_grindOrders_216 : decode prog_5_method_7_code 216 = .ok (.invokevirtual 96, 3) := by decide +kernel
theorem d3_grindOrders_219 : decode prog_5_method_7_code 219 = .ok (.iinc 7 1, 3) := by decide +kernel
theorem d3_grindOrders_222 : decode prog_5_method_7_code 222 = .ok (.goto (-198), 3) := by decide +kernel
theorem d3_grindOrders_225 : decode prog_5_method_7_code 225 = .ok (.return_, 1) := by decide +kernel
theorem d4_wordKind_0 : decode prog_6_method_10_code 0 = .ok (.aload_n 0, 1) := by decide +kernel
theorem d4_wordKind_1 : decode prog_6_method_10_code 1 = .ok (.aload_n 1, 1) := by decide +kernel
theorem d4_wordKind_2 : decode prog_6_method_10_code 2 = .ok (.sipush 257, 3) := by decide +kernel
theorem d4_wordKind_5 : decode prog_6_method_10_code 5 = .ok (.sipush 258, 3) := by decide +kernel
theorem d4_wordKind_8 : decode prog_6_method_10_code 8 = .ok (.invokevirtual 111, 3) := by decide +kernel
theorem d4_wordKind_11 : decode prog_6_method_10_code 11 = .ok (.istore_n 2, 1) := by decide +kernel
theorem d4_wordKind_12 : decode prog_6_method_10_code 12 = .ok (.aload_n 1, 1) := by decide +kernel
theorem d4_wordKind_13 : decode prog_6_method_10_code 13 = .ok (.ifnull 7, 3) := by decide +kernel
theorem d4_wordKind_16 : decode prog_6_method_10_code 16 = .ok (.iload_n 2, 1) := by decide +kernel
theorem d4_wordKind_17 : decode prog_6_method_10_code 17 = .ok (.ifCond .ge 7, 3) := by decide +kernel
theorem d4_wordKind_20 : decode prog_6_method_10_code 20 = .ok (.iconst (-1), 1) := by decide +kernel
theorem d4_wordKind_21 : decode prog_6_method_10_code 21 = .ok (.goto 9, 3) := by decide +kernel
theorem d4_wordKind_24 : decode prog_6_method_10_code 24 = .ok (.aload_n 1, 1) := by decide +kernel
theorem d4_wordKind_25 : decode prog_6_method_10_code 25 = .ok (.getfield 119, 3) := by decide +kernel
theorem d4_wordKind_28 : decode prog_6_method_10_code 28 = .ok (.iload_n 2, 1) := by decide +kernel
theorem d4_wordKind_29 : decode prog_6_method_10_code 29 = .ok (.iaload, 1) := by decide +kernel
theorem d4_wordKind_30 : decode prog_6_method_10_code 30 = .ok (.ireturn, 1) := by decide +kernel
theorem d4_standing_0 : decode prog_6_method_9_code 0 = .ok (.aload_n 0, 1) := by decide +kernel
theorem d4_standing_1 : decode prog_6_method_9_code 1 = .ok (.iload_n 1, 1) := by decide +kernel
theorem d4_standing_2 : decode prog_6_method_9_code 2 = .ok (.iload_n 2, 1) := by decide +kernel
theorem d4_standing_3 : decode prog_6_method_9_code 3 = .ok (.iload_n 3, 1) := by decide +kernel
theorem d4_standing_4 : decode prog_6_method_9_code 4 = .ok (.iload 4, 2) := by decide +kernel
theorem d4_standing_6 : decode prog_6_method_9_code 6 = .ok (.invokevirtual 103, 3) := by decide +kernel
theorem d4_standing_9 : decode prog_6_method_9_code 9 = .ok (.iload_n 2, 1) := by decide +kernel
theorem d4_standing_10 : decode prog_6_method_9_code 10 = .ok (.invokestatic 78, 3) := by decide +kernel
theorem d4_standing_13 : decode prog_6_method_9_code 13 = .ok (.istore 5, 2) := by decide +kernel
theorem d4_standing_15 : decode prog_6_method_9_code 15 = .ok (.iload 5, 2) := by decide +kernel
theorem d4_standing_17 : decode prog_6_method_9_code 17 = .ok (.iconst 3, 1) := by decide +kernel
theorem d4_standing_18 : decode prog_6_method_9_code 18 = .ok (.if_icmp .gt 18, 3) := by decide +kernel
theorem d4_standing_21 : decode prog_6_method_9_code 21 = .ok (.aload_n 0, 1) := by decide +kernel
theorem d4_standing_22 : decode prog_6_method_9_code 22 = .ok (.aload_n 0, 1) := by decide +kernel
theorem d4_standing_23 : decode prog_6_method_9_code 23 = .ok (.iconst 0, 1) := by decide +kernel
theorem d4_standing_24 : decode prog_6_method_9_code 24 = .ok (.iload_n 3, 1) := by decide +kernel
theorem d4_standing_25 : decode prog_6_method_9_code 25 = .ok (.iload 4, 2) := by decide +kernel
theorem d4_standing_27 : decode prog_6_method_9_code 27 = .ok (.invokevirtual 107, 3) := by decide +kernel
theorem d4_standing_30 : decode prog_6_method_9_code 30 = .ok (.invokevirtual 115, 3) := by decide +kernel
theorem d4_standing_33 : decode prog_6_method_9_code 33 = .ok (.goto 4, 3) := by decide +kernel
theorem d4_standing_36 : decode prog_6_method_9_code 36 = .ok (.iconst (-1), 1) := by decide +kernel
theorem d4_standing_37 : decode prog_6_method_9_code 37 = .ok (.istore 6, 2) := by decide +kernel
theorem d4_standing_39 : decode prog_6_method_9_code 39 = .ok (.iload 5, 2) := by decide +kernel
theorem d4_standing_41 : decode prog_6_method_9_code 41 = .ok (.iconst 2, 1) := by decide +kernel
theorem d4_standing_42 : decode prog_6_method_9_code 42 = .ok (.if_icmp .lt 18, 3) := by decide +kernel
theorem d4_standing_45 : decode prog_6_method_9_code 45 = .ok (.aload_n 0, 1) := by decide +kernel
theorem d4_standing_46 : decode prog_6_method_9_code 46 = .ok (.aload_n 0, 1) := by decide +kernel
theorem d4_standing_47 : decode prog_6_method_9_code 47 = .ok (.iconst 1, 1) := by decide +kernel
theorem d4_standing_48 : decode prog_6_method_9_code 48 = .ok (.iload_n 3, 1) := by decide +kernel
theorem d4_standing_49 : decode prog_6_method_9_code 49 = .ok (.iload 4, 2) := by decide +kernel
theorem d4_standing_51 : decode prog_6_method_9_code 51 = .ok (.invokevirtual 107, 3) := by decide +kernel
theorem d4_standing_54 : decode prog_6_method_9_code 54 = .ok (.invokevirtual 115, 3) := by decide +kernel
theorem d4_standing_57 : decode prog_6_method_9_code 57 = .ok (.goto 4, 3) := by decide +kernel
theorem d4_standing_60 : decode prog_6_method_9_code 60 = .ok (.iconst (-1), 1) := by decide +kernel
theorem d4_standing_61 : decode prog_6_method_9_code 61 = .ok (.istore 7, 2) := by decide +kernel
theorem d4_standing_63 : decode prog_6_method_9_code 63 = .ok (.iload 6, 2) := by decide +kernel
theorem d4_standing_65 : decode prog_6_method_9_code 65 = .ok (.sipush 257, 3) := by decide +kernel
theorem d4_standing_68 : decode prog_6_method_9_code 68 = .ok (.if_icmp .ne 7, 3) := by decide +kernel
theorem d4_standing_71 : decode prog_6_method_9_code 71 = .ok (.iconst 1, 1) := by decide +kernel
theorem d4_standing_72 : decode prog_6_method_9_code 72 = .ok (.goto 4, 3) := by decide +kernel
theorem d4_standing_75 : decode prog_6_method_9_code 75 = .ok (.iconst 0, 1) := by decide +kernel
theorem d4_standing_76 : decode prog_6_method_9_code 76 = .ok (.iload 7, 2) := by decide +kernel
theorem d4_standing_78 : decode prog_6_method_9_code 78 = .ok (.sipush 257, 3) := by decide +kernel
theorem d4_standing_81 : decode prog_6_method_9_code 81 = .ok (.if_icmp .ne 7, 3) := by decide +kernel
theorem d4_standing_84 : decode prog_6_method_9_code 84 = .ok (.iconst 2, 1) := by decide +kernel
theorem d4_standing_85 : decode prog_6_method_9_code 85 = .ok (.goto 4, 3) := by decide +kernel
theorem d4_standing_88 : decode prog_6_method_9_code 88 = .ok (.iconst 0, 1) := by decide +kernel
theorem d4_standing_89 : decode prog_6_method_9_code 89 = .ok (.iadd, 1) := by decide +kernel
theorem d4_standing_90 : decode prog_6_method_9_code 90 = .ok (.istore 8, 2) := by decide +kernel
theorem d4_standing_92 : decode prog_6_method_9_code 92 = .ok (.iload 6, 2) := by decide +kernel
theorem d4_standing_94 : decode prog_6_method_9_code 94 = .ok (.sipush 257, 3) := by decide +kernel
theorem d4_standing_97 : decode prog_6_method_9_code 97 = .ok (.if_icmp .ne 11, 3) := by decide +kernel
theorem d4_standing_100 : decode prog_6_method_9_code 100 = .ok (.iload 7, 2) := by decide +kernel
theorem d4_standing_102 : decode prog_6_method_9_code 102 = .ok (.sipush 258, 3) := by decide +kernel
theorem d4_standing_105 : decode prog_6_method_9_code 105 = .ok (.if_icmp .eq 19, 3) := by decide +kernel
theorem d4_standing_108 : decode prog_6_method_9_code 108 = .ok (.iload 6, 2) := by decide +kernel
theorem d4_standing_110 : decode prog_6_method_9_code 110 = .ok (.sipush 258, 3) := by decide +kernel
theorem d4_standing_113 : decode prog_6_method_9_code 113 = .ok (.if_icmp .ne 15, 3) := by decide +kernel
theorem d4_standing_116 : decode prog_6_method_9_code 116 = .ok (.iload 7, 2) := by decide +kernel
theorem d4_standing_118 : decode prog_6_method_9_code 118 = .ok (.sipush 257, 3) := by decide +kernel
theorem d4_standing_121 : decode prog_6_method_9_code 121 = .ok (.if_icmp .ne 7, 3) := by decide +kernel
theorem d4_standing_124 : decode prog_6_method_9_code 124 = .ok (.iconst 1, 1) := by decide +kernel
theorem d4_standing_125 : decode prog_6_method_9_code 125 = .ok (.goto 4, 3) := by decide +kernel
theorem d4_standing_128 : decode prog_6_method_9_code 128 = .ok (.iconst 0, 1) := by decide +kernel
theorem d4_standing_129 : decode prog_6_method_9_code 129 = .ok (.istore 9, 2) := by decide +kernel
theorem d4_standing_131 : decode prog_6_method_9_code 131 = .ok (.iload 9, 2) := by decide +kernel
theorem d4_standing_133 : decode prog_6_method_9_code 133 = .ok (.ifCond .eq 10, 3) := by decide +kernel
theorem d4_standing_136 : decode prog_6_method_9_code 136 = .ok (.iload 8, 2) := by decide +kernel
theorem d4_standing_138 : decode prog_6_method_9_code 138 = .ok (.iconst 4, 1) := by decide +kernel
theorem d4_standing_139 : decode prog_6_method_9_code 139 = .ok (.iadd, 1) := by decide +kernel
theorem d4_standing_140 : decode prog_6_method_9_code 140 = .ok (.goto 5, 3) := by decide +kernel
theorem d4_standing_143 : decode prog_6_method_9_code 143 = .ok (.iload 8, 2) := by decide +kernel
theorem d4_standing_145 : decode prog_6_method_9_code 145 = .ok (.ireturn, 1) := by decide +kernel
theorem d3_mayGrind_0 : decode prog_5_method_6_code 0 = .ok (.aload_n 0, 1) := by decide +kernel
theorem d3_mayGrind_1 : decode prog_5_method_6_code 1 = .ok (.getfield 33, 3) := by decide +kernel
theorem d3_mayGrind_4 : decode prog_5_method_6_code 4 = .ok (.iload_n 1, 1) := by decide +kernel
theorem d3_mayGrind_5 : decode prog_5_method_6_code 5 = .ok (.invokevirtual 63, 3) := by decide +kernel
theorem d3_mayGrind_8 : decode prog_5_method_6_code 8 = .ok (.ifCond .eq 19, 3) := by decide +kernel
theorem d3_mayGrind_11 : decode prog_5_method_6_code 11 = .ok (.aload_n 0, 1) := by decide +kernel
theorem d3_mayGrind_12 : decode prog_5_method_6_code 12 = .ok (.getfield 33, 3) := by decide +kernel
theorem d3_mayGrind_15 : decode prog_5_method_6_code 15 = .ok (.getfield 67, 3) := by decide +kernel
theorem d3_mayGrind_18 : decode prog_5_method_6_code 18 = .ok (.iload_n 1, 1) := by decide +kernel
theorem d3_mayGrind_19 : decode prog_5_method_6_code 19 = .ok (.aaload, 1) := by decide +kernel
theorem d3_mayGrind_20 : decode prog_5_method_6_code 20 = .ok (.getfield 71, 3) := by decide +kernel
theorem d3_mayGrind_23 : decode prog_5_method_6_code 23 = .ok (.iload_n 2, 1) := by decide +kernel
theorem d3_mayGrind_24 : decode prog_5_method_6_code 24 = .ok (.if_icmp .ne 5, 3) := by decide +kernel
theorem d3_mayGrind_27 : decode prog_5_method_6_code 27 = .ok (.iconst 0, 1) := by decide +kernel
theorem d3_mayGrind_28 : decode prog_5_method_6_code 28 = .ok (.ireturn, 1) := by decide +kernel
theorem d3_mayGrind_29 : decode prog_5_method_6_code 29 = .ok (.aload_n 0, 1) := by decide +kernel
theorem d3_mayGrind_30 : decode prog_5_method_6_code 30 = .ok (.getfield 37, 3) := by decide +kernel
theorem d3_mayGrind_33 : decode prog_5_method_6_code 33 = .ok (.iload_n 1, 1) := by decide +kernel
theorem d3_mayGrind_34 : decode prog_5_method_6_code 34 = .ok (.aload_n 0, 1) := by decide +kernel
theorem d3_mayGrind_35 : decode prog_5_method_6_code 35 = .ok (.getfield 33, 3) := by decide +kernel
theorem d3_mayGrind_38 : decode prog_5_method_6_code 38 = .ok (.getfield 52, 3) := by decide +kernel
theorem d3_mayGrind_41 : decode prog_5_method_6_code 41 = .ok (.iload_n 1, 1) := by decide +kernel
theorem d3_mayGrind_42 : decode prog_5_method_6_code 42 = .ok (.iaload, 1) := by decide +kernel
theorem d3_mayGrind_43 : decode prog_5_method_6_code 43 = .ok (.iload_n 2, 1) := by decide +kernel
theorem d3_mayGrind_44 : decode prog_5_method_6_code 44 = .ok (.iload_n 2, 1) := by decide +kernel
theorem d3_mayGrind_45 : decode prog_5_method_6_code 45 = .ok (.invokevirtual 76, 3) := by decide +kernel
theorem d3_mayGrind_48 : decode prog_5_method_6_code 48 = .ok (.iconst 3, 1) := by decide +kernel
theorem d3_mayGrind_49 : decode prog_5_method_6_code 49 = .ok (.iand, 1) := by decide +kernel
theorem d3_mayGrind_50 : decode prog_5_method_6_code 50 = .ok (.ifCond .ne 7, 3) := by decide +kernel
theorem d3_mayGrind_53 : decode prog_5_method_6_code 53 = .ok (.iconst 1, 1) := by decide +kernel
theorem d3_mayGrind_54 : decode prog_5_method_6_code 54 = .ok (.goto 4, 3) := by decide +kernel
theorem d3_mayGrind_57 : decode prog_5_method_6_code 57 = .ok (.iconst 0, 1) := by decide +kernel
theorem d3_mayGrind_58 : decode prog_5_method_6_code 58 = .ok (.ireturn, 1) := by decide +kernel
theorem d8_powerHad_0 : decode prog_10_method_10_code 0 = .ok (.aload_n 2, 1) := by decide +kernel
theorem d8_powerHad_1 : decode prog_10_method_10_code 1 = .ok (.iload_n 1, 1) := by decide +kernel
theorem d8_powerHad_2 : decode prog_10_method_10_code 2 = .ok (.iaload, 1) := by decide +kernel
theorem d8_powerHad_3 : decode prog_10_method_10_code 3 = .ok (.invokestatic 62, 3) := by decide +kernel
theorem d8_powerHad_6 : decode prog_10_method_10_code 6 = .ok (.ifCond .eq 15, 3) := by decide +kernel
theorem d8_powerHad_9 : decode prog_10_method_10_code 9 = .ok (.aload_n 0, 1) := by decide +kernel
theorem d8_powerHad_10 : decode prog_10_method_10_code 10 = .ok (.aload_n 2, 1) := by decide +kernel
theorem d8_powerHad_11 : decode prog_10_method_10_code 11 = .ok (.iload_n 1, 1) := by decide +kernel
theorem d8_powerHad_12 : decode prog_10_method_10_code 12 = .ok (.iaload, 1) := by decide +kernel
theorem d8_powerHad_13 : decode prog_10_method_10_code 13 = .ok (.iload_n 1, 1) := by decide +kernel
theorem d8_powerHad_14 : decode prog_10_method_10_code 14 = .ok (.iload_n 3, 1) := by decide +kernel
theorem d8_powerHad_15 : decode prog_10_method_10_code 15 = .ok (.invokevirtual 81, 3) := by decide +kernel
theorem d8_powerHad_18 : decode prog_10_method_10_code 18 = .ok (.ifCond .ne 5, 3) := by decide +kernel
theorem d8_powerHad_21 : decode prog_10_method_10_code 21 = .ok (.iconst 0, 1) := by decide +kernel
theorem d8_powerHad_22 : decode prog_10_method_10_code 22 = .ok (.ireturn, 1) := by decide +kernel
theorem d8_powerHad_23 : decode prog_10_method_10_code 23 = .ok (.aload_n 0, 1) := by decide +kernel
theorem d8_powerHad_24 : decode prog_10_method_10_code 24 = .ok (.getfield 17, 3) := by decide +kernel
theorem d8_powerHad_27 : decode prog_10_method_10_code 27 = .ok (.bipush 6, 2) := by decide +kernel
theorem d8_powerHad_29 : decode prog_10_method_10_code 29 = .ok (.aaload, 1) := by decide +kernel
theorem d8_powerHad_30 : decode prog_10_method_10_code 30 = .ok (.aload_n 0, 1) := by decide +kernel
theorem d8_powerHad_31 : decode prog_10_method_10_code 31 = .ok (.iload_n 1, 1) := by decide +kernel
theorem d8_powerHad_32 : decode prog_10_method_10_code 32 = .ok (.aload_n 2, 1) := by decide +kernel
theorem d8_powerHad_33 : decode prog_10_method_10_code 33 = .ok (.iload_n 3, 1) := by decide +kernel
theorem d8_powerHad_34 : decode prog_10_method_10_code 34 = .ok (.invokevirtual 85, 3) := by decide +kernel
theorem d8_powerHad_37 : decode prog_10_method_10_code 37 = .ok (.invokevirtual 69, 3) := by decide +kernel
theorem d8_powerHad_40 : decode prog_10_method_10_code 40 = .ok (.bipush 100, 2) := by decide +kernel
theorem d8_powerHad_42 : decode prog_10_method_10_code 42 = .ok (.aload_n 0, 1) := by decide +kernel
theorem d8_powerHad_43 : decode prog_10_method_10_code 43 = .ok (.getfield 23, 3) := by decide +kernel
theorem d8_powerHad_46 : decode prog_10_method_10_code 46 = .ok (.iload_n 1, 1) := by decide +kernel
theorem d8_powerHad_47 : decode prog_10_method_10_code 47 = .ok (.aaload, 1) := by decide +kernel
theorem d8_powerHad_48 : decode prog_10_method_10_code 48 = .ok (.invokevirtual 89, 3) := by decide +kernel
theorem d8_powerHad_51 : decode prog_10_method_10_code 51 = .ok (.isub, 1) := by decide +kernel
theorem d8_powerHad_52 : decode prog_10_method_10_code 52 = .ok (.imul, 1) := by decide +kernel
theorem d8_powerHad_53 : decode prog_10_method_10_code 53 = .ok (.bipush 100, 2) := by decide +kernel
theorem d8_powerHad_55 : decode prog_10_method_10_code 55 = .ok (.idiv, 1) := by decide +kernel
theorem d8_powerHad_56 : decode prog_10_method_10_code 56 = .ok (.ireturn, 1) := by decide +kernel
theorem d3_grindDay_0 : decode prog_5_method_5_code 0 = .ok (.iconst 0, 1) := by decide +kernel
theorem d3_grindDay_1 : decode prog_5_method_5_code 1 = .ok (.istore_n 3, 1) := by decide +kernel
theorem d3_grindDay_2 : decode prog_5_method_5_code 2 = .ok (.iload_n 3, 1) := by decide +kernel
theorem d3_grindDay_3 : decode prog_5_method_5_code 3 = .ok (.iconst 2, 1) := by decide +kernel
theorem d3_grindDay_4 : decode prog_5_method_5_code 4 = .ok (.if_icmp .ge 24, 3) := by decide +kernel
theorem d3_grindDay_7 : decode prog_5_method_5_code 7 = .ok (.aload_n 0, 1) := by decide +kernel
theorem d3_grindDay_8 : decode prog_5_method_5_code 8 = .ok (.getfield 15, 3) := by decide +kernel
theorem d3_grindDay_11 : decode prog_5_method_5_code 11 = .ok (.iload_n 3, 1) := by decide +kernel
theorem d3_grindDay_12 : decode prog_5_method_5_code 12 = .ok (.bipush 30, 2) := by decide +kernel
theorem d3_grindDay_14 : decode prog_5_method_5_code 14 = .ok (.aload_n 0, 1) := by decide +kernel
theorem d3_grindDay_15 : decode prog_5_method_5_code 15 = .ok (.getfield 9, 3) := by decide +kernel
theorem d3_grindDay_18 : decode prog_5_method_5_code 18 = .ok (.iload_n 3, 1) := by decide +kernel
theorem d3_grindDay_19 : decode prog_5_method_5_code 19 = .ok (.iaload, 1) := by decide +kernel
theorem d3_grindDay_20 : decode prog_5_method_5_code 20 = .ok (.imul, 1) := by decide +kernel
theorem d3_grindDay_21 : decode prog_5_method_5_code 21 = .ok (.iastore, 1) := by decide +kernel
theorem d3_grindDay_22 : decode prog_5_method_5_code 22 = .ok (.iinc 3 1, 3) := by decide +kernel
theorem d3_grindDay_25 : decode prog_5_method_5_code 25 = .ok (.goto (-23), 3) := by decide +kernel
theorem d3_grindDay_28 : decode prog_5_method_5_code 28 = .ok (.aload_n 0, 1) := by decide +kernel
theorem d3_grindDay_29 : decode prog_5_method_5_code 29 = .ok (.getfield 33, 3) := by decide +kernel
theorem d3_grindDay_32 : decode prog_5_method_5_code 32 = .ok (.getfield 45, 3) := by decide +kernel
theorem d3_grindDay_35 : decode prog_5_method_5_code 35 = .ok (.istore_n 3, 1) := by decide +kernel
theorem d3_grindDay_36 : decode prog_5_method_5_code 36 = .ok (.iload_n 3, 1) := by decide +kernel
theorem d3_grindDay_37 : decode prog_5_method_5_code 37 = .ok (.ifCond .gt 4, 3) := by decide +kernel
theorem d3_grindDay_40 : decode prog_5_method_5_code 40 = .ok (.return_, 1) := by decide +kernel
theorem d3_grindDay_41 : decode prog_5_method_5_code 41 = .ok (.iconst 0, 1) := by decide +kernel
theorem d3_grindDay_42 : decode prog_5_method_5_code 42 = .ok (.istore 4, 2) := by decide +kernel
theorem d3_grindDay_44 : decode prog_5_method_5_code 44 = .ok (.iload 4, 2) := by decide +kernel
theorem d3_grindDay_46 : decode prog_5_method_5_code 46 = .ok (.iload_n 3, 1) := by decide +kernel
theorem d3_grindDay_47 : decode prog_5_method_5_code 47 = .ok (.if_icmp .ge 51, 3) := by decide +kernel
theorem d3_grindDay_50 : decode prog_5_method_5_code 50 = .ok (.iload_n 1, 1) := by decide +kernel
theorem d3_grindDay_51 : decode prog_5_method_5_code 51 = .ok (.iload 4, 2) := by decide +kernel
theorem d3_grindDay_53 : decode prog_5_method_5_code 53 = .ok (.iadd, 1) := by decide +kernel
theorem d3_grindDay_54 : decode prog_5_method_5_code 54 = .ok (.iload_n 3, 1) := by decide +kernel
theorem d3_grindDay_55 : decode prog_5_method_5_code 55 = .ok (.irem, 1) := by decide +kernel
theorem d3_grindDay_56 : decode prog_5_method_5_code 56 = .ok (.istore 5, 2) := by decide +kernel
theorem d3_grindDay_58 : decode prog_5_method_5_code 58 = .ok (.aload_n 0, 1) := by decide +kernel
theorem d3_grindDay_59 : decode prog_5_method_5_code 59 = .ok (.iload 5, 2) := by decide +kernel
theorem d3_grindDay_61 : decode prog_5_method_5_code 61 = .ok (.iload_n 1, 1) := by decide +kernel
theorem d3_grindDay_62 : decode prog_5_method_5_code 62 = .ok (.invokevirtual 48, 3) := by decide +kernel
theorem d3_grindDay_65 : decode prog_5_method_5_code 65 = .ok (.ifCond .eq 27, 3) := by decide +kernel
theorem d3_grindDay_68 : decode prog_5_method_5_code 68 = .ok (.aload_n 0, 1) := by decide +kernel
theorem d3_grindDay_69 : decode prog_5_method_5_code 69 = .ok (.iload 5, 2) := by decide +kernel
theorem d3_grindDay_71 : decode prog_5_method_5_code 71 = .ok (.iload_n 1, 1) := by decide +kernel
theorem d3_grindDay_72 : decode prog_5_method_5_code 72 = .ok (.aload_n 0, 1) := by decide +kernel
theorem d3_grindDay_73 : decode prog_5_method_5_code 73 = .ok (.getfield 33, 3) := by decide +kernel
theorem d3_grindDay_76 : decode prog_5_method_5_code 76 = .ok (.iload 5, 2) := by decide +kernel
theorem d3_grindDay_78 : decode prog_5_method_5_code 78 = .ok (.aload_n 0, 1) := by decide +kernel
theorem d3_grindDay_79 : decode prog_5_method_5_code 79 = .ok (.getfield 33, 3) := by decide +kernel
theorem d3_grindDay_82 : decode prog_5_method_5_code 82 = .ok (.getfield 52, 3) := by decide +kernel
theorem d3_grindDay_85 : decode prog_5_method_5_code 85 = .ok (.iload_n 2, 1) := by decide +kernel
theorem d3_grindDay_86 : decode prog_5_method_5_code 86 = .ok (.invokevirtual 55, 3) := by decide +kernel
theorem d3_grindDay_89 : decode prog_5_method_5_code 89 = .ok (.invokevirtual 59, 3) := by decide +kernel
theorem d3_grindDay_92 : decode prog_5_method_5_code 92 = .ok (.iinc 4 1, 3) := by decide +kernel
theorem d3_grindDay_95 : decode prog_5_method_5_code 95 = .ok (.goto (-51), 3) := by decide +kernel
theorem d3_grindDay_98 : decode prog_5_method_5_code 98 = .ok (.return_, 1) := by decide +kernel
theorem d7_withLetter_0 : decode prog_9_method_3_code 0 = .ok (.lload_n 0, 1) := by decide +kernel
theorem d7_withLetter_1 : decode prog_9_method_3_code 1 = .ok (.ldc2_w 63, 3) := by decide +kernel
theorem d7_withLetter_4 : decode prog_9_method_3_code 4 = .ok (.lmul, 1) := by decide +kernel
theorem d7_withLetter_5 : decode prog_9_method_3_code 5 = .ok (.iload_n 2, 1) := by decide +kernel
theorem d7_withLetter_6 : decode prog_9_method_3_code 6 = .ok (.bipush 97, 2) := by decide +kernel
theorem d7_withLetter_8 : decode prog_9_method_3_code 8 = .ok (.isub, 1) := by decide +kernel
theorem d7_withLetter_9 : decode prog_9_method_3_code 9 = .ok (.iconst 1, 1) := by decide +kernel
theorem d7_withLetter_10 : decode prog_9_method_3_code 10 = .ok (.iadd, 1) := by decide +kernel
theorem d7_withLetter_11 : decode prog_9_method_3_code 11 = .ok (.i2l, 1) := by decide +kernel
theorem d7_withLetter_12 : decode prog_9_method_3_code 12 = .ok (.ladd, 1) := by decide +kernel
theorem d7_withLetter_13 : decode prog_9_method_3_code 13 = .ok (.lreturn, 1) := by decide +kernel
theorem d7_spell_0 : decode prog_9_method_2_code 0 = .ok (.iconst 0, 1) := by decide +kernel
theorem d7_spell_1 : decode prog_9_method_2_code 1 = .ok (.istore_n 2, 1) := by decide +kernel
theorem d7_spell_2 : decode prog_9_method_2_code 2 = .ok (.iconst 0, 1) := by decide +kernel
theorem d7_spell_3 : decode prog_9_method_2_code 3 = .ok (.istore_n 3, 1) := by decide +kernel
theorem d7_spell_4 : decode prog_9_method_2_code 4 = .ok (.iload_n 3, 1) := by decide +kernel
theorem d7_spell_5 : decode prog_9_method_2_code 5 = .ok (.aload_n 0, 1) := by decide +kernel
theorem d7_spell_6 : decode prog_9_method_2_code 6 = .ok (.invokevirtual 49, 3) := by decide +kernel
theorem d7_spell_9 : decode prog_9_method_2_code 9 = .ok (.if_icmp .ge 45, 3) := by decide +kernel
theorem d7_spell_12 : decode prog_9_method_2_code 12 = .ok (.aload_n 0, 1) := by decide +kernel
theorem d7_spell_13 : decode prog_9_method_2_code 13 = .ok (.iload_n 3, 1) := by decide +kernel
theorem d7_spell_14 : decode prog_9_method_2_code 14 = .ok (.invokevirtual 55, 3) := by decide +kernel
theorem d7_spell_17 : decode prog_9_method_2_code 17 = .ok (.bipush 32, 2) := by decide +kernel
theorem d7_spell_19 : decode prog_9_method_2_code 19 = .ok (.if_icmp .ne 9, 3) := by decide +kernel
theorem d7_spell_22 : decode prog_9_method_2_code 22 = .ok (.iinc 2 1, 3) := by decide +kernel
theorem d7_spell_25 : decode prog_9_method_2_code 25 = .ok (.goto 23, 3) := by decide +kernel
theorem d7_spell_28 : decode prog_9_method_2_code 28 = .ok (.iload_n 2, 1) := by decide +kernel
theorem d7_spell_29 : decode prog_9_method_2_code 29 = .ok (.aload_n 1, 1) := by decide +kernel
theorem d7_spell_30 : decode prog_9_method_2_code 30 = .ok (.arraylength, 1) := by decide +kernel
theorem d7_spell_31 : decode prog_9_method_2_code 31 = .ok (.if_icmp .ge 17, 3) := by decide +kernel
theorem d7_spell_34 : decode prog_9_method_2_code 34 = .ok (.aload_n 1, 1) := by decide +kernel
theorem d7_spell_35 : decode prog_9_method_2_code 35 = .ok (.iload_n 2, 1) := by decide +kernel
theorem d7_spell_36 : decode prog_9_method_2_code 36 = .ok (.aload_n 1, 1) := by decide +kernel
theorem d7_spell_37 : decode prog_9_method_2_code 37 = .ok (.iload_n 2, 1) := by decide +kernel
theorem d7_spell_38 : decode prog_9_method_2_code 38 = .ok (.laload, 1) := by decide +kernel
theorem d7_spell_39 : decode prog_9_method_2_code 39 = .ok (.aload_n 0, 1) := by decide +kernel
theorem d7_spell_40 : decode prog_9_method_2_code 40 = .ok (.iload_n 3, 1) := by decide +kernel
theorem d7_spell_41 : decode prog_9_method_2_code 41 = .ok (.invokevirtual 55, 3) := by decide +kernel
theorem d7_spell_44 : decode prog_9_method_2_code 44 = .ok (.invokestatic 59, 3) := by decide +kernel
theorem d7_spell_47 : decode prog_9_method_2_code 47 = .ok (.lastore, 1) := by decide +kernel
theorem d7_spell_48 : decode prog_9_method_2_code 48 = .ok (.iinc 3 1, 3) := by decide +kernel
theorem d7_spell_51 : decode prog_9_method_2_code 51 = .ok (.goto (-47), 3) := by decide +kernel
theorem d7_spell_54 : decode prog_9_method_2_code 54 = .ok (.return_, 1) := by decide +kernel
theorem d10_init_0 : decode prog_12_method_1_code 0 = .ok (.aload_n 0, 1) := by decide +kernel
theorem d10_init_1 : decode prog_12_method_1_code 1 = .ok (.invokespecial 1, 3) := by decide +kernel
theorem d10_init_4 : decode prog_12_method_1_code 4 = .ok (.iconst 0, 1) := by decide +kernel
theorem d10_init_5 : decode prog_12_method_1_code 5 = .ok (.iload_n 1, 1) := by decide +kernel
theorem d10_init_6 : decode prog_12_method_1_code 6 = .ok (.invokestatic 7, 3) := by decide +kernel
theorem d10_init_9 : decode prog_12_method_1_code 9 = .ok (.istore_n 3, 1) := by decide +kernel
theorem d10_init_10 : decode prog_12_method_1_code 10 = .ok (.iconst 0, 1) := by decide +kernel
theorem d10_init_11 : decode prog_12_method_1_code 11 = .ok (.iload_n 2, 1) := by decide +kernel
theorem d10_init_12 : decode prog_12_method_1_code 12 = .ok (.invokestatic 7, 3) := by decide +kernel
theorem d10_init_15 : decode prog_12_method_1_code 15 = .ok (.istore 4, 2) := by decide +kernel
theorem d10_init_17 : decode prog_12_method_1_code 17 = .ok (.aload_n 0, 1) := by decide +kernel
theorem d10_init_18 : decode prog_12_method_1_code 18 = .ok (.iload_n 3, 1) := by decide +kernel
theorem d10_init_19 : decode prog_12_method_1_code 19 = .ok (.newarray .int, 2) := by decide +kernel
theorem d10_init_21 : decode prog_12_method_1_code 21 = .ok (.putfield 13, 3) := by decide +kernel
theorem d10_init_24 : decode prog_12_method_1_code 24 = .ok (.aload_n 0, 1) := by decide +kernel
theorem d10_init_25 : decode prog_12_method_1_code 25 = .ok (.iload 4, 2) := by decide +kernel
theorem d10_init_27 : decode prog_12_method_1_code 27 = .ok (.newarray .int, 2) := by decide +kernel
theorem d10_init_29 : decode prog_12_method_1_code 29 = .ok (.putfield 19, 3) := by decide +kernel
theorem d10_init_32 : decode prog_12_method_1_code 32 = .ok (.aload_n 0, 1) := by decide +kernel
theorem d10_init_33 : decode prog_12_method_1_code 33 = .ok (.iload 4, 2) := by decide +kernel
theorem d10_init_35 : decode prog_12_method_1_code 35 = .ok (.newarray .int, 2) := by decide +kernel
theorem d10_init_37 : decode prog_12_method_1_code 37 = .ok (.putfield 22, 3) := by decide +kernel
theorem d10_init_40 : decode prog_12_method_1_code 40 = .ok (.aload_n 0, 1) := by decide +kernel
theorem d10_init_41 : decode prog_12_method_1_code 41 = .ok (.iload 4, 2) := by decide +kernel
theorem d10_init_43 : decode prog_12_method_1_code 43 = .ok (.newarray .int, 2) := by decide +kernel
theorem d10_init_45 : decode prog_12_method_1_code 45 = .ok (.putfield 25, 3) := by decide +kernel
theorem d10_init_48 : decode prog_12_method_1_code 48 = .ok (.aload_n 0, 1) := by decide +kernel
theorem d10_init_49 : decode prog_12_method_1_code 49 = .ok (.iload 4, 2) := by decide +kernel
theorem d10_init_51 : decode prog_12_method_1_code 51 = .ok (.newarray .int, 2) := by decide +kernel
theorem d10_init_53 : decode prog_12_method_1_code 53 = .ok (.putfield 28, 3) := by decide +kernel
theorem d10_init_56 : decode prog_12_method_1_code 56 = .ok (.return_, 1) := by decide +kernel
abbrev m4_lastHolding : MD := ("MillBoats$Law", ⟨"MillBoats$Law", "lastHolding", "(LMillBoats$Text;II)I"⟩, prog_6_method_13_code, 8, (some Jvm.ClassFile.FieldType.int))
theorem k4_lastHolding : okY m4_lastHolding.2.1 3 := ⟨by decide +kernel, by decide +kernel, by decide +kernel⟩
def f4_lastHolding_p106 (K13 : St → Nat → Nat → Int32 → Int32 → Int32 → Int32 → Option (Int32 × St)) (σ : St) (v0 : Nat) (v1 : Nat) (v2 : Int32) (v3 : Int32) (v4 : Int32) (v5 : Int32) : Option (Int32 × St) :=
  lt (v5 + (1 : Int32)) fun y40 => (
  K13 σ v0 v1 v2 v3 v4 y40)
set_option maxRecDepth 20000 in
theorem s4_lastHolding_p106 {K13 : St → Nat → Nat → Int32 → Int32 → Int32 → Int32 → Option (Int32 × St)} (hK13 : ∀ (σ : St) (v0 : Nat) (v1 : Nat) (v2 : Int32) (v3 : Int32) (v4 : Int32) (v5 : Int32) (r : Int32) (τ : St), K13 σ v0 v1 v2 v3 v4 v5 = some (r, τ) → Ev 4 m4_lastHolding 13 [(0, .ref v0), (1, .ref v1), (2, .int v2), (3, .int v3), (4, .int v4), (5, .int v5)] [] σ (some (.int r)) τ) : ∀ (σ : St) (v0 : Nat) (v1 : Nat) (v2 : Int32) (v3 : Int32) (v4 : Int32) (v5 : Int32) (r : Int32) (τ : St), f4_lastHolding_p106 K13 σ v0 v1 v2 v3 v4 v5 = some (r, τ) → Ev 4 m4_lastHolding 106 [(0, .ref v0), (1, .ref v1), (2, .int v2), (3, .int v3), (4, .int v4), (5, .int v5)] [] σ (some (.int r)) τ := by
  intro σ v0 v1 v2 v3 v4 v5 r τ hf
  unfold f4_lastHolding_p106 at hf
  obtain ⟨y40, e41, hf⟩ := lt_some hf
  refine ev_iinc (lv2 := [(5, .int y40), (0, .ref v0), (1, .ref v1), (2, .int v2), (3, .int v3), (4, .int v4)]) (i := 5) (q := 5) (v := y40) (n := 1) rfl (by rw [ci_1]; exact e41.symm) (by decide) rfl d4_lastHolding_106 ?_
  refine ev_goto (tgt := 13) (by decide) d4_lastHolding_109 ?_
  exact Ev.sub [1, 2, 3, 4, 5, 0] rfl (hK13 _ _ _ _ _ _ _ _ _ hf)
def f4_lastHolding_p77 (K13 : St → Nat → Nat → Int32 → Int32 → Int32 → Int32 → Option (Int32 × St)) (σ : St) (v0 : Nat) (v1 : Nat) (v2 : Int32) (v3 : Int32) (v4 : Int32) (v5 : Int32) : Option (Int32 × St) :=
  f4_lastHolding_p106 K13 σ v0 v1 v2 v3 v4 v5
set_option maxRecDepth 20000 in
theorem s4_lastHolding_p77 {K13 : St → Nat → Nat → Int32 → Int32 → Int32 → Int32 → Option (Int32 × St)} (hK13 : ∀ (σ : St) (v0 : Nat) (v1 : Nat) (v2 : Int32) (v3 : Int32) (v4 : Int32) (v5 : Int32) (r : Int32) (τ : St), K13 σ v0 v1 v2 v3 v4 v5 = some (r, τ) → Ev 4 m4_lastHolding 13 [(0, .ref v0), (1, .ref v1), (2, .int v2), (3, .int v3), (4, .int v4), (5, .int v5)] [] σ (some (.int r)) τ) : ∀ (σ : St) (v0 : Nat) (v1 : Nat) (v2 : Int32) (v3 : Int32) (v4 : Int32) (v5 : Int32) (r : Int32) (τ : St), f4_lastHolding_p77 K13 σ v0 v1 v2 v3 v4 v5 = some (r, τ) → Ev 4 m4_lastHolding 77 [(0, .ref v0), (1, .ref v1), (2, .int v2), (3, .int v3), (4, .int v4), (5, .int v5)] [] σ (some (.int r)) τ := by
  intro σ v0 v1 v2 v3 v4 v5 r τ hf
  unfold f4_lastHolding_p77 at hf
  refine ev_goto (tgt := 106) (by decide) d4_lastHolding_77 ?_
  exact Ev.sub [0, 1, 2, 3, 4, 5] rfl (s4_lastHolding_p106 hK13 _ _ _ _ _ _ _ _ _ hf)
def f4_lastHolding_p92 (K13 : St → Nat → Nat → Int32 → Int32 → Int32 → Int32 → Option (Int32 × St)) (σ : St) (v0 : Nat) (v1 : Nat) (v2 : Int32) (v3 : Int32) (v4 : Int32) (v5 : Int32) : Option (Int32 × St) :=
  gd (ob σ v0 4) (
  bd (f4_workOut σ v0 v1 v5) fun r35 t36 => (
  (if r35 = (0 : Int32) then
  f4_lastHolding_p106 K13 t36 v0 v1 v2 v3 v4 v5
  else
  f4_lastHolding_p106 K13 t36 v0 v1 v2 v3 v5 v5)))
set_option maxRecDepth 20000 in
theorem s4_lastHolding_p92 {K13 : St → Nat → Nat → Int32 → Int32 → Int32 → Int32 → Option (Int32 × St)} (hK13 : ∀ (σ : St) (v0 : Nat) (v1 : Nat) (v2 : Int32) (v3 : Int32) (v4 : Int32) (v5 : Int32) (r : Int32) (τ : St), K13 σ v0 v1 v2 v3 v4 v5 = some (r, τ) → Ev 4 m4_lastHolding 13 [(0, .ref v0), (1, .ref v1), (2, .int v2), (3, .int v3), (4, .int v4), (5, .int v5)] [] σ (some (.int r)) τ) : ∀ (σ : St) (v0 : Nat) (v1 : Nat) (v2 : Int32) (v3 : Int32) (v4 : Int32) (v5 : Int32) (r : Int32) (τ : St), f4_lastHolding_p92 K13 σ v0 v1 v2 v3 v4 v5 = some (r, τ) → Ev 4 m4_lastHolding 92 [(0, .ref v0), (1, .ref v1), (2, .int v2), (3, .int v3), (4, .int v4), (5, .int v5)] [] σ (some (.int r)) τ := by
  intro σ v0 v1 v2 v3 v4 v5 r τ hf
  unfold f4_lastHolding_p92 at hf
  refine ev_aload_n (j := 0) (i := 0) (q := 0) rfl rfl d4_lastHolding_92 ?_
  refine ev_aload_n (j := 1) (i := 1) (q := 1) rfl rfl d4_lastHolding_93 ?_
  refine ev_iload (i := 5) (q := 5) rfl d4_lastHolding_94 ?_
  obtain ⟨h34, hf⟩ := gd_some hf
  obtain ⟨r35, t36, k37, hf⟩ := bd_some hf
  have q38 := s4_workOut _ _ _ _ _ _ k37
  refine ev_callV (vs := [.ref v1, .int v5]) (sk := []) cls4 h34 q38 (by decide) (Nat.le_of_ble_eq_true rfl) w882 w884 ws29 w6 w885 k4_workOut rfl (Nat.le_of_ble_eq_true rfl) d4_lastHolding_96 ?_
  rcases ite_some hf with ⟨c39, hf⟩ | ⟨c39, hf⟩
  · refine ev_if_eq_P (tgt := 106) c39 (by decide) d4_lastHolding_99 ?_
    exact Ev.sub [0, 1, 2, 3, 4, 5] rfl (s4_lastHolding_p106 hK13 _ _ _ _ _ _ _ _ _ hf)
  · refine ev_if_eq_Q (tgt := 106) c39 (by decide) d4_lastHolding_99 ?_
    refine ev_iload (i := 5) (q := 5) rfl d4_lastHolding_102 ?_
    refine ev_istore (lv2 := [(4, .int v5), (0, .ref v0), (1, .ref v1), (2, .int v2), (3, .int v3), (5, .int v5)]) (i := 4) (by decide) rfl d4_lastHolding_104 ?_
    exact Ev.sub [1, 2, 3, 4, 0, 5] rfl (s4_lastHolding_p106 hK13 _ _ _ _ _ _ _ _ _ hf)
def f4_lastHolding_p13 : Nat → St → Nat → Nat → Int32 → Int32 → Int32 → Int32 → Option (Int32 × St)
  | 0, _, _, _, _, _, _, _ => none
  | n + 1, σ, v0, v1, v2, v3, v4, v5 =>
  gd (ob σ v1 10) (
  (if v5 < (sI σ v1 6) then
  lt (sR σ v1 1) fun b3 => (
  gd (nz b3) (
  gd (ob σ b3 14) (
  gd (inb σ b3 v5) (
  lt (sI σ b3 (ix v5)) fun y8 => (
  (if y8 = (256 : Int32) then
  lt (sR σ v1 3) fun b11 => (
  gd (nz b11) (
  gd (ob σ b11 14) (
  gd (inb σ b11 v5) (
  lt (sI σ b11 (ix v5)) fun y16 => (
  (if y16 < (0 : Int32) then
  f4_lastHolding_p77 (f4_lastHolding_p13 n) σ v0 v1 v2 v3 v4 v5
  else
  gd (ob σ v0 4) (
  lt (sR σ v0 6) fun b20 => (
  gd (nz b20) (
  gd (ob σ b20 14) (
  (if y16 < (Int32.ofNat (sK σ b20).2) then
  bd (f4_workOut σ v0 v1 v5) fun r25 t26 => (
  gd (inb t26 b20 y16) (
  lt (wI t26 b20 (ix y16) r25) fun t30 => (
  f4_lastHolding_p77 (f4_lastHolding_p13 n) t30 v0 v1 v2 v3 v4 v5)))
  else
  f4_lastHolding_p77 (f4_lastHolding_p13 n) σ v0 v1 v2 v3 v4 v5)))))))))))
  else
  (if y8 = v2 then
  f4_lastHolding_p92 (f4_lastHolding_p13 n) σ v0 v1 v2 v3 v4 v5
  else
  (if y8 = v3 then
  f4_lastHolding_p92 (f4_lastHolding_p13 n) σ v0 v1 v2 v3 v4 v5
  else
  f4_lastHolding_p106 (f4_lastHolding_p13 n) σ v0 v1 v2 v3 v4 v5))))))))
  else
  some (v4, σ)))
set_option maxRecDepth 20000 in
theorem s4_lastHolding_p13 : ∀ (n : Nat) (σ : St) (v0 : Nat) (v1 : Nat) (v2 : Int32) (v3 : Int32) (v4 : Int32) (v5 : Int32) (r : Int32) (τ : St), f4_lastHolding_p13 n σ v0 v1 v2 v3 v4 v5 = some (r, τ) → Ev 4 m4_lastHolding 13 [(0, .ref v0), (1, .ref v1), (2, .int v2), (3, .int v3), (4, .int v4), (5, .int v5)] [] σ (some (.int r)) τ := by
  intro n
  induction n with
  | zero =>
    intro σ v0 v1 v2 v3 v4 v5 r τ hf
    cases hf
  | succ n ih =>
    intro σ v0 v1 v2 v3 v4 v5 r τ hf
    rw [f4_lastHolding_p13] at hf
    refine ev_iload (i := 5) (q := 5) rfl d4_lastHolding_13 ?_
    refine ev_aload_n (j := 1) (i := 1) (q := 1) rfl rfl d4_lastHolding_15 ?_
    obtain ⟨h1, hf⟩ := gd_some hf
    refine ev_getIN cls10 (j := 6) (by decide) rfl w196 h1 d4_lastHolding_16 ?_
    rcases ite_some hf with ⟨c2, hf⟩ | ⟨c2, hf⟩
    · refine ev_icmp_ge_P (tgt := 112) c2 (by decide) d4_lastHolding_19 ?_
      refine ev_aload_n (j := 1) (i := 1) (q := 1) rfl rfl d4_lastHolding_22 ?_
      obtain ⟨b3, e4, hf⟩ := lt_some hf
      obtain ⟨h5, hf⟩ := gd_some hf
      refine ev_getRNb cls10 (j := 1) (by decide) rfl w187 h1 e4 (nz_ne h5) d4_lastHolding_23 ?_
      refine ev_iload (i := 5) (q := 5) rfl d4_lastHolding_26 ?_
      obtain ⟨h6, hf⟩ := gd_some hf
      obtain ⟨h7, hf⟩ := gd_some hf
      refine ev_iald h6 h7 d4_lastHolding_28 ?_
      obtain ⟨y8, e9, hf⟩ := lt_some hf
      refine ev_nmI e9 ?_
      refine ev_istore (lv2 := [(6, .int y8), (0, .ref v0), (1, .ref v1), (2, .int v2), (3, .int v3), (4, .int v4), (5, .int v5)]) (i := 6) (by decide) rfl d4_lastHolding_29 ?_
      refine ev_iload (i := 6) (q := 0) rfl d4_lastHolding_31 ?_
      refine ev_sipush cs_256 d4_lastHolding_33 ?_
      rcases ite_some hf with ⟨c10, hf⟩ | ⟨c10, hf⟩
      · refine ev_icmp_ne_P (tgt := 80) c10 (by decide) d4_lastHolding_36 ?_
        refine ev_aload_n (j := 1) (i := 1) (q := 2) rfl rfl d4_lastHolding_39 ?_
        obtain ⟨b11, e12, hf⟩ := lt_some hf
        obtain ⟨h13, hf⟩ := gd_some hf
        refine ev_getRNb cls10 (j := 3) (by decide) rfl w191 h1 e12 (nz_ne h13) d4_lastHolding_40 ?_
        refine ev_iload (i := 5) (q := 6) rfl d4_lastHolding_43 ?_
        obtain ⟨h14, hf⟩ := gd_some hf
        obtain ⟨h15, hf⟩ := gd_some hf
        refine ev_iald h14 h15 d4_lastHolding_45 ?_
        obtain ⟨y16, e17, hf⟩ := lt_some hf
        refine ev_nmI e17 ?_
        refine ev_istore (lv2 := [(7, .int y16), (6, .int y8), (0, .ref v0), (1, .ref v1), (2, .int v2), (3, .int v3), (4, .int v4), (5, .int v5)]) (i := 7) (by decide) rfl d4_lastHolding_46 ?_
        refine ev_iload (i := 7) (q := 0) rfl d4_lastHolding_48 ?_
        rcases ite_some hf with ⟨c18, hf⟩ | ⟨c18, hf⟩
        · refine ev_if_lt_P (tgt := 77) c18 (by decide) d4_lastHolding_50 ?_
          exact Ev.sub [2, 3, 4, 5, 6, 7] rfl (s4_lastHolding_p77 ih _ _ _ _ _ _ _ _ _ hf)
        · refine ev_if_lt_Q (tgt := 77) c18 (by decide) d4_lastHolding_50 ?_
          refine ev_iload (i := 7) (q := 0) rfl d4_lastHolding_53 ?_
          refine ev_aload_n (j := 0) (i := 0) (q := 2) rfl rfl d4_lastHolding_55 ?_
          obtain ⟨h19, hf⟩ := gd_some hf
          obtain ⟨b20, e21, hf⟩ := lt_some hf
          obtain ⟨h22, hf⟩ := gd_some hf
          refine ev_getRb cls4 (j := 6) (by decide) rfl w325 h19 e21 (nz_ne h22) d4_lastHolding_56 ?_
          obtain ⟨h23, hf⟩ := gd_some hf
          refine ev_alen (kd := 14) (by decide) (by decide) h23 d4_lastHolding_59 ?_
          rcases ite_some hf with ⟨c24, hf⟩ | ⟨c24, hf⟩
          · refine ev_icmp_ge_P (tgt := 77) c24 (by decide) d4_lastHolding_60 ?_
            refine ev_aload_n (j := 0) (i := 0) (q := 2) rfl rfl d4_lastHolding_63 ?_
            refine ev_getRb cls4 (j := 6) (by decide) rfl w325 h19 e21 (nz_ne h22) d4_lastHolding_64 ?_
            refine ev_iload (i := 7) (q := 0) rfl d4_lastHolding_67 ?_
            refine ev_aload_n (j := 0) (i := 0) (q := 2) rfl rfl d4_lastHolding_69 ?_
            refine ev_aload_n (j := 1) (i := 1) (q := 3) rfl rfl d4_lastHolding_70 ?_
            refine ev_iload (i := 5) (q := 7) rfl d4_lastHolding_71 ?_
            obtain ⟨r25, t26, k27, hf⟩ := bd_some hf
            have q28 := s4_workOut _ _ _ _ _ _ k27
            refine ev_callV (vs := [.ref v1, .int v5]) (sk := [.int y16, .ref b20]) cls4 h19 q28 (by decide) (Nat.le_of_ble_eq_true rfl) w882 w884 ws29 w6 w885 k4_workOut rfl (Nat.le_of_ble_eq_true rfl) d4_lastHolding_73 ?_
            obtain ⟨h29, hf⟩ := gd_some hf
            obtain ⟨t30, e31, hf⟩ := lt_some hf
            refine ev_iast (mono_ob q28.1 h23) h29 d4_lastHolding_76 (ev_nmS e31 ?_)
            exact Ev.sub [2, 3, 4, 5, 6, 7] rfl (s4_lastHolding_p77 ih _ _ _ _ _ _ _ _ _ hf)
          · refine ev_icmp_ge_Q (tgt := 77) c24 (by decide) d4_lastHolding_60 ?_
            exact Ev.sub [2, 3, 4, 5, 6, 7] rfl (s4_lastHolding_p77 ih _ _ _ _ _ _ _ _ _ hf)
      · refine ev_icmp_ne_Q (tgt := 80) c10 (by decide) d4_lastHolding_36 ?_
        refine ev_iload (i := 6) (q := 0) rfl d4_lastHolding_80 ?_
        refine ev_iload_n (j := 2) (i := 2) (q := 3) rfl rfl d4_lastHolding_82 ?_
        rcases ite_some hf with ⟨c32, hf⟩ | ⟨c32, hf⟩
        · refine ev_icmp_eq_P (tgt := 92) c32 (by decide) d4_lastHolding_83 ?_
          exact Ev.sub [1, 2, 3, 4, 5, 6] rfl (s4_lastHolding_p92 ih _ _ _ _ _ _ _ _ _ hf)
        · refine ev_icmp_eq_Q (tgt := 92) c32 (by decide) d4_lastHolding_83 ?_
          refine ev_iload (i := 6) (q := 0) rfl d4_lastHolding_86 ?_
          refine ev_iload_n (j := 3) (i := 3) (q := 4) rfl rfl d4_lastHolding_88 ?_
          rcases ite_some hf with ⟨c33, hf⟩ | ⟨c33, hf⟩
          · refine ev_icmp_ne_P (tgt := 106) c33 (by decide) d4_lastHolding_89 ?_
            exact Ev.sub [1, 2, 3, 4, 5, 6] rfl (s4_lastHolding_p92 ih _ _ _ _ _ _ _ _ _ hf)
          · refine ev_icmp_ne_Q (tgt := 106) c33 (by decide) d4_lastHolding_89 ?_
            exact Ev.sub [1, 2, 3, 4, 5, 6] rfl (s4_lastHolding_p106 ih _ _ _ _ _ _ _ _ _ hf)
    · refine ev_icmp_ge_Q (tgt := 112) c2 (by decide) d4_lastHolding_19 ?_
      refine ev_iload (i := 4) (q := 4) rfl d4_lastHolding_112 ?_
      obtain ⟨rfl, rfl⟩ := ret_some hf
      exact ev_iret rfl d4_lastHolding_114
def f4_lastHolding (σ : St) (v0 : Nat) (v1 : Nat) (v2 : Int32) (v3 : Int32) : Option (Int32 × St) :=
  (if v1 = 0 then
  some ((-1 : Int32), σ)
  else
  f4_lastHolding_p13 FU σ v0 v1 v2 v3 (-1 : Int32) (0 : Int32))
set_option maxRecDepth 50000 in
theorem s4_lastHolding : ∀ (σ : St) (v0 : Nat) (v1 : Nat) (v2 : Int32) (v3 : Int32) (r : Int32) (τ : St), f4_lastHolding σ v0 v1 v2 v3 = some (r, τ) → Call 4 m4_lastHolding [.ref v0, nv v1, .int v2, .int v3] σ (some (.int r)) τ := by
  intro σ v0 v1 v2 v3 r τ hf
  unfold f4_lastHolding at hf
  rcases ite_some hf with ⟨c0, hf⟩ | ⟨c0, hf⟩
  · rw [nv_0 c0]
    refine Call.of (by decide +kernel) rfl (Nat.le_of_ble_eq_true rfl) ?_
    refine ev_iconst ci_m1 d4_lastHolding_0 ?_
    refine ev_istore (lv2 := [(4, .int (-1 : Int32)), (0, .ref v0), (1, .null), (2, .int v2), (3, .int v3)]) (i := 4) (by decide) rfl d4_lastHolding_1 ?_
    refine ev_aload_nN (j := 1) (i := 1) (q := 2) rfl rfl d4_lastHolding_3 ?_
    refine ev_ifnonnull_n d4_lastHolding_4 ?_
    refine ev_iload (i := 4) (q := 0) rfl d4_lastHolding_7 ?_
    obtain ⟨rfl, rfl⟩ := ret_some hf
    exact ev_iret rfl d4_lastHolding_9
  · rw [nv_1 c0]
    refine Call.of (by decide +kernel) rfl (Nat.le_of_ble_eq_true rfl) ?_
    refine ev_iconst ci_m1 d4_lastHolding_0 ?_
    refine ev_istore (lv2 := [(4, .int (-1 : Int32)), (0, .ref v0), (1, .ref v1), (2, .int v2), (3, .int v3)]) (i := 4) (by decide) rfl d4_lastHolding_1 ?_
    refine ev_aload_n (j := 1) (i := 1) (q := 2) rfl rfl d4_lastHolding_3 ?_
    refine ev_ifnonnull_r (tgt := 10) (by decide) d4_lastHolding_4 ?_
    refine ev_iconst ci_0 d4_lastHolding_10 ?_
    refine ev_istore (lv2 := [(5, .int (0 : Int32)), (4, .int (-1 : Int32)), (0, .ref v0), (1, .ref v1), (2, .int v2), (3, .int v3)]) (i := 5) (by decide) rfl d4_lastHolding_11 ?_
    exact Ev.sub [2, 3, 4, 5, 1, 0] rfl (s4_lastHolding_p13 FU _ _ _ _ _ _ _ _ _ hf)
abbrev m4_tollFor : MD := ("MillBoats$Law", ⟨"MillBoats$Law", "tollFor", "(IIIIII)I"⟩, prog_6_method_12_code, 9, (some Jvm.ClassFile.FieldType.int))
theorem k4_tollFor : okY m4_tollFor.2.1 6 := ⟨by decide +kernel, by decide +kernel, by decide +kernel⟩
def f4_tollFor (σ : St) (v0 : Nat) (v1 : Int32) (v2 : Int32) (v3 : Int32) (v4 : Int32) (v5 : Int32) (v6 : Int32) : Option (Int32 × St) :=
  gd (ob σ v0 4) (
  bd (f4_giveBoat σ v0 v4 v5 v6 v6) fun r2 t3 => (
  lt (sR t3 v0 6) fun b6 => (
  gd (nz b6) (
  gd (ob t3 b6 14) (
  gd (inb t3 b6 (8 : Int32)) (
  lt (wI t3 b6 (ix (8 : Int32)) v3) fun t11 => (
  bd (f4_inForce t11 v0 v2 v6 v6) fun r13 t14 => (
  (if r13 = 0 then
  bd (f4_lastHolding t14 v0 0 (259 : Int32) (259 : Int32)) fun r18 t19 => (
  some (v1 / (16 : Int32), t19))
  else
  bd (f4_lastHolding t14 v0 r13 (259 : Int32) (259 : Int32)) fun r22 t23 => (
  (if r22 < (0 : Int32) then
  some (v1 / (16 : Int32), t23)
  else
  gd (ob t23 r13 10) (
  lt (sR t23 r13 4) fun b28 => (
  gd (nz b28) (
  gd (ob t23 b28 14) (
  gd (inb t23 b28 r22) (
  (if (sI t23 b28 (ix r22)) ≤ (0 : Int32) then
  some (v1 / (16 : Int32), t23)
  else
  lt (sR t23 r13 3) fun b34 => (
  gd (nz b34) (
  gd (ob t23 b34 14) (
  gd (inb t23 b34 r22) (
  gd (nzI (sI t23 b28 (ix r22))) (
  some ((v1 * (sI t23 b34 (ix r22))) / (sI t23 b28 (ix r22)), t23)))))))))))))))))))))))
set_option maxRecDepth 50000 in
theorem s4_tollFor : ∀ (σ : St) (v0 : Nat) (v1 : Int32) (v2 : Int32) (v3 : Int32) (v4 : Int32) (v5 : Int32) (v6 : Int32) (r : Int32) (τ : St), f4_tollFor σ v0 v1 v2 v3 v4 v5 v6 = some (r, τ) → Call 5 m4_tollFor [.ref v0, .int v1, .int v2, .int v3, .int v4, .int v5, .int v6] σ (some (.int r)) τ := by
  intro σ v0 v1 v2 v3 v4 v5 v6 r τ hf
  unfold f4_tollFor at hf
  refine Call.of (by decide +kernel) rfl (Nat.le_of_ble_eq_true rfl) ?_
  refine ev_aload_n (j := 0) (i := 0) (q := 0) rfl rfl d4_tollFor_0 ?_
  refine ev_iload (i := 4) (q := 4) rfl d4_tollFor_1 ?_
  refine ev_iload (i := 5) (q := 5) rfl d4_tollFor_3 ?_
  refine ev_iload (i := 6) (q := 6) rfl d4_tollFor_5 ?_
  refine ev_iload (i := 6) (q := 6) rfl d4_tollFor_7 ?_
  obtain ⟨h1, hf⟩ := gd_some hf
  obtain ⟨r2, t3, k4, hf⟩ := bd_some hf
  have q5 := s4_giveBoat _ _ _ _ _ _ _ _ k4
  refine ev_callV (vs := [.int v4, .int v5, .int v6, .int v6]) (sk := []) cls4 h1 q5 (by decide) (Nat.le_of_ble_eq_true rfl) w860 w862 ws25 w6 w863 k4_giveBoat rfl (Nat.le_of_ble_eq_true rfl) d4_tollFor_9 ?_
  refine ev_aload_n (j := 0) (i := 0) (q := 0) rfl rfl d4_tollFor_12 ?_
  obtain ⟨b6, e7, hf⟩ := lt_some hf
  obtain ⟨h8, hf⟩ := gd_some hf
  refine ev_getRb cls4 (j := 6) (by decide) rfl w325 (mono_ob q5.1 h1) e7 (nz_ne h8) d4_tollFor_13 ?_
  refine ev_bipush cb_8 d4_tollFor_16 ?_
  refine ev_iload_n (j := 3) (i := 3) (q := 3) rfl rfl d4_tollFor_18 ?_
  obtain ⟨h9, hf⟩ := gd_some hf
  obtain ⟨h10, hf⟩ := gd_some hf
  obtain ⟨t11, e12, hf⟩ := lt_some hf
  refine ev_iast h9 h10 d4_tollFor_19 (ev_nmS e12 ?_)
  refine ev_aload_n (j := 0) (i := 0) (q := 0) rfl rfl d4_tollFor_20 ?_
  refine ev_iload_n (j := 2) (i := 2) (q := 2) rfl rfl d4_tollFor_21 ?_
  refine ev_iload (i := 6) (q := 6) rfl d4_tollFor_22 ?_
  refine ev_iload (i := 6) (q := 6) rfl d4_tollFor_24 ?_
  obtain ⟨r13, t14, k15, hf⟩ := bd_some hf
  have q16 := s4_inForce _ _ _ _ _ _ _ k15
  refine ev_callV (vs := [.int v2, .int v6, .int v6]) (sk := []) cls4 (mono_ob (mono_eI e12) (mono_ob q5.1 h1)) q16 (by decide) (Nat.le_of_ble_eq_true rfl) w870 w872 ws26 w6 w873 k4_inForce rfl (Nat.le_of_ble_eq_true rfl) d4_tollFor_26 ?_
  rcases ite_some hf with ⟨c17, hf⟩ | ⟨c17, hf⟩
  · refine ev_nv0 c17 ?_
    refine ev_astoreN (lv2 := [(7, .null), (0, .ref v0), (1, .int v1), (2, .int v2), (3, .int v3), (4, .int v4), (5, .int v5), (6, .int v6)]) (i := 7) (by decide) rfl d4_tollFor_29 ?_
    refine ev_aload_n (j := 0) (i := 0) (q := 1) rfl rfl d4_tollFor_31 ?_
    refine ev_aloadN (i := 7) (q := 0) rfl d4_tollFor_32 ?_
    refine ev_sipush cs_259 d4_tollFor_34 ?_
    refine ev_sipush cs_259 d4_tollFor_37 ?_
    obtain ⟨r18, t19, k20, hf⟩ := bd_some hf
    have q21 := s4_lastHolding _ _ _ _ _ _ _ k20
    rw [nv_0 rfl] at q21
    refine ev_callV (vs := [.null, .int (259 : Int32), .int (259 : Int32)]) (sk := []) cls4 (mono_ob q16.1 (mono_ob (mono_eI e12) (mono_ob q5.1 h1))) q21 (by decide) (Nat.le_of_ble_eq_true rfl) w878 w880 ws28 w6 w881 k4_lastHolding rfl (Nat.le_of_ble_eq_true rfl) d4_tollFor_40 ?_
    refine ev_istore (lv2 := [(8, .int r18), (7, .null), (0, .ref v0), (1, .int v1), (2, .int v2), (3, .int v3), (4, .int v4), (5, .int v5), (6, .int v6)]) (i := 8) (by decide) rfl d4_tollFor_43 ?_
    refine ev_aloadN (i := 7) (q := 1) rfl d4_tollFor_45 ?_
    refine ev_ifnull_n (tgt := 66) (by decide) d4_tollFor_47 ?_
    refine ev_iload_n (j := 1) (i := 1) (q := 3) rfl rfl d4_tollFor_66 ?_
    refine ev_bipush cb_16 d4_tollFor_67 ?_
    refine ev_idiv (by decide) d4_tollFor_69 ?_
    obtain ⟨rfl, rfl⟩ := ret_some hf
    exact ev_iret rfl d4_tollFor_70
  · refine ev_nv1 c17 ?_
    refine ev_astore (lv2 := [(7, .ref r13), (0, .ref v0), (1, .int v1), (2, .int v2), (3, .int v3), (4, .int v4), (5, .int v5), (6, .int v6)]) (i := 7) (by decide) rfl d4_tollFor_29 ?_
    refine ev_aload_n (j := 0) (i := 0) (q := 1) rfl rfl d4_tollFor_31 ?_
    refine ev_aload (i := 7) (q := 0) rfl d4_tollFor_32 ?_
    refine ev_sipush cs_259 d4_tollFor_34 ?_
    refine ev_sipush cs_259 d4_tollFor_37 ?_
    obtain ⟨r22, t23, k24, hf⟩ := bd_some hf
    have q25 := s4_lastHolding _ _ _ _ _ _ _ k24
    rw [nv_1 c17] at q25
    refine ev_callV (vs := [.ref r13, .int (259 : Int32), .int (259 : Int32)]) (sk := []) cls4 (mono_ob q16.1 (mono_ob (mono_eI e12) (mono_ob q5.1 h1))) q25 (by decide) (Nat.le_of_ble_eq_true rfl) w878 w880 ws28 w6 w881 k4_lastHolding rfl (Nat.le_of_ble_eq_true rfl) d4_tollFor_40 ?_
    refine ev_istore (lv2 := [(8, .int r22), (7, .ref r13), (0, .ref v0), (1, .int v1), (2, .int v2), (3, .int v3), (4, .int v4), (5, .int v5), (6, .int v6)]) (i := 8) (by decide) rfl d4_tollFor_43 ?_
    refine ev_aload (i := 7) (q := 1) rfl d4_tollFor_45 ?_
    refine ev_ifnull_r d4_tollFor_47 ?_
    refine ev_iload (i := 8) (q := 0) rfl d4_tollFor_50 ?_
    rcases ite_some hf with ⟨c26, hf⟩ | ⟨c26, hf⟩
    · refine ev_if_lt_P (tgt := 66) c26 (by decide) d4_tollFor_52 ?_
      refine ev_iload_n (j := 1) (i := 1) (q := 3) rfl rfl d4_tollFor_66 ?_
      refine ev_bipush cb_16 d4_tollFor_67 ?_
      refine ev_idiv (by decide) d4_tollFor_69 ?_
      obtain ⟨rfl, rfl⟩ := ret_some hf
      exact ev_iret rfl d4_tollFor_70
    · refine ev_if_lt_Q (tgt := 66) c26 (by decide) d4_tollFor_52 ?_
      refine ev_aload (i := 7) (q := 1) rfl d4_tollFor_55 ?_
      obtain ⟨h27, hf⟩ := gd_some hf
      obtain ⟨b28, e29, hf⟩ := lt_some hf
      obtain ⟨h30, hf⟩ := gd_some hf
      refine ev_getRNb cls10 (j := 4) (by decide) rfl w193 h27 e29 (nz_ne h30) d4_tollFor_57 ?_
      refine ev_iload (i := 8) (q := 0) rfl d4_tollFor_60 ?_
      obtain ⟨h31, hf⟩ := gd_some hf
      obtain ⟨h32, hf⟩ := gd_some hf
      refine ev_iald h31 h32 d4_tollFor_62 ?_
      rcases ite_some hf with ⟨c33, hf⟩ | ⟨c33, hf⟩
      · refine ev_if_gt_P (tgt := 71) c33 (by decide) d4_tollFor_63 ?_
        refine ev_iload_n (j := 1) (i := 1) (q := 3) rfl rfl d4_tollFor_66 ?_
        refine ev_bipush cb_16 d4_tollFor_67 ?_
        refine ev_idiv (by decide) d4_tollFor_69 ?_
        obtain ⟨rfl, rfl⟩ := ret_some hf
        exact ev_iret rfl d4_tollFor_70
      · refine ev_if_gt_Q (tgt := 71) c33 (by decide) d4_tollFor_63 ?_
        refine ev_iload_n (j := 1) (i := 1) (q := 3) rfl rfl d4_tollFor_71 ?_
        refine ev_aload (i := 7) (q := 1) rfl d4_tollFor_72 ?_
        obtain ⟨b34, e35, hf⟩ := lt_some hf
        obtain ⟨h36, hf⟩ := gd_some hf
        refine ev_getRNb cls10 (j := 3) (by decide) rfl w191 h27 e35 (nz_ne h36) d4_tollFor_74 ?_
        refine ev_iload (i := 8) (q := 0) rfl d4_tollFor_77 ?_
        obtain ⟨h37, hf⟩ := gd_some hf
        obtain ⟨h38, hf⟩ := gd_some hf
        refine ev_iald h37 h38 d4_tollFor_79 ?_
        refine ev_imul d4_tollFor_80 ?_
        refine ev_aload (i := 7) (q := 1) rfl d4_tollFor_81 ?_
        refine ev_getRNb cls10 (j := 4) (by decide) rfl w193 h27 e29 (nz_ne h30) d4_tollFor_83 ?_
        refine ev_iload (i := 8) (q := 0) rfl d4_tollFor_86 ?_
        refine ev_iald h31 h32 d4_tollFor_88 ?_
        obtain ⟨h39, hf⟩ := gd_some hf
        refine ev_idiv (nzI_ne h39) d4_tollFor_89 ?_
        obtain ⟨rfl, rfl⟩ := ret_some hf
        exact ev_iret rfl d4_tollFor_90
abbrev m3_grindOrders : MD := ("MillBoats$Grist", ⟨"MillBoats$Grist", "grindOrders", "(III)V"⟩, prog_5_method_7_code, 13, (none : Option Jvm.ClassFile.FieldType))
theorem k3_grindOrders : okY m3_grindOrders.2.1 3 := ⟨by decide +kernel, by decide +kernel, by decide +kernel⟩
def f3_grindOrders_p219 (K24 : St → Nat → Int32 → Int32 → Int32 → Int32 → Int32 → Int32 → Option (Unit × St)) (σ : St) (v0 : Nat) (v1 : Int32) (v2 : Int32) (v4 : Int32) (v5 : Int32) (v6 : Int32) (v7 : Int32) : Option (Unit × St) :=
  lt (v7 + (1 : Int32)) fun y91 => (
  K24 σ v0 v1 v2 v4 v5 v6 y91)
set_option maxRecDepth 20000 in
theorem s3_grindOrders_p219 {K24 : St → Nat → Int32 → Int32 → Int32 → Int32 → Int32 → Int32 → Option (Unit × St)} (hK24 : ∀ (σ : St) (v0 : Nat) (v1 : Int32) (v2 : Int32) (v4 : Int32) (v5 : Int32) (v6 : Int32) (v7 : Int32) (r : Unit) (τ : St), K24 σ v0 v1 v2 v4 v5 v6 v7 = some (r, τ) → Ev 6 m3_grindOrders 24 [(0, .ref v0), (1, .int v1), (2, .int v2), (4, .int v4), (5, .int v5), (6, .int v6), (7, .int v7)] [] σ none τ) : ∀ (σ : St) (v0 : Nat) (v1 : Int32) (v2 : Int32) (v4 : Int32) (v5 : Int32) (v6 : Int32) (v7 : Int32) (r : Unit) (τ : St), f3_grindOrders_p219 K24 σ v0 v1 v2 v4 v5 v6 v7 = some (r, τ) → Ev 6 m3_grindOrders 219 [(0, .ref v0), (1, .int v1), (2, .int v2), (4, .int v4), (5, .int v5), (6, .int v6), (7, .int v7)] [] σ none τ := by
  intro σ v0 v1 v2 v4 v5 v6 v7 r τ hf
  unfold f3_grindOrders_p219 at hf
  obtain ⟨y91, e92, hf⟩ := lt_some hf
  refine ev_iinc (lv2 := [(7, .int y91), (0, .ref v0), (1, .int v1), (2, .int v2), (4, .int v4), (5, .int v5), (6, .int v6)]) (i := 7) (q := 6) (v := y91) (n := 1) rfl (by rw [ci_1]; exact e92.symm) (by decide) rfl d3_grindOrders_219 ?_
  refine ev_goto (tgt := 24) (by decide) d3_grindOrders_222 ?_
  exact Ev.sub [1, 2, 3, 4, 5, 6, 0] rfl (hK24 _ _ _ _ _ _ _ _ _ _ hf)
def f3_grindOrders_p202 (K24 : St → Nat → Int32 → Int32 → Int32 → Int32 → Int32 → Int32 → Option (Unit × St)) (σ : St) (v0 : Nat) (v1 : Int32) (v2 : Int32) (v4 : Int32) (v5 : Int32) (v6 : Int32) (v7 : Int32) (v11 : Int32) (v12 : Int32) (x0 : Int32) (x1 : Int32) (x2 : Nat) : Option (Unit × St) :=
  gd (ob σ x2 14) (
  gd (inb σ x2 x1) (
  lt (wI σ x2 (ix x1) x0) fun t95 => (
  gd (ob t95 v0 3) (
  lt (sR t95 v0 0) fun b98 => (
  gd (nz b98) (
  gd (ob t95 b98 8) (
  lt (sR t95 b98 2) fun b102 => (
  gd (nz b102) (
  gd (ob t95 b102 17) (
  gd (inb t95 b102 v1) (
  lt (sR t95 b102 (ix v1)) fun b107 => (
  gd (nz b107) (
  gd (ob t95 b107 0) (
  bd (f0_grindSacks t95 b107 v11 v12) fun r111 t112 => (
  f3_grindOrders_p219 K24 t112 v0 v1 v2 v4 v5 v6 v7)))))))))))))))
set_option maxRecDepth 20000 in
theorem s3_grindOrders_p202 {K24 : St → Nat → Int32 → Int32 → Int32 → Int32 → Int32 → Int32 → Option (Unit × St)} (hK24 : ∀ (σ : St) (v0 : Nat) (v1 : Int32) (v2 : Int32) (v4 : Int32) (v5 : Int32) (v6 : Int32) (v7 : Int32) (r : Unit) (τ : St), K24 σ v0 v1 v2 v4 v5 v6 v7 = some (r, τ) → Ev 6 m3_grindOrders 24 [(0, .ref v0), (1, .int v1), (2, .int v2), (4, .int v4), (5, .int v5), (6, .int v6), (7, .int v7)] [] σ none τ) : ∀ (σ : St) (v0 : Nat) (v1 : Int32) (v2 : Int32) (v4 : Int32) (v5 : Int32) (v6 : Int32) (v7 : Int32) (v11 : Int32) (v12 : Int32) (x0 : Int32) (x1 : Int32) (x2 : Nat) (r : Unit) (τ : St), f3_grindOrders_p202 K24 σ v0 v1 v2 v4 v5 v6 v7 v11 v12 x0 x1 x2 = some (r, τ) → Ev 6 m3_grindOrders 202 [(0, .ref v0), (1, .int v1), (2, .int v2), (4, .int v4), (5, .int v5), (6, .int v6), (7, .int v7), (11, .int v11), (12, .int v12)] [.int x0, .int x1, .ref x2] σ none τ := by
  intro σ v0 v1 v2 v4 v5 v6 v7 v11 v12 x0 x1 x2 r τ hf
  unfold f3_grindOrders_p202 at hf
  obtain ⟨h93, hf⟩ := gd_some hf
  obtain ⟨h94, hf⟩ := gd_some hf
  obtain ⟨t95, e96, hf⟩ := lt_some hf
  refine ev_iast h93 h94 d3_grindOrders_202 (ev_nmS e96 ?_)
  refine ev_aload_n (j := 0) (i := 0) (q := 0) rfl rfl d3_grindOrders_203 ?_
  obtain ⟨h97, hf⟩ := gd_some hf
  obtain ⟨b98, e99, hf⟩ := lt_some hf
  obtain ⟨h100, hf⟩ := gd_some hf
  refine ev_getRb cls3 (j := 0) (by decide) rfl w376 h97 e99 (nz_ne h100) d3_grindOrders_204 ?_
  obtain ⟨h101, hf⟩ := gd_some hf
  obtain ⟨b102, e103, hf⟩ := lt_some hf
  obtain ⟨h104, hf⟩ := gd_some hf
  refine ev_getRNb cls8 (j := 2) (by decide) rfl w110 h101 e103 (nz_ne h104) d3_grindOrders_207 ?_
  refine ev_iload_n (j := 1) (i := 1) (q := 1) rfl rfl d3_grindOrders_210 ?_
  obtain ⟨h105, hf⟩ := gd_some hf
  obtain ⟨h106, hf⟩ := gd_some hf
  obtain ⟨b107, e108, hf⟩ := lt_some hf
  obtain ⟨h109, hf⟩ := gd_some hf
  refine ev_qaldb (kd := 17) (by decide) (by decide) rfl h105 h106 e108 (nz_ne h109) d3_grindOrders_211 ?_
  refine ev_iload (i := 11) (q := 7) rfl d3_grindOrders_212 ?_
  refine ev_iload (i := 12) (q := 8) rfl d3_grindOrders_214 ?_
  obtain ⟨h110, hf⟩ := gd_some hf
  obtain ⟨r111, t112, k113, hf⟩ := bd_some hf
  have q114 := s0_grindSacks _ _ _ _ _ _ k113
  refine ev_callV (vs := [.int v11, .int v12]) (sk := []) cls0 h110 q114 (by decide) (Nat.le_of_ble_eq_true rfl) w1000 w1001 w1002 w4 w1003 k0_grindSacks rfl (Nat.le_of_ble_eq_true rfl) d3_grindOrders_216 ?_
  exact Ev.sub [0, 1, 2, 3, 4, 5, 6] rfl (s3_grindOrders_p219 hK24 _ _ _ _ _ _ _ _ _ _ hf)
def f3_grindOrders_p85 (K24 : St → Nat → Int32 → Int32 → Int32 → Int32 → Int32 → Int32 → Option (Unit × St)) (σ : St) (v0 : Nat) (v1 : Int32) (v2 : Int32) (v4 : Int32) (v5 : Int32) (v6 : Int32) (v7 : Int32) (v8 : Int32) (v9 : Int32) (x0 : Int32) : Option (Unit × St) :=
  gd (ob σ v0 3) (
  lt (sR σ v0 6) fun b37 => (
  gd (nz b37) (
  gd (ob σ b37 14) (
  gd (inb σ b37 v7) (
  bd (fJ9_min_7cf53 σ (sI σ b37 (ix v7)) v6) fun r42 t43 => (
  bd (fJ9_min_7cf53 t43 r42 x0) fun r46 t47 => (
  (if r46 ≤ (0 : Int32) then
  f3_grindOrders_p219 K24 t47 v0 v1 v2 v4 v5 v6 v7
  else
  lt (sR t47 v0 1) fun b51 => (
  gd (nz b51) (
  lt (sR t47 v0 5) fun b54 => (
  gd (nz b54) (
  gd (ob t47 b54 14) (
  gd (inb t47 b54 v7) (
  gd (ob t47 b51 4) (
  bd (f4_tollFor t47 b51 r46 v8 (sI t47 b54 (ix v7)) v1 v4 v2) fun r60 t61 => (
  lt (v6 - r46) fun y64 => (
  lt (sR t61 v0 3) fun b66 => (
  gd (nz b66) (
  gd (ob t61 b66 14) (
  gd (inb t61 b66 v8) (
  lt (wI t61 b66 (ix v8) ((sI t61 b66 (ix v8)) - (r46 * v9))) fun t71 => (
  lt (sR t71 v0 6) fun b73 => (
  gd (nz b73) (
  gd (ob t71 b73 14) (
  gd (inb t71 b73 v7) (
  lt (wI t71 b73 (ix v7) ((sI t71 b73 (ix v7)) - r46)) fun t78 => (
  lt (sR t78 v0 7) fun b80 => (
  gd (nz b80) (
  gd (ob t78 b80 14) (
  gd (inb t78 b80 v7) (
  lt (wI t78 b80 (ix v7) ((sI t78 b80 (ix v7)) + r60)) fun t85 => (
  lt (sR t85 v0 8) fun b87 => (
  gd (nz b87) (
  (if (sI t85 b73 (ix v7)) = (0 : Int32) then
  f3_grindOrders_p202 K24 t85 v0 v1 v2 v4 v5 y64 v7 r46 r60 v2 v7 b87
  else
  f3_grindOrders_p202 K24 t85 v0 v1 v2 v4 v5 y64 v7 r46 r60 (-1 : Int32) v7 b87)))))))))))))))))))))))))))))))))))
set_option maxRecDepth 20000 in
theorem s3_grindOrders_p85 {K24 : St → Nat → Int32 → Int32 → Int32 → Int32 → Int32 → Int32 → Option (Unit × St)} (hK24 : ∀ (σ : St) (v0 : Nat) (v1 : Int32) (v2 : Int32) (v4 : Int32) (v5 : Int32) (v6 : Int32) (v7 : Int32) (r : Unit) (τ : St), K24 σ v0 v1 v2 v4 v5 v6 v7 = some (r, τ) → Ev 6 m3_grindOrders 24 [(0, .ref v0), (1, .int v1), (2, .int v2), (4, .int v4), (5, .int v5), (6, .int v6), (7, .int v7)] [] σ none τ) : ∀ (σ : St) (v0 : Nat) (v1 : Int32) (v2 : Int32) (v4 : Int32) (v5 : Int32) (v6 : Int32) (v7 : Int32) (v8 : Int32) (v9 : Int32) (x0 : Int32) (r : Unit) (τ : St), f3_grindOrders_p85 K24 σ v0 v1 v2 v4 v5 v6 v7 v8 v9 x0 = some (r, τ) → Ev 6 m3_grindOrders 85 [(0, .ref v0), (1, .int v1), (2, .int v2), (4, .int v4), (5, .int v5), (6, .int v6), (7, .int v7), (8, .int v8), (9, .int v9)] [.int x0] σ none τ := by
  intro σ v0 v1 v2 v4 v5 v6 v7 v8 v9 x0 r τ hf
  unfold f3_grindOrders_p85 at hf
  refine ev_istore (lv2 := [(10, .int x0), (0, .ref v0), (1, .int v1), (2, .int v2), (4, .int v4), (5, .int v5), (6, .int v6), (7, .int v7), (8, .int v8), (9, .int v9)]) (i := 10) (by decide) rfl d3_grindOrders_85 ?_
  refine ev_aload_n (j := 0) (i := 0) (q := 1) rfl rfl d3_grindOrders_87 ?_
  obtain ⟨h36, hf⟩ := gd_some hf
  obtain ⟨b37, e38, hf⟩ := lt_some hf
  obtain ⟨h39, hf⟩ := gd_some hf
  refine ev_getRb cls3 (j := 6) (by decide) rfl w383 h36 e38 (nz_ne h39) d3_grindOrders_88 ?_
  refine ev_iload (i := 7) (q := 7) rfl d3_grindOrders_91 ?_
  obtain ⟨h40, hf⟩ := gd_some hf
  obtain ⟨h41, hf⟩ := gd_some hf
  refine ev_iald h40 h41 d3_grindOrders_93 ?_
  refine ev_iload (i := 6) (q := 6) rfl d3_grindOrders_94 ?_
  obtain ⟨r42, t43, k44, hf⟩ := bd_some hf
  have q45 := sJ9_min_7cf53 _ _ _ _ _ k44
  refine ev_callS (vs := [.int (sI σ b37 (ix v7)), .int v6]) (sk := []) q45 (by decide) (Nat.le_of_ble_eq_true rfl) w995 w636 w8 w637 kJ9_min_7cf53 rfl (Nat.le_of_ble_eq_true rfl) d3_grindOrders_96 ?_
  refine ev_iload (i := 10) (q := 0) rfl d3_grindOrders_99 ?_
  obtain ⟨r46, t47, k48, hf⟩ := bd_some hf
  have q49 := sJ9_min_7cf53 _ _ _ _ _ k48
  refine ev_callS (vs := [.int r42, .int x0]) (sk := []) q49 (by decide) (Nat.le_of_ble_eq_true rfl) w995 w636 w8 w637 kJ9_min_7cf53 rfl (Nat.le_of_ble_eq_true rfl) d3_grindOrders_101 ?_
  refine ev_istore (lv2 := [(11, .int r46), (10, .int x0), (0, .ref v0), (1, .int v1), (2, .int v2), (4, .int v4), (5, .int v5), (6, .int v6), (7, .int v7), (8, .int v8), (9, .int v9)]) (i := 11) (by decide) rfl d3_grindOrders_104 ?_
  refine ev_iload (i := 11) (q := 0) rfl d3_grindOrders_106 ?_
  rcases ite_some hf with ⟨c50, hf⟩ | ⟨c50, hf⟩
  · refine ev_if_le_P (tgt := 219) c50 (by decide) d3_grindOrders_108 ?_
    exact Ev.sub [2, 3, 4, 5, 6, 7, 8] rfl (s3_grindOrders_p219 hK24 _ _ _ _ _ _ _ _ _ _ hf)
  · refine ev_if_le_Q (tgt := 219) c50 (by decide) d3_grindOrders_108 ?_
    refine ev_aload_n (j := 0) (i := 0) (q := 2) rfl rfl d3_grindOrders_111 ?_
    obtain ⟨b51, e52, hf⟩ := lt_some hf
    obtain ⟨h53, hf⟩ := gd_some hf
    refine ev_getRb cls3 (j := 1) (by decide) rfl w377 (mono_ob q49.1 (mono_ob q45.1 h36)) e52 (nz_ne h53) d3_grindOrders_112 ?_
    refine ev_iload (i := 11) (q := 0) rfl d3_grindOrders_115 ?_
    refine ev_iload (i := 8) (q := 9) rfl d3_grindOrders_117 ?_
    refine ev_aload_n (j := 0) (i := 0) (q := 2) rfl rfl d3_grindOrders_119 ?_
    obtain ⟨b54, e55, hf⟩ := lt_some hf
    obtain ⟨h56, hf⟩ := gd_some hf
    refine ev_getRb cls3 (j := 5) (by decide) rfl w382 (mono_ob q49.1 (mono_ob q45.1 h36)) e55 (nz_ne h56) d3_grindOrders_120 ?_
    refine ev_iload (i := 7) (q := 8) rfl d3_grindOrders_123 ?_
    obtain ⟨h57, hf⟩ := gd_some hf
    obtain ⟨h58, hf⟩ := gd_some hf
    refine ev_iald h57 h58 d3_grindOrders_125 ?_
    refine ev_iload_n (j := 1) (i := 1) (q := 3) rfl rfl d3_grindOrders_126 ?_
    refine ev_iload (i := 4) (q := 5) rfl d3_grindOrders_127 ?_
    refine ev_iload_n (j := 2) (i := 2) (q := 4) rfl rfl d3_grindOrders_129 ?_
    obtain ⟨h59, hf⟩ := gd_some hf
    obtain ⟨r60, t61, k62, hf⟩ := bd_some hf
    have q63 := s4_tollFor _ _ _ _ _ _ _ _ _ _ k62
    refine ev_callV (vs := [.int r46, .int v8, .int (sI t47 b54 (ix v7)), .int v1, .int v4, .int v2]) (sk := []) cls4 h59 q63 (by decide) (Nat.le_of_ble_eq_true rfl) w996 w997 w998 w6 w999 k4_tollFor rfl (Nat.le_of_ble_eq_true rfl) d3_grindOrders_130 ?_
    refine ev_istore (lv2 := [(12, .int r60), (11, .int r46), (10, .int x0), (0, .ref v0), (1, .int v1), (2, .int v2), (4, .int v4), (5, .int v5), (6, .int v6), (7, .int v7), (8, .int v8), (9, .int v9)]) (i := 12) (by decide) rfl d3_grindOrders_133 ?_
    refine ev_iload (i := 6) (q := 8) rfl d3_grindOrders_135 ?_
    refine ev_iload (i := 11) (q := 1) rfl d3_grindOrders_137 ?_
    refine ev_isub d3_grindOrders_139 ?_
    obtain ⟨y64, e65, hf⟩ := lt_some hf
    refine ev_nmI e65 ?_
    refine ev_istore (lv2 := [(6, .int y64), (12, .int r60), (11, .int r46), (10, .int x0), (0, .ref v0), (1, .int v1), (2, .int v2), (4, .int v4), (5, .int v5), (7, .int v7), (8, .int v8), (9, .int v9)]) (i := 6) (by decide) rfl d3_grindOrders_140 ?_
    refine ev_aload_n (j := 0) (i := 0) (q := 4) rfl rfl d3_grindOrders_142 ?_
    obtain ⟨b66, e67, hf⟩ := lt_some hf
    obtain ⟨h68, hf⟩ := gd_some hf
    refine ev_getRb cls3 (j := 3) (by decide) rfl w380 (mono_ob q63.1 (mono_ob q49.1 (mono_ob q45.1 h36))) e67 (nz_ne h68) d3_grindOrders_143 ?_
    refine ev_iload (i := 8) (q := 10) rfl d3_grindOrders_146 ?_
    refine ev_dup2 rfl rfl d3_grindOrders_148 ?_
    obtain ⟨h69, hf⟩ := gd_some hf
    obtain ⟨h70, hf⟩ := gd_some hf
    refine ev_iald h69 h70 d3_grindOrders_149 ?_
    refine ev_iload (i := 11) (q := 2) rfl d3_grindOrders_150 ?_
    refine ev_iload (i := 9) (q := 11) rfl d3_grindOrders_152 ?_
    refine ev_imul d3_grindOrders_154 ?_
    refine ev_isub d3_grindOrders_155 ?_
    obtain ⟨t71, e72, hf⟩ := lt_some hf
    refine ev_iast h69 h70 d3_grindOrders_156 (ev_nmS e72 ?_)
    refine ev_aload_n (j := 0) (i := 0) (q := 4) rfl rfl d3_grindOrders_157 ?_
    obtain ⟨b73, e74, hf⟩ := lt_some hf
    obtain ⟨h75, hf⟩ := gd_some hf
    refine ev_getRb cls3 (j := 6) (by decide) rfl w383 (mono_ob (mono_eI e72) (mono_ob q63.1 (mono_ob q49.1 (mono_ob q45.1 h36)))) e74 (nz_ne h75) d3_grindOrders_158 ?_
    refine ev_iload (i := 7) (q := 9) rfl d3_grindOrders_161 ?_
    refine ev_dup2 rfl rfl d3_grindOrders_163 ?_
    obtain ⟨h76, hf⟩ := gd_some hf
    obtain ⟨h77, hf⟩ := gd_some hf
    refine ev_iald h76 h77 d3_grindOrders_164 ?_
    refine ev_iload (i := 11) (q := 2) rfl d3_grindOrders_165 ?_
    refine ev_isub d3_grindOrders_167 ?_
    obtain ⟨t78, e79, hf⟩ := lt_some hf
    refine ev_iast h76 h77 d3_grindOrders_168 (ev_nmS e79 ?_)
    refine ev_aload_n (j := 0) (i := 0) (q := 4) rfl rfl d3_grindOrders_169 ?_
    obtain ⟨b80, e81, hf⟩ := lt_some hf
    obtain ⟨h82, hf⟩ := gd_some hf
    refine ev_getRb cls3 (j := 7) (by decide) rfl w384 (mono_ob (mono_eI e79) (mono_ob (mono_eI e72) (mono_ob q63.1 (mono_ob q49.1 (mono_ob q45.1 h36))))) e81 (nz_ne h82) d3_grindOrders_170 ?_
    refine ev_iload (i := 7) (q := 9) rfl d3_grindOrders_173 ?_
    refine ev_dup2 rfl rfl d3_grindOrders_175 ?_
    obtain ⟨h83, hf⟩ := gd_some hf
    obtain ⟨h84, hf⟩ := gd_some hf
    refine ev_iald h83 h84 d3_grindOrders_176 ?_
    refine ev_iload (i := 12) (q := 1) rfl d3_grindOrders_177 ?_
    refine ev_iadd d3_grindOrders_179 ?_
    obtain ⟨t85, e86, hf⟩ := lt_some hf
    refine ev_iast h83 h84 d3_grindOrders_180 (ev_nmS e86 ?_)
    refine ev_aload_n (j := 0) (i := 0) (q := 4) rfl rfl d3_grindOrders_181 ?_
    obtain ⟨b87, e88, hf⟩ := lt_some hf
    obtain ⟨h89, hf⟩ := gd_some hf
    refine ev_getRb cls3 (j := 8) (by decide) rfl w385 (mono_ob (mono_eI e86) (mono_ob (mono_eI e79) (mono_ob (mono_eI e72) (mono_ob q63.1 (mono_ob q49.1 (mono_ob q45.1 h36)))))) e88 (nz_ne h89) d3_grindOrders_182 ?_
    refine ev_iload (i := 7) (q := 9) rfl d3_grindOrders_185 ?_
    refine ev_aload_n (j := 0) (i := 0) (q := 4) rfl rfl d3_grindOrders_187 ?_
    refine ev_getRb cls3 (j := 6) (by decide) rfl w383 (mono_ob (mono_eI e86) (mono_ob (mono_eI e79) (mono_ob (mono_eI e72) (mono_ob q63.1 (mono_ob q49.1 (mono_ob q45.1 h36)))))) (tr_I e86 (tr_I e79 e74)) (nz_ne h75) d3_grindOrders_188 ?_
    refine ev_iload (i := 7) (q := 9) rfl d3_grindOrders_191 ?_
    refine ev_iald (mono_ob (mono_eI e86) (mono_ob (mono_eI e79) h76)) (inb_m (mono_eI e86) (mono_ob (mono_eI e79) h76) (inb_m (mono_eI e79) h76 h77)) d3_grindOrders_193 ?_
    rcases ite_some hf with ⟨c90, hf⟩ | ⟨c90, hf⟩
    · refine ev_if_ne_P (tgt := 201) c90 (by decide) d3_grindOrders_194 ?_
      refine ev_iload_n (j := 2) (i := 2) (q := 6) rfl rfl d3_grindOrders_197 ?_
      refine ev_goto (tgt := 202) (by decide) d3_grindOrders_198 ?_
      exact Ev.sub [4, 5, 6, 7, 8, 0, 9, 2, 1] rfl (s3_grindOrders_p202 hK24 _ _ _ _ _ _ _ _ _ _ _ _ _ _ _ hf)
    · refine ev_if_ne_Q (tgt := 201) c90 (by decide) d3_grindOrders_194 ?_
      refine ev_iconst ci_m1 d3_grindOrders_201 ?_
      exact Ev.sub [4, 5, 6, 7, 8, 0, 9, 2, 1] rfl (s3_grindOrders_p202 hK24 _ _ _ _ _ _ _ _ _ _ _ _ _ _ _ hf)
def f3_grindOrders_p64 (K24 : St → Nat → Int32 → Int32 → Int32 → Int32 → Int32 → Int32 → Option (Unit × St)) (σ : St) (v0 : Nat) (v1 : Int32) (v2 : Int32) (v4 : Int32) (v5 : Int32) (v6 : Int32) (v7 : Int32) (v8 : Int32) (x0 : Int32) : Option (Unit × St) :=
  (if x0 ≤ (0 : Int32) then
  f3_grindOrders_p85 K24 σ v0 v1 v2 v4 v5 v6 v7 v8 x0 (0 : Int32)
  else
  gd (ob σ v0 3) (
  lt (sR σ v0 3) fun b30 => (
  gd (nz b30) (
  gd (ob σ b30 14) (
  gd (inb σ b30 v8) (
  gd (nzI x0) (
  f3_grindOrders_p85 K24 σ v0 v1 v2 v4 v5 v6 v7 v8 x0 ((sI σ b30 (ix v8)) / x0))))))))
set_option maxRecDepth 20000 in
theorem s3_grindOrders_p64 {K24 : St → Nat → Int32 → Int32 → Int32 → Int32 → Int32 → Int32 → Option (Unit × St)} (hK24 : ∀ (σ : St) (v0 : Nat) (v1 : Int32) (v2 : Int32) (v4 : Int32) (v5 : Int32) (v6 : Int32) (v7 : Int32) (r : Unit) (τ : St), K24 σ v0 v1 v2 v4 v5 v6 v7 = some (r, τ) → Ev 6 m3_grindOrders 24 [(0, .ref v0), (1, .int v1), (2, .int v2), (4, .int v4), (5, .int v5), (6, .int v6), (7, .int v7)] [] σ none τ) : ∀ (σ : St) (v0 : Nat) (v1 : Int32) (v2 : Int32) (v4 : Int32) (v5 : Int32) (v6 : Int32) (v7 : Int32) (v8 : Int32) (x0 : Int32) (r : Unit) (τ : St), f3_grindOrders_p64 K24 σ v0 v1 v2 v4 v5 v6 v7 v8 x0 = some (r, τ) → Ev 6 m3_grindOrders 64 [(0, .ref v0), (1, .int v1), (2, .int v2), (4, .int v4), (5, .int v5), (6, .int v6), (7, .int v7), (8, .int v8)] [.int x0] σ none τ := by
  intro σ v0 v1 v2 v4 v5 v6 v7 v8 x0 r τ hf
  unfold f3_grindOrders_p64 at hf
  refine ev_istore (lv2 := [(9, .int x0), (0, .ref v0), (1, .int v1), (2, .int v2), (4, .int v4), (5, .int v5), (6, .int v6), (7, .int v7), (8, .int v8)]) (i := 9) (by decide) rfl d3_grindOrders_64 ?_
  refine ev_iload (i := 9) (q := 0) rfl d3_grindOrders_66 ?_
  rcases ite_some hf with ⟨c28, hf⟩ | ⟨c28, hf⟩
  · refine ev_if_le_P (tgt := 84) c28 (by decide) d3_grindOrders_68 ?_
    refine ev_iconst ci_0 d3_grindOrders_84 ?_
    exact Ev.sub [1, 2, 3, 4, 5, 6, 7, 8, 0] rfl (s3_grindOrders_p85 hK24 _ _ _ _ _ _ _ _ _ _ _ _ _ hf)
  · refine ev_if_le_Q (tgt := 84) c28 (by decide) d3_grindOrders_68 ?_
    refine ev_aload_n (j := 0) (i := 0) (q := 1) rfl rfl d3_grindOrders_71 ?_
    obtain ⟨h29, hf⟩ := gd_some hf
    obtain ⟨b30, e31, hf⟩ := lt_some hf
    obtain ⟨h32, hf⟩ := gd_some hf
    refine ev_getRb cls3 (j := 3) (by decide) rfl w380 h29 e31 (nz_ne h32) d3_grindOrders_72 ?_
    refine ev_iload (i := 8) (q := 8) rfl d3_grindOrders_75 ?_
    obtain ⟨h33, hf⟩ := gd_some hf
    obtain ⟨h34, hf⟩ := gd_some hf
    refine ev_iald h33 h34 d3_grindOrders_77 ?_
    refine ev_iload (i := 9) (q := 0) rfl d3_grindOrders_78 ?_
    obtain ⟨h35, hf⟩ := gd_some hf
    refine ev_idiv (nzI_ne h35) d3_grindOrders_80 ?_
    refine ev_goto (tgt := 85) (by decide) d3_grindOrders_81 ?_
    exact Ev.sub [1, 2, 3, 4, 5, 6, 7, 8, 0] rfl (s3_grindOrders_p85 hK24 _ _ _ _ _ _ _ _ _ _ _ _ _ hf)
def f3_grindOrders_p24 : Nat → St → Nat → Int32 → Int32 → Int32 → Int32 → Int32 → Int32 → Option (Unit × St)
  | 0, _, _, _, _, _, _, _, _ => none
  | n + 1, σ, v0, v1, v2, v4, v5, v6, v7 =>
  gd (ob σ v0 3) (
  (if v7 < (sI σ v0 9) then
  (if v6 ≤ (0 : Int32) then
  some ((), σ)
  else
  lt (sR σ v0 4) fun b20 => (
  gd (nz b20) (
  gd (ob σ b20 14) (
  gd (inb σ b20 v7) (
  lt (sI σ b20 (ix v7)) fun y25 => (
  (if y25 = (0 : Int32) then
  f3_grindOrders_p64 (f3_grindOrders_p24 n) σ v0 v1 v2 v4 v5 v6 v7 y25 ((1 : Int32) + v5)
  else
  f3_grindOrders_p64 (f3_grindOrders_p24 n) σ v0 v1 v2 v4 v5 v6 v7 y25 ((6 : Int32) - v5))))))))
  else
  some ((), σ)))
set_option maxRecDepth 20000 in
theorem s3_grindOrders_p24 : ∀ (n : Nat) (σ : St) (v0 : Nat) (v1 : Int32) (v2 : Int32) (v4 : Int32) (v5 : Int32) (v6 : Int32) (v7 : Int32) (r : Unit) (τ : St), f3_grindOrders_p24 n σ v0 v1 v2 v4 v5 v6 v7 = some (r, τ) → Ev 6 m3_grindOrders 24 [(0, .ref v0), (1, .int v1), (2, .int v2), (4, .int v4), (5, .int v5), (6, .int v6), (7, .int v7)] [] σ none τ := by
  intro n
  induction n with
  | zero =>
    intro σ v0 v1 v2 v4 v5 v6 v7 r τ hf
    cases hf
  | succ n ih =>
    intro σ v0 v1 v2 v4 v5 v6 v7 r τ hf
    rw [f3_grindOrders_p24] at hf
    refine ev_iload (i := 7) (q := 6) rfl d3_grindOrders_24 ?_
    refine ev_aload_n (j := 0) (i := 0) (q := 0) rfl rfl d3_grindOrders_26 ?_
    obtain ⟨h17, hf⟩ := gd_some hf
    refine ev_getI cls3 (j := 9) (by decide) rfl w386 h17 d3_grindOrders_27 ?_
    rcases ite_some hf with ⟨c18, hf⟩ | ⟨c18, hf⟩
    · refine ev_icmp_ge_P (tgt := 225) c18 (by decide) d3_grindOrders_30 ?_
      refine ev_iload (i := 6) (q := 5) rfl d3_grindOrders_33 ?_
      rcases ite_some hf with ⟨c19, hf⟩ | ⟨c19, hf⟩
      · refine ev_if_le_P (tgt := 225) c19 (by decide) d3_grindOrders_35 ?_
        obtain ⟨-, rfl⟩ := ret_some hf
        exact ev_vret rfl d3_grindOrders_225
      · refine ev_if_le_Q (tgt := 225) c19 (by decide) d3_grindOrders_35 ?_
        refine ev_aload_n (j := 0) (i := 0) (q := 0) rfl rfl d3_grindOrders_38 ?_
        obtain ⟨b20, e21, hf⟩ := lt_some hf
        obtain ⟨h22, hf⟩ := gd_some hf
        refine ev_getRb cls3 (j := 4) (by decide) rfl w381 h17 e21 (nz_ne h22) d3_grindOrders_39 ?_
        refine ev_iload (i := 7) (q := 6) rfl d3_grindOrders_42 ?_
        obtain ⟨h23, hf⟩ := gd_some hf
        obtain ⟨h24, hf⟩ := gd_some hf
        refine ev_iald h23 h24 d3_grindOrders_44 ?_
        obtain ⟨y25, e26, hf⟩ := lt_some hf
        refine ev_nmI e26 ?_
        refine ev_istore (lv2 := [(8, .int y25), (0, .ref v0), (1, .int v1), (2, .int v2), (4, .int v4), (5, .int v5), (6, .int v6), (7, .int v7)]) (i := 8) (by decide) rfl d3_grindOrders_45 ?_
        refine ev_iload (i := 8) (q := 0) rfl d3_grindOrders_47 ?_
        rcases ite_some hf with ⟨c27, hf⟩ | ⟨c27, hf⟩
        · refine ev_if_ne_P (tgt := 59) c27 (by decide) d3_grindOrders_49 ?_
          refine ev_iconst ci_1 d3_grindOrders_52 ?_
          refine ev_iload (i := 5) (q := 5) rfl d3_grindOrders_53 ?_
          refine ev_iadd d3_grindOrders_55 ?_
          refine ev_goto (tgt := 64) (by decide) d3_grindOrders_56 ?_
          exact Ev.sub [1, 2, 3, 4, 5, 6, 7, 0] rfl (s3_grindOrders_p64 ih _ _ _ _ _ _ _ _ _ _ _ _ hf)
        · refine ev_if_ne_Q (tgt := 59) c27 (by decide) d3_grindOrders_49 ?_
          refine ev_bipush cb_6 d3_grindOrders_59 ?_
          refine ev_iload (i := 5) (q := 5) rfl d3_grindOrders_61 ?_
          refine ev_isub d3_grindOrders_63 ?_
          exact Ev.sub [1, 2, 3, 4, 5, 6, 7, 0] rfl (s3_grindOrders_p64 ih _ _ _ _ _ _ _ _ _ _ _ _ hf)
    · refine ev_icmp_ge_Q (tgt := 225) c18 (by decide) d3_grindOrders_30 ?_
      obtain ⟨-, rfl⟩ := ret_some hf
      exact ev_vret rfl d3_grindOrders_225
def f3_grindOrders (σ : St) (v0 : Nat) (v1 : Int32) (v2 : Int32) (v3 : Int32) : Option (Unit × St) :=
  gd (ob σ v0 3) (
  lt (sR σ v0 0) fun b2 => (
  gd (nz b2) (
  gd (ob σ b2 8) (
  lt (sR σ b2 3) fun b6 => (
  gd (nz b6) (
  gd (ob σ b6 14) (
  gd (inb σ b6 v1) (
  lt (sI σ b6 (ix v1)) fun y11 => (
  bd (f11_laneOf σ y11) fun r13 t14 => (
  f3_grindOrders_p24 FU t14 v0 v1 v2 y11 r13 v3 (0 : Int32)))))))))))
set_option maxRecDepth 50000 in
theorem s3_grindOrders : ∀ (σ : St) (v0 : Nat) (v1 : Int32) (v2 : Int32) (v3 : Int32) (r : Unit) (τ : St), f3_grindOrders σ v0 v1 v2 v3 = some (r, τ) → Call 6 m3_grindOrders [.ref v0, .int v1, .int v2, .int v3] σ none τ := by
  intro σ v0 v1 v2 v3 r τ hf
  unfold f3_grindOrders at hf
  refine Call.of (by decide +kernel) rfl (Nat.le_of_ble_eq_true rfl) ?_
  refine ev_aload_n (j := 0) (i := 0) (q := 0) rfl rfl d3_grindOrders_0 ?_
  obtain ⟨h1, hf⟩ := gd_some hf
  obtain ⟨b2, e3, hf⟩ := lt_some hf
  obtain ⟨h4, hf⟩ := gd_some hf
  refine ev_getRb cls3 (j := 0) (by decide) rfl w376 h1 e3 (nz_ne h4) d3_grindOrders_1 ?_
  obtain ⟨h5, hf⟩ := gd_some hf
  obtain ⟨b6, e7, hf⟩ := lt_some hf
  obtain ⟨h8, hf⟩ := gd_some hf
  refine ev_getRNb cls8 (j := 3) (by decide) rfl w118 h5 e7 (nz_ne h8) d3_grindOrders_4 ?_
  refine ev_iload_n (j := 1) (i := 1) (q := 1) rfl rfl d3_grindOrders_7 ?_
  obtain ⟨h9, hf⟩ := gd_some hf
  obtain ⟨h10, hf⟩ := gd_some hf
  refine ev_iald h9 h10 d3_grindOrders_8 ?_
  obtain ⟨y11, e12, hf⟩ := lt_some hf
  refine ev_nmI e12 ?_
  refine ev_istore (lv2 := [(4, .int y11), (0, .ref v0), (1, .int v1), (2, .int v2), (3, .int v3)]) (i := 4) (by decide) rfl d3_grindOrders_9 ?_
  refine ev_iload (i := 4) (q := 0) rfl d3_grindOrders_11 ?_
  obtain ⟨r13, t14, k15, hf⟩ := bd_some hf
  have q16 := s11_laneOf _ _ _ _ k15
  refine ev_callSN (vs := [.int y11]) (sk := []) q16 (by decide) (Nat.le_of_ble_eq_true rfl) w994 w607 w1 w608 k11_laneOf rfl (Nat.le_of_ble_eq_true rfl) d3_grindOrders_13 ?_
  refine ev_istore (lv2 := [(5, .int r13), (4, .int y11), (0, .ref v0), (1, .int v1), (2, .int v2), (3, .int v3)]) (i := 5) (by decide) rfl d3_grindOrders_16 ?_
  refine ev_iload_n (j := 3) (i := 3) (q := 5) rfl rfl d3_grindOrders_18 ?_
  refine ev_istore (lv2 := [(6, .int v3), (5, .int r13), (4, .int y11), (0, .ref v0), (1, .int v1), (2, .int v2), (3, .int v3)]) (i := 6) (by decide) rfl d3_grindOrders_19 ?_
  refine ev_iconst ci_0 d3_grindOrders_21 ?_
  refine ev_istore (lv2 := [(7, .int (0 : Int32)), (6, .int v3), (5, .int r13), (4, .int y11), (0, .ref v0), (1, .int v1), (2, .int v2), (3, .int v3)]) (i := 7) (by decide) rfl d3_grindOrders_22 ?_
  exact Ev.sub [4, 5, 6, 3, 2, 1, 0] rfl (s3_grindOrders_p24 FU _ _ _ _ _ _ _ _ _ _ hf)
abbrev m4_wordKind : MD := ("MillBoats$Law", ⟨"MillBoats$Law", "wordKind", "(LMillBoats$Text;)I"⟩, prog_6_method_10_code, 3, (some Jvm.ClassFile.FieldType.int))
theorem k4_wordKind : okY m4_wordKind.2.1 1 := ⟨by decide +kernel, by decide +kernel, by decide +kernel⟩
def f4_wordKind (σ : St) (v0 : Nat) (v1 : Nat) : Option (Int32 × St) :=
  (if v1 = 0 then
  gd (ob σ v0 4) (
  bd (f4_lastHolding σ v0 0 (257 : Int32) (258 : Int32)) fun r2 t3 => (
  some ((-1 : Int32), t3)))
  else
  gd (ob σ v0 4) (
  bd (f4_lastHolding σ v0 v1 (257 : Int32) (258 : Int32)) fun r7 t8 => (
  (if r7 < (0 : Int32) then
  some ((-1 : Int32), t8)
  else
  gd (ob t8 v1 10) (
  lt (sR t8 v1 1) fun b13 => (
  gd (nz b13) (
  gd (ob t8 b13 14) (
  gd (inb t8 b13 r7) (
  some (sI t8 b13 (ix r7), t8))))))))))
set_option maxRecDepth 50000 in
theorem s4_wordKind : ∀ (σ : St) (v0 : Nat) (v1 : Nat) (r : Int32) (τ : St), f4_wordKind σ v0 v1 = some (r, τ) → Call 5 m4_wordKind [.ref v0, nv v1] σ (some (.int r)) τ := by
  intro σ v0 v1 r τ hf
  unfold f4_wordKind at hf
  rcases ite_some hf with ⟨c0, hf⟩ | ⟨c0, hf⟩
  · rw [nv_0 c0]
    refine Call.of (by decide +kernel) rfl (Nat.le_of_ble_eq_true rfl) ?_
    refine ev_aload_n (j := 0) (i := 0) (q := 0) rfl rfl d4_wordKind_0 ?_
    refine ev_aload_nN (j := 1) (i := 1) (q := 1) rfl rfl d4_wordKind_1 ?_
    refine ev_sipush cs_257 d4_wordKind_2 ?_
    refine ev_sipush cs_258 d4_wordKind_5 ?_
    obtain ⟨h1, hf⟩ := gd_some hf
    obtain ⟨r2, t3, k4, hf⟩ := bd_some hf
    have q5 := s4_lastHolding _ _ _ _ _ _ _ k4
    rw [nv_0 rfl] at q5
    refine ev_callV (vs := [.null, .int (257 : Int32), .int (258 : Int32)]) (sk := []) cls4 h1 q5 (by decide) (Nat.le_of_ble_eq_true rfl) w878 w880 ws28 w6 w881 k4_lastHolding rfl (Nat.le_of_ble_eq_true rfl) d4_wordKind_8 ?_
    refine ev_istore_n (lv2 := [(2, .int r2), (0, .ref v0), (1, .null)]) (j := 2) (i := 2) rfl (by decide) rfl d4_wordKind_11 ?_
    refine ev_aload_nN (j := 1) (i := 1) (q := 2) rfl rfl d4_wordKind_12 ?_
    refine ev_ifnull_n (tgt := 20) (by decide) d4_wordKind_13 ?_
    refine ev_iconst ci_m1 d4_wordKind_20 ?_
    refine ev_goto (tgt := 30) (by decide) d4_wordKind_21 ?_
    obtain ⟨rfl, rfl⟩ := ret_some hf
    exact ev_iret rfl d4_wordKind_30
  · rw [nv_1 c0]
    refine Call.of (by decide +kernel) rfl (Nat.le_of_ble_eq_true rfl) ?_
    refine ev_aload_n (j := 0) (i := 0) (q := 0) rfl rfl d4_wordKind_0 ?_
    refine ev_aload_n (j := 1) (i := 1) (q := 1) rfl rfl d4_wordKind_1 ?_
    refine ev_sipush cs_257 d4_wordKind_2 ?_
    refine ev_sipush cs_258 d4_wordKind_5 ?_
    obtain ⟨h6, hf⟩ := gd_some hf
    obtain ⟨r7, t8, k9, hf⟩ := bd_some hf
    have q10 := s4_lastHolding _ _ _ _ _ _ _ k9
    rw [nv_1 c0] at q10
    refine ev_callV (vs := [.ref v1, .int (257 : Int32), .int (258 : Int32)]) (sk := []) cls4 h6 q10 (by decide) (Nat.le_of_ble_eq_true rfl) w878 w880 ws28 w6 w881 k4_lastHolding rfl (Nat.le_of_ble_eq_true rfl) d4_wordKind_8 ?_
    refine ev_istore_n (lv2 := [(2, .int r7), (0, .ref v0), (1, .ref v1)]) (j := 2) (i := 2) rfl (by decide) rfl d4_wordKind_11 ?_
    refine ev_aload_n (j := 1) (i := 1) (q := 2) rfl rfl d4_wordKind_12 ?_
    refine ev_ifnull_r d4_wordKind_13 ?_
    refine ev_iload_n (j := 2) (i := 2) (q := 0) rfl rfl d4_wordKind_16 ?_
    rcases ite_some hf with ⟨c11, hf⟩ | ⟨c11, hf⟩
    · refine ev_if_ge_P (tgt := 24) c11 (by decide) d4_wordKind_17 ?_
      refine ev_iconst ci_m1 d4_wordKind_20 ?_
      refine ev_goto (tgt := 30) (by decide) d4_wordKind_21 ?_
      obtain ⟨rfl, rfl⟩ := ret_some hf
      exact ev_iret rfl d4_wordKind_30
    · refine ev_if_ge_Q (tgt := 24) c11 (by decide) d4_wordKind_17 ?_
      refine ev_aload_n (j := 1) (i := 1) (q := 2) rfl rfl d4_wordKind_24 ?_
      obtain ⟨h12, hf⟩ := gd_some hf
      obtain ⟨b13, e14, hf⟩ := lt_some hf
      obtain ⟨h15, hf⟩ := gd_some hf
      refine ev_getRNb cls10 (j := 1) (by decide) rfl w187 h12 e14 (nz_ne h15) d4_wordKind_25 ?_
      refine ev_iload_n (j := 2) (i := 2) (q := 0) rfl rfl d4_wordKind_28 ?_
      obtain ⟨h16, hf⟩ := gd_some hf
      obtain ⟨h17, hf⟩ := gd_some hf
      refine ev_iald h16 h17 d4_wordKind_29 ?_
      obtain ⟨rfl, rfl⟩ := ret_some hf
      exact ev_iret rfl d4_wordKind_30
abbrev m4_standing : MD := ("MillBoats$Law", ⟨"MillBoats$Law", "standing", "(IIII)I"⟩, prog_6_method_9_code, 10, (some Jvm.ClassFile.FieldType.int))
theorem k4_standing : okY m4_standing.2.1 4 := ⟨by decide +kernel, by decide +kernel, by decide +kernel⟩
def f4_standing_p129 (σ : St) (v8 : Int32) (x0 : Int32) : Option (Int32 × St) :=
  (if x0 = (0 : Int32) then
  some (v8, σ)
  else
  some (v8 + (4 : Int32), σ))
set_option maxRecDepth 20000 in
theorem s4_standing_p129 : ∀ (σ : St) (v8 : Int32) (x0 : Int32) (r : Int32) (τ : St), f4_standing_p129 σ v8 x0 = some (r, τ) → Ev 6 m4_standing 129 [(8, .int v8)] [.int x0] σ (some (.int r)) τ := by
  intro σ v8 x0 r τ hf
  unfold f4_standing_p129 at hf
  refine ev_istore (lv2 := [(9, .int x0), (8, .int v8)]) (i := 9) (by decide) rfl d4_standing_129 ?_
  refine ev_iload (i := 9) (q := 0) rfl d4_standing_131 ?_
  rcases ite_some hf with ⟨c47, hf⟩ | ⟨c47, hf⟩
  · refine ev_if_eq_P (tgt := 143) c47 (by decide) d4_standing_133 ?_
    refine ev_iload (i := 8) (q := 1) rfl d4_standing_143 ?_
    obtain ⟨rfl, rfl⟩ := ret_some hf
    exact ev_iret rfl d4_standing_145
  · refine ev_if_eq_Q (tgt := 143) c47 (by decide) d4_standing_133 ?_
    refine ev_iload (i := 8) (q := 1) rfl d4_standing_136 ?_
    refine ev_iconst ci_4 d4_standing_138 ?_
    refine ev_iadd d4_standing_139 ?_
    refine ev_goto (tgt := 145) (by decide) d4_standing_140 ?_
    obtain ⟨rfl, rfl⟩ := ret_some hf
    exact ev_iret rfl d4_standing_145
def f4_standing_p124 (σ : St) (v8 : Int32) : Option (Int32 × St) :=
  f4_standing_p129 σ v8 (1 : Int32)
set_option maxRecDepth 20000 in
theorem s4_standing_p124 : ∀ (σ : St) (v8 : Int32) (r : Int32) (τ : St), f4_standing_p124 σ v8 = some (r, τ) → Ev 6 m4_standing 124 [(8, .int v8)] [] σ (some (.int r)) τ := by
  intro σ v8 r τ hf
  unfold f4_standing_p124 at hf
  refine ev_iconst ci_1 d4_standing_124 ?_
  refine ev_goto (tgt := 129) (by decide) d4_standing_125 ?_
  exact Ev.sub [0] rfl (s4_standing_p129 _ _ _ _ _ hf)
def f4_standing_p128 (σ : St) (v8 : Int32) : Option (Int32 × St) :=
  f4_standing_p129 σ v8 (0 : Int32)
set_option maxRecDepth 20000 in
theorem s4_standing_p128 : ∀ (σ : St) (v8 : Int32) (r : Int32) (τ : St), f4_standing_p128 σ v8 = some (r, τ) → Ev 6 m4_standing 128 [(8, .int v8)] [] σ (some (.int r)) τ := by
  intro σ v8 r τ hf
  unfold f4_standing_p128 at hf
  refine ev_iconst ci_0 d4_standing_128 ?_
  exact Ev.sub [0] rfl (s4_standing_p129 _ _ _ _ _ hf)
def f4_standing_p108 (σ : St) (v6 : Int32) (v7 : Int32) (v8 : Int32) : Option (Int32 × St) :=
  (if v6 = (258 : Int32) then
  (if v7 = (257 : Int32) then
  f4_standing_p124 σ v8
  else
  f4_standing_p128 σ v8)
  else
  f4_standing_p128 σ v8)
set_option maxRecDepth 20000 in
theorem s4_standing_p108 : ∀ (σ : St) (v6 : Int32) (v7 : Int32) (v8 : Int32) (r : Int32) (τ : St), f4_standing_p108 σ v6 v7 v8 = some (r, τ) → Ev 6 m4_standing 108 [(6, .int v6), (7, .int v7), (8, .int v8)] [] σ (some (.int r)) τ := by
  intro σ v6 v7 v8 r τ hf
  unfold f4_standing_p108 at hf
  refine ev_iload (i := 6) (q := 0) rfl d4_standing_108 ?_
  refine ev_sipush cs_258 d4_standing_110 ?_
  rcases ite_some hf with ⟨c45, hf⟩ | ⟨c45, hf⟩
  · refine ev_icmp_ne_P (tgt := 128) c45 (by decide) d4_standing_113 ?_
    refine ev_iload (i := 7) (q := 1) rfl d4_standing_116 ?_
    refine ev_sipush cs_257 d4_standing_118 ?_
    rcases ite_some hf with ⟨c46, hf⟩ | ⟨c46, hf⟩
    · refine ev_icmp_ne_P (tgt := 128) c46 (by decide) d4_standing_121 ?_
      exact Ev.sub [2] rfl (s4_standing_p124 _ _ _ _ hf)
    · refine ev_icmp_ne_Q (tgt := 128) c46 (by decide) d4_standing_121 ?_
      exact Ev.sub [2] rfl (s4_standing_p128 _ _ _ _ hf)
  · refine ev_icmp_ne_Q (tgt := 128) c45 (by decide) d4_standing_113 ?_
    exact Ev.sub [2] rfl (s4_standing_p128 _ _ _ _ hf)
def f4_standing_p89 (σ : St) (v6 : Int32) (v7 : Int32) (x0 : Int32) (x1 : Int32) : Option (Int32 × St) :=
  lt (x1 + x0) fun y41 => (
  (if v6 = (257 : Int32) then
  (if v7 = (258 : Int32) then
  f4_standing_p124 σ y41
  else
  f4_standing_p108 σ v6 v7 y41)
  else
  f4_standing_p108 σ v6 v7 y41))
set_option maxRecDepth 20000 in
theorem s4_standing_p89 : ∀ (σ : St) (v6 : Int32) (v7 : Int32) (x0 : Int32) (x1 : Int32) (r : Int32) (τ : St), f4_standing_p89 σ v6 v7 x0 x1 = some (r, τ) → Ev 6 m4_standing 89 [(6, .int v6), (7, .int v7)] [.int x0, .int x1] σ (some (.int r)) τ := by
  intro σ v6 v7 x0 x1 r τ hf
  unfold f4_standing_p89 at hf
  refine ev_iadd d4_standing_89 ?_
  obtain ⟨y41, e42, hf⟩ := lt_some hf
  refine ev_nmI e42 ?_
  refine ev_istore (lv2 := [(8, .int y41), (6, .int v6), (7, .int v7)]) (i := 8) (by decide) rfl d4_standing_90 ?_
  refine ev_iload (i := 6) (q := 1) rfl d4_standing_92 ?_
  refine ev_sipush cs_257 d4_standing_94 ?_
  rcases ite_some hf with ⟨c43, hf⟩ | ⟨c43, hf⟩
  · refine ev_icmp_ne_P (tgt := 108) c43 (by decide) d4_standing_97 ?_
    refine ev_iload (i := 7) (q := 2) rfl d4_standing_100 ?_
    refine ev_sipush cs_258 d4_standing_102 ?_
    rcases ite_some hf with ⟨c44, hf⟩ | ⟨c44, hf⟩
    · refine ev_icmp_eq_P (tgt := 124) c44 (by decide) d4_standing_105 ?_
      exact Ev.sub [0] rfl (s4_standing_p124 _ _ _ _ hf)
    · refine ev_icmp_eq_Q (tgt := 124) c44 (by decide) d4_standing_105 ?_
      exact Ev.sub [1, 2, 0] rfl (s4_standing_p108 _ _ _ _ _ _ hf)
  · refine ev_icmp_ne_Q (tgt := 108) c43 (by decide) d4_standing_97 ?_
    exact Ev.sub [1, 2, 0] rfl (s4_standing_p108 _ _ _ _ _ _ hf)
def f4_standing_p76 (σ : St) (v6 : Int32) (v7 : Int32) (x0 : Int32) : Option (Int32 × St) :=
  (if v7 = (257 : Int32) then
  f4_standing_p89 σ v6 v7 (2 : Int32) x0
  else
  f4_standing_p89 σ v6 v7 (0 : Int32) x0)
set_option maxRecDepth 20000 in
theorem s4_standing_p76 : ∀ (σ : St) (v6 : Int32) (v7 : Int32) (x0 : Int32) (r : Int32) (τ : St), f4_standing_p76 σ v6 v7 x0 = some (r, τ) → Ev 6 m4_standing 76 [(6, .int v6), (7, .int v7)] [.int x0] σ (some (.int r)) τ := by
  intro σ v6 v7 x0 r τ hf
  unfold f4_standing_p76 at hf
  refine ev_iload (i := 7) (q := 1) rfl d4_standing_76 ?_
  refine ev_sipush cs_257 d4_standing_78 ?_
  rcases ite_some hf with ⟨c40, hf⟩ | ⟨c40, hf⟩
  · refine ev_icmp_ne_P (tgt := 88) c40 (by decide) d4_standing_81 ?_
    refine ev_iconst ci_2 d4_standing_84 ?_
    refine ev_goto (tgt := 89) (by decide) d4_standing_85 ?_
    exact Ev.sub [0, 1] rfl (s4_standing_p89 _ _ _ _ _ _ _ hf)
  · refine ev_icmp_ne_Q (tgt := 88) c40 (by decide) d4_standing_81 ?_
    refine ev_iconst ci_0 d4_standing_88 ?_
    exact Ev.sub [0, 1] rfl (s4_standing_p89 _ _ _ _ _ _ _ hf)
def f4_standing_p61 (σ : St) (v6 : Int32) (x0 : Int32) : Option (Int32 × St) :=
  (if v6 = (257 : Int32) then
  f4_standing_p76 σ v6 x0 (1 : Int32)
  else
  f4_standing_p76 σ v6 x0 (0 : Int32))
set_option maxRecDepth 20000 in
theorem s4_standing_p61 : ∀ (σ : St) (v6 : Int32) (x0 : Int32) (r : Int32) (τ : St), f4_standing_p61 σ v6 x0 = some (r, τ) → Ev 6 m4_standing 61 [(6, .int v6)] [.int x0] σ (some (.int r)) τ := by
  intro σ v6 x0 r τ hf
  unfold f4_standing_p61 at hf
  refine ev_istore (lv2 := [(7, .int x0), (6, .int v6)]) (i := 7) (by decide) rfl d4_standing_61 ?_
  refine ev_iload (i := 6) (q := 1) rfl d4_standing_63 ?_
  refine ev_sipush cs_257 d4_standing_65 ?_
  rcases ite_some hf with ⟨c39, hf⟩ | ⟨c39, hf⟩
  · refine ev_icmp_ne_P (tgt := 75) c39 (by decide) d4_standing_68 ?_
    refine ev_iconst ci_1 d4_standing_71 ?_
    refine ev_goto (tgt := 76) (by decide) d4_standing_72 ?_
    exact Ev.sub [1, 0] rfl (s4_standing_p76 _ _ _ _ _ _ hf)
  · refine ev_icmp_ne_Q (tgt := 75) c39 (by decide) d4_standing_68 ?_
    refine ev_iconst ci_0 d4_standing_75 ?_
    exact Ev.sub [1, 0] rfl (s4_standing_p76 _ _ _ _ _ _ hf)
def f4_standing_p37 (σ : St) (v0 : Nat) (v3 : Int32) (v4 : Int32) (v5 : Int32) (x0 : Int32) : Option (Int32 × St) :=
  (if v5 < (2 : Int32) then
  f4_standing_p61 σ x0 (-1 : Int32)
  else
  gd (ob σ v0 4) (
  bd (f4_inForce σ v0 (1 : Int32) v3 v4) fun r26 t27 => (
  (if r26 = 0 then
  bd (f4_wordKind t27 v0 0) fun r31 t32 => (
  f4_standing_p61 t32 x0 r31)
  else
  bd (f4_wordKind t27 v0 r26) fun r35 t36 => (
  f4_standing_p61 t36 x0 r35)))))
set_option maxRecDepth 20000 in
theorem s4_standing_p37 : ∀ (σ : St) (v0 : Nat) (v3 : Int32) (v4 : Int32) (v5 : Int32) (x0 : Int32) (r : Int32) (τ : St), f4_standing_p37 σ v0 v3 v4 v5 x0 = some (r, τ) → Ev 6 m4_standing 37 [(0, .ref v0), (3, .int v3), (4, .int v4), (5, .int v5)] [.int x0] σ (some (.int r)) τ := by
  intro σ v0 v3 v4 v5 x0 r τ hf
  unfold f4_standing_p37 at hf
  refine ev_istore (lv2 := [(6, .int x0), (0, .ref v0), (3, .int v3), (4, .int v4), (5, .int v5)]) (i := 6) (by decide) rfl d4_standing_37 ?_
  refine ev_iload (i := 5) (q := 4) rfl d4_standing_39 ?_
  refine ev_iconst ci_2 d4_standing_41 ?_
  rcases ite_some hf with ⟨c24, hf⟩ | ⟨c24, hf⟩
  · refine ev_icmp_lt_P (tgt := 60) c24 (by decide) d4_standing_42 ?_
    refine ev_iconst ci_m1 d4_standing_60 ?_
    exact Ev.sub [0] rfl (s4_standing_p61 _ _ _ _ _ hf)
  · refine ev_icmp_lt_Q (tgt := 60) c24 (by decide) d4_standing_42 ?_
    refine ev_aload_n (j := 0) (i := 0) (q := 1) rfl rfl d4_standing_45 ?_
    refine ev_aload_n (j := 0) (i := 0) (q := 1) rfl rfl d4_standing_46 ?_
    refine ev_iconst ci_1 d4_standing_47 ?_
    refine ev_iload_n (j := 3) (i := 3) (q := 2) rfl rfl d4_standing_48 ?_
    refine ev_iload (i := 4) (q := 3) rfl d4_standing_49 ?_
    obtain ⟨h25, hf⟩ := gd_some hf
    obtain ⟨r26, t27, k28, hf⟩ := bd_some hf
    have q29 := s4_inForce _ _ _ _ _ _ _ k28
    refine ev_callV (vs := [.int (1 : Int32), .int v3, .int v4]) (sk := [.ref v0]) cls4 h25 q29 (by decide) (Nat.le_of_ble_eq_true rfl) w870 w872 ws26 w6 w873 k4_inForce rfl (Nat.le_of_ble_eq_true rfl) d4_standing_51 ?_
    rcases ite_some hf with ⟨c30, hf⟩ | ⟨c30, hf⟩
    · refine ev_nv0 c30 ?_
      obtain ⟨r31, t32, k33, hf⟩ := bd_some hf
      have q34 := s4_wordKind _ _ _ _ _ k33
      rw [nv_0 rfl] at q34
      refine ev_callV (vs := [.null]) (sk := []) cls4 (mono_ob q29.1 h25) q34 (by decide) (Nat.le_of_ble_eq_true rfl) w874 w876 ws27 w6 w877 k4_wordKind rfl (Nat.le_of_ble_eq_true rfl) d4_standing_54 ?_
      refine ev_goto (tgt := 61) (by decide) d4_standing_57 ?_
      exact Ev.sub [0] rfl (s4_standing_p61 _ _ _ _ _ hf)
    · refine ev_nv1 c30 ?_
      obtain ⟨r35, t36, k37, hf⟩ := bd_some hf
      have q38 := s4_wordKind _ _ _ _ _ k37
      rw [nv_1 c30] at q38
      refine ev_callV (vs := [.ref r26]) (sk := []) cls4 (mono_ob q29.1 h25) q38 (by decide) (Nat.le_of_ble_eq_true rfl) w874 w876 ws27 w6 w877 k4_wordKind rfl (Nat.le_of_ble_eq_true rfl) d4_standing_54 ?_
      refine ev_goto (tgt := 61) (by decide) d4_standing_57 ?_
      exact Ev.sub [0] rfl (s4_standing_p61 _ _ _ _ _ hf)
def f4_standing (σ : St) (v0 : Nat) (v1 : Int32) (v2 : Int32) (v3 : Int32) (v4 : Int32) : Option (Int32 × St) :=
  gd (ob σ v0 4) (
  bd (f4_giveBoat σ v0 v1 v2 v3 v4) fun r2 t3 => (
  bd (f11_laneOf t3 v2) fun r6 t7 => (
  (if r6 ≤ (3 : Int32) then
  bd (f4_inForce t7 v0 (0 : Int32) v3 v4) fun r11 t12 => (
  (if r11 = 0 then
  bd (f4_wordKind t12 v0 0) fun r16 t17 => (
  f4_standing_p37 t17 v0 v3 v4 r6 r16)
  else
  bd (f4_wordKind t12 v0 r11) fun r20 t21 => (
  f4_standing_p37 t21 v0 v3 v4 r6 r20)))
  else
  f4_standing_p37 t7 v0 v3 v4 r6 (-1 : Int32)))))
set_option maxRecDepth 50000 in
theorem s4_standing : ∀ (σ : St) (v0 : Nat) (v1 : Int32) (v2 : Int32) (v3 : Int32) (v4 : Int32) (r : Int32) (τ : St), f4_standing σ v0 v1 v2 v3 v4 = some (r, τ) → Call 6 m4_standing [.ref v0, .int v1, .int v2, .int v3, .int v4] σ (some (.int r)) τ := by
  intro σ v0 v1 v2 v3 v4 r τ hf
  unfold f4_standing at hf
  refine Call.of (by decide +kernel) rfl (Nat.le_of_ble_eq_true rfl) ?_
  refine ev_aload_n (j := 0) (i := 0) (q := 0) rfl rfl d4_standing_0 ?_
  refine ev_iload_n (j := 1) (i := 1) (q := 1) rfl rfl d4_standing_1 ?_
  refine ev_iload_n (j := 2) (i := 2) (q := 2) rfl rfl d4_standing_2 ?_
  refine ev_iload_n (j := 3) (i := 3) (q := 3) rfl rfl d4_standing_3 ?_
  refine ev_iload (i := 4) (q := 4) rfl d4_standing_4 ?_
  obtain ⟨h1, hf⟩ := gd_some hf
  obtain ⟨r2, t3, k4, hf⟩ := bd_some hf
  have q5 := s4_giveBoat _ _ _ _ _ _ _ _ k4
  refine ev_callV (vs := [.int v1, .int v2, .int v3, .int v4]) (sk := []) cls4 h1 q5 (by decide) (Nat.le_of_ble_eq_true rfl) w860 w862 ws25 w6 w863 k4_giveBoat rfl (Nat.le_of_ble_eq_true rfl) d4_standing_6 ?_
  refine ev_iload_n (j := 2) (i := 2) (q := 2) rfl rfl d4_standing_9 ?_
  obtain ⟨r6, t7, k8, hf⟩ := bd_some hf
  have q9 := s11_laneOf _ _ _ _ k8
  refine ev_callSN (vs := [.int v2]) (sk := []) q9 (by decide) (Nat.le_of_ble_eq_true rfl) w865 w607 w1 w608 k11_laneOf rfl (Nat.le_of_ble_eq_true rfl) d4_standing_10 ?_
  refine ev_istore (lv2 := [(5, .int r6), (0, .ref v0), (1, .int v1), (2, .int v2), (3, .int v3), (4, .int v4)]) (i := 5) (by decide) rfl d4_standing_13 ?_
  refine ev_iload (i := 5) (q := 0) rfl d4_standing_15 ?_
  refine ev_iconst ci_3 d4_standing_17 ?_
  rcases ite_some hf with ⟨c10, hf⟩ | ⟨c10, hf⟩
  · refine ev_icmp_gt_P (tgt := 36) c10 (by decide) d4_standing_18 ?_
    refine ev_aload_n (j := 0) (i := 0) (q := 1) rfl rfl d4_standing_21 ?_
    refine ev_aload_n (j := 0) (i := 0) (q := 1) rfl rfl d4_standing_22 ?_
    refine ev_iconst ci_0 d4_standing_23 ?_
    refine ev_iload_n (j := 3) (i := 3) (q := 4) rfl rfl d4_standing_24 ?_
    refine ev_iload (i := 4) (q := 5) rfl d4_standing_25 ?_
    obtain ⟨r11, t12, k13, hf⟩ := bd_some hf
    have q14 := s4_inForce _ _ _ _ _ _ _ k13
    refine ev_callV (vs := [.int (0 : Int32), .int v3, .int v4]) (sk := [.ref v0]) cls4 (mono_ob q9.1 (mono_ob q5.1 h1)) q14 (by decide) (Nat.le_of_ble_eq_true rfl) w870 w872 ws26 w6 w873 k4_inForce rfl (Nat.le_of_ble_eq_true rfl) d4_standing_27 ?_
    rcases ite_some hf with ⟨c15, hf⟩ | ⟨c15, hf⟩
    · refine ev_nv0 c15 ?_
      obtain ⟨r16, t17, k18, hf⟩ := bd_some hf
      have q19 := s4_wordKind _ _ _ _ _ k18
      rw [nv_0 rfl] at q19
      refine ev_callV (vs := [.null]) (sk := []) cls4 (mono_ob q14.1 (mono_ob q9.1 (mono_ob q5.1 h1))) q19 (by decide) (Nat.le_of_ble_eq_true rfl) w874 w876 ws27 w6 w877 k4_wordKind rfl (Nat.le_of_ble_eq_true rfl) d4_standing_30 ?_
      refine ev_goto (tgt := 37) (by decide) d4_standing_33 ?_
      exact Ev.sub [1, 4, 5, 0] rfl (s4_standing_p37 _ _ _ _ _ _ _ _ hf)
    · refine ev_nv1 c15 ?_
      obtain ⟨r20, t21, k22, hf⟩ := bd_some hf
      have q23 := s4_wordKind _ _ _ _ _ k22
      rw [nv_1 c15] at q23
      refine ev_callV (vs := [.ref r11]) (sk := []) cls4 (mono_ob q14.1 (mono_ob q9.1 (mono_ob q5.1 h1))) q23 (by decide) (Nat.le_of_ble_eq_true rfl) w874 w876 ws27 w6 w877 k4_wordKind rfl (Nat.le_of_ble_eq_true rfl) d4_standing_30 ?_
      refine ev_goto (tgt := 37) (by decide) d4_standing_33 ?_
      exact Ev.sub [1, 4, 5, 0] rfl (s4_standing_p37 _ _ _ _ _ _ _ _ hf)
  · refine ev_icmp_gt_Q (tgt := 36) c10 (by decide) d4_standing_18 ?_
    refine ev_iconst ci_m1 d4_standing_36 ?_
    exact Ev.sub [1, 4, 5, 0] rfl (s4_standing_p37 _ _ _ _ _ _ _ _ hf)
abbrev m3_mayGrind : MD := ("MillBoats$Grist", ⟨"MillBoats$Grist", "mayGrind", "(II)Z"⟩, prog_5_method_6_code, 3, (some Jvm.ClassFile.FieldType.boolean))
theorem k3_mayGrind : okY m3_mayGrind.2.1 2 := ⟨by decide +kernel, by decide +kernel, by decide +kernel⟩
def f3_mayGrind (σ : St) (v0 : Nat) (v1 : Int32) (v2 : Int32) : Option (Int32 × St) :=
  gd (ob σ v0 3) (
  lt (sR σ v0 0) fun b2 => (
  gd (nz b2) (
  gd (ob σ b2 8) (
  bd (f8_liesAtBerth σ b2 v1) fun r6 t7 => (
  (if r6 = (0 : Int32) then
  some ((0 : Int32), t7)
  else
  lt (sR t7 v0 0) fun b11 => (
  gd (nz b11) (
  gd (ob t7 b11 8) (
  lt (sR t7 b11 2) fun b15 => (
  gd (nz b15) (
  gd (ob t7 b15 17) (
  gd (inb t7 b15 v1) (
  lt (sR t7 b15 (ix v1)) fun b20 => (
  gd (nz b20) (
  gd (ob t7 b20 0) (
  (if (sI t7 b20 6) = v2 then
  some ((0 : Int32), t7)
  else
  lt (sR t7 v0 1) fun b25 => (
  gd (nz b25) (
  lt (sR t7 b11 3) fun b28 => (
  gd (nz b28) (
  gd (ob t7 b28 14) (
  gd (inb t7 b28 v1) (
  gd (ob t7 b25 4) (
  bd (f4_standing t7 b25 v1 (sI t7 b28 (ix v1)) v2 v2) fun r34 t35 => (
  (if (r34 &&& (3 : Int32)) = (0 : Int32) then
  some ((1 : Int32), t35)
  else
  some ((0 : Int32), t35)))))))))))))))))))))))))))
set_option maxRecDepth 50000 in
theorem s3_mayGrind : ∀ (σ : St) (v0 : Nat) (v1 : Int32) (v2 : Int32) (r : Int32) (τ : St), f3_mayGrind σ v0 v1 v2 = some (r, τ) → Call 7 m3_mayGrind [.ref v0, .int v1, .int v2] σ (some (.int r)) τ := by
  intro σ v0 v1 v2 r τ hf
  unfold f3_mayGrind at hf
  refine Call.of (by decide +kernel) rfl (Nat.le_of_ble_eq_true rfl) ?_
  refine ev_aload_n (j := 0) (i := 0) (q := 0) rfl rfl d3_mayGrind_0 ?_
  obtain ⟨h1, hf⟩ := gd_some hf
  obtain ⟨b2, e3, hf⟩ := lt_some hf
  obtain ⟨h4, hf⟩ := gd_some hf
  refine ev_getRb cls3 (j := 0) (by decide) rfl w376 h1 e3 (nz_ne h4) d3_mayGrind_1 ?_
  refine ev_iload_n (j := 1) (i := 1) (q := 1) rfl rfl d3_mayGrind_4 ?_
  obtain ⟨h5, hf⟩ := gd_some hf
  obtain ⟨r6, t7, k8, hf⟩ := bd_some hf
  have q9 := s8_liesAtBerth _ _ _ _ _ k8
  refine ev_callV (vs := [.int v1]) (sk := []) cls8 h5 q9 (by decide) (Nat.le_of_ble_eq_true rfl) w987 w597 w598 w2 w599 k8_liesAtBerth rfl (Nat.le_of_ble_eq_true rfl) d3_mayGrind_5 ?_
  rcases ite_some hf with ⟨c10, hf⟩ | ⟨c10, hf⟩
  · refine ev_if_eq_P (tgt := 27) c10 (by decide) d3_mayGrind_8 ?_
    refine ev_iconst ci_0 d3_mayGrind_27 ?_
    obtain ⟨rfl, rfl⟩ := ret_some hf
    exact ev_zret rfl (by decide) d3_mayGrind_28
  · refine ev_if_eq_Q (tgt := 27) c10 (by decide) d3_mayGrind_8 ?_
    refine ev_aload_n (j := 0) (i := 0) (q := 0) rfl rfl d3_mayGrind_11 ?_
    obtain ⟨b11, e12, hf⟩ := lt_some hf
    obtain ⟨h13, hf⟩ := gd_some hf
    refine ev_getRb cls3 (j := 0) (by decide) rfl w376 (mono_ob q9.1 h1) e12 (nz_ne h13) d3_mayGrind_12 ?_
    obtain ⟨h14, hf⟩ := gd_some hf
    obtain ⟨b15, e16, hf⟩ := lt_some hf
    obtain ⟨h17, hf⟩ := gd_some hf
    refine ev_getRNb cls8 (j := 2) (by decide) rfl w110 h14 e16 (nz_ne h17) d3_mayGrind_15 ?_
    refine ev_iload_n (j := 1) (i := 1) (q := 1) rfl rfl d3_mayGrind_18 ?_
    obtain ⟨h18, hf⟩ := gd_some hf
    obtain ⟨h19, hf⟩ := gd_some hf
    obtain ⟨b20, e21, hf⟩ := lt_some hf
    obtain ⟨h22, hf⟩ := gd_some hf
    refine ev_qaldb (kd := 17) (by decide) (by decide) rfl h18 h19 e21 (nz_ne h22) d3_mayGrind_19 ?_
    obtain ⟨h23, hf⟩ := gd_some hf
    refine ev_getIN cls0 (j := 6) (by decide) rfl w83 h23 d3_mayGrind_20 ?_
    refine ev_iload_n (j := 2) (i := 2) (q := 2) rfl rfl d3_mayGrind_23 ?_
    rcases ite_some hf with ⟨c24, hf⟩ | ⟨c24, hf⟩
    · refine ev_icmp_ne_P (tgt := 29) c24 (by decide) d3_mayGrind_24 ?_
      refine ev_iconst ci_0 d3_mayGrind_27 ?_
      obtain ⟨rfl, rfl⟩ := ret_some hf
      exact ev_zret rfl (by decide) d3_mayGrind_28
    · refine ev_icmp_ne_Q (tgt := 29) c24 (by decide) d3_mayGrind_24 ?_
      refine ev_aload_n (j := 0) (i := 0) (q := 0) rfl rfl d3_mayGrind_29 ?_
      obtain ⟨b25, e26, hf⟩ := lt_some hf
      obtain ⟨h27, hf⟩ := gd_some hf
      refine ev_getRb cls3 (j := 1) (by decide) rfl w377 (mono_ob q9.1 h1) e26 (nz_ne h27) d3_mayGrind_30 ?_
      refine ev_iload_n (j := 1) (i := 1) (q := 1) rfl rfl d3_mayGrind_33 ?_
      refine ev_aload_n (j := 0) (i := 0) (q := 0) rfl rfl d3_mayGrind_34 ?_
      refine ev_getRb cls3 (j := 0) (by decide) rfl w376 (mono_ob q9.1 h1) e12 (nz_ne h13) d3_mayGrind_35 ?_
      obtain ⟨b28, e29, hf⟩ := lt_some hf
      obtain ⟨h30, hf⟩ := gd_some hf
      refine ev_getRNb cls8 (j := 3) (by decide) rfl w118 h14 e29 (nz_ne h30) d3_mayGrind_38 ?_
      refine ev_iload_n (j := 1) (i := 1) (q := 1) rfl rfl d3_mayGrind_41 ?_
      obtain ⟨h31, hf⟩ := gd_some hf
      obtain ⟨h32, hf⟩ := gd_some hf
      refine ev_iald h31 h32 d3_mayGrind_42 ?_
      refine ev_iload_n (j := 2) (i := 2) (q := 2) rfl rfl d3_mayGrind_43 ?_
      refine ev_iload_n (j := 2) (i := 2) (q := 2) rfl rfl d3_mayGrind_44 ?_
      obtain ⟨h33, hf⟩ := gd_some hf
      obtain ⟨r34, t35, k36, hf⟩ := bd_some hf
      have q37 := s4_standing _ _ _ _ _ _ _ _ k36
      refine ev_callV (vs := [.int v1, .int (sI t7 b28 (ix v1)), .int v2, .int v2]) (sk := []) cls4 h33 q37 (by decide) (Nat.le_of_ble_eq_true rfl) w988 w857 w858 w6 w859 k4_standing rfl (Nat.le_of_ble_eq_true rfl) d3_mayGrind_45 ?_
      refine ev_iconst ci_3 d3_mayGrind_48 ?_
      refine ev_iand d3_mayGrind_49 ?_
      rcases ite_some hf with ⟨c38, hf⟩ | ⟨c38, hf⟩
      · refine ev_if_ne_P (tgt := 57) c38 (by decide) d3_mayGrind_50 ?_
        refine ev_iconst ci_1 d3_mayGrind_53 ?_
        refine ev_goto (tgt := 58) (by decide) d3_mayGrind_54 ?_
        obtain ⟨rfl, rfl⟩ := ret_some hf
        exact ev_zret rfl (by decide) d3_mayGrind_58
      · refine ev_if_ne_Q (tgt := 57) c38 (by decide) d3_mayGrind_50 ?_
        refine ev_iconst ci_0 d3_mayGrind_57 ?_
        obtain ⟨rfl, rfl⟩ := ret_some hf
        exact ev_zret rfl (by decide) d3_mayGrind_58
abbrev m8_powerHad : MD := ("MillBoats$River", ⟨"MillBoats$River", "powerHad", "(I[II)I"⟩, prog_10_method_10_code, 4, (some Jvm.ClassFile.FieldType.int))
theorem k8_powerHad : okY m8_powerHad.2.1 3 := ⟨by decide +kernel, by decide +kernel, by decide +kernel⟩
def f8_powerHad (σ : St) (v0 : Nat) (v1 : Int32) (v2 : Nat) (v3 : Int32) : Option (Int32 × St) :=
  gd (ob σ v2 14) (
  gd (inb σ v2 v1) (
  bd (f11_isBerth σ (sI σ v2 (ix v1))) fun r3 t4 => (
  (if r3 = (0 : Int32) then
  some ((0 : Int32), t4)
  else
  gd (ob t4 v0 8) (
  bd (f8_bears t4 v0 (sI t4 v2 (ix v1)) v1 v3) fun r9 t10 => (
  (if r9 = (0 : Int32) then
  some ((0 : Int32), t10)
  else
  lt (sR t10 v0 1) fun b14 => (
  gd (nz b14) (
  gd (ob t10 b14 19) (
  gd (inb t10 b14 (6 : Int32)) (
  lt (sR t10 b14 (ix (6 : Int32))) fun b19 => (
  gd (nz b19) (
  bd (f8_flowMet t10 v0 v1 v2 v3) fun r22 t23 => (
  gd (ob t23 b19 9) (
  bd (f9_at t23 b19 r22) fun r27 t28 => (
  lt (sR t28 v0 2) fun b31 => (
  gd (nz b31) (
  gd (ob t28 b31 17) (
  gd (inb t28 b31 v1) (
  lt (sR t28 b31 (ix v1)) fun b36 => (
  gd (nz b36) (
  gd (ob t28 b36 0) (
  bd (f0_worn t28 b36) fun r40 t41 => (
  some ((r27 * ((100 : Int32) - r40)) / (100 : Int32), t41)))))))))))))))))))))))))
set_option maxRecDepth 50000 in
theorem s8_powerHad : ∀ (σ : St) (v0 : Nat) (v1 : Int32) (v2 : Nat) (v3 : Int32) (r : Int32) (τ : St), f8_powerHad σ v0 v1 v2 v3 = some (r, τ) → Call 5 m8_powerHad [.ref v0, .int v1, .ref v2, .int v3] σ (some (.int r)) τ := by
  intro σ v0 v1 v2 v3 r τ hf
  unfold f8_powerHad at hf
  refine Call.of (by decide +kernel) rfl (Nat.le_of_ble_eq_true rfl) ?_
  refine ev_aload_n (j := 2) (i := 2) (q := 2) rfl rfl d8_powerHad_0 ?_
  refine ev_iload_n (j := 1) (i := 1) (q := 1) rfl rfl d8_powerHad_1 ?_
  obtain ⟨h1, hf⟩ := gd_some hf
  obtain ⟨h2, hf⟩ := gd_some hf
  refine ev_iald h1 h2 d8_powerHad_2 ?_
  obtain ⟨r3, t4, k5, hf⟩ := bd_some hf
  have q6 := s11_isBerth _ _ _ _ k5
  refine ev_callSN (vs := [.int (sI σ v2 (ix v1))]) (sk := []) q6 (by decide) (Nat.le_of_ble_eq_true rfl) w605 w540 w1 w541 k11_isBerth rfl (Nat.le_of_ble_eq_true rfl) d8_powerHad_3 ?_
  rcases ite_some hf with ⟨c7, hf⟩ | ⟨c7, hf⟩
  · refine ev_if_eq_P (tgt := 21) c7 (by decide) d8_powerHad_6 ?_
    refine ev_iconst ci_0 d8_powerHad_21 ?_
    obtain ⟨rfl, rfl⟩ := ret_some hf
    exact ev_iret rfl d8_powerHad_22
  · refine ev_if_eq_Q (tgt := 21) c7 (by decide) d8_powerHad_6 ?_
    refine ev_aload_n (j := 0) (i := 0) (q := 0) rfl rfl d8_powerHad_9 ?_
    refine ev_aload_n (j := 2) (i := 2) (q := 2) rfl rfl d8_powerHad_10 ?_
    refine ev_iload_n (j := 1) (i := 1) (q := 1) rfl rfl d8_powerHad_11 ?_
    refine ev_iald (mono_ob q6.1 h1) (inb_m q6.1 h1 h2) d8_powerHad_12 ?_
    refine ev_iload_n (j := 1) (i := 1) (q := 1) rfl rfl d8_powerHad_13 ?_
    refine ev_iload_n (j := 3) (i := 3) (q := 3) rfl rfl d8_powerHad_14 ?_
    obtain ⟨h8, hf⟩ := gd_some hf
    obtain ⟨r9, t10, k11, hf⟩ := bd_some hf
    have q12 := s8_bears _ _ _ _ _ _ _ k11
    refine ev_callV (vs := [.int (sI t4 v2 (ix v1)), .int v1, .int v3]) (sk := []) cls8 h8 q12 (by decide) (Nat.le_of_ble_eq_true rfl) w622 w623 w624 w2 w625 k8_bears rfl (Nat.le_of_ble_eq_true rfl) d8_powerHad_15 ?_
    rcases ite_some hf with ⟨c13, hf⟩ | ⟨c13, hf⟩
    · refine ev_if_ne_P (tgt := 23) c13 (by decide) d8_powerHad_18 ?_
      refine ev_iconst ci_0 d8_powerHad_21 ?_
      obtain ⟨rfl, rfl⟩ := ret_some hf
      exact ev_iret rfl d8_powerHad_22
    · refine ev_if_ne_Q (tgt := 23) c13 (by decide) d8_powerHad_18 ?_
      refine ev_aload_n (j := 0) (i := 0) (q := 0) rfl rfl d8_powerHad_23 ?_
      obtain ⟨b14, e15, hf⟩ := lt_some hf
      obtain ⟨h16, hf⟩ := gd_some hf
      refine ev_getRb cls8 (j := 1) (by decide) rfl w105 (mono_ob q12.1 h8) e15 (nz_ne h16) d8_powerHad_24 ?_
      refine ev_bipush cb_6 d8_powerHad_27 ?_
      obtain ⟨h17, hf⟩ := gd_some hf
      obtain ⟨h18, hf⟩ := gd_some hf
      obtain ⟨b19, e20, hf⟩ := lt_some hf
      obtain ⟨h21, hf⟩ := gd_some hf
      refine ev_qaldb (kd := 19) (by decide) (by decide) rfl h17 h18 e20 (nz_ne h21) d8_powerHad_29 ?_
      refine ev_aload_n (j := 0) (i := 0) (q := 0) rfl rfl d8_powerHad_30 ?_
      refine ev_iload_n (j := 1) (i := 1) (q := 1) rfl rfl d8_powerHad_31 ?_
      refine ev_aload_n (j := 2) (i := 2) (q := 2) rfl rfl d8_powerHad_32 ?_
      refine ev_iload_n (j := 3) (i := 3) (q := 3) rfl rfl d8_powerHad_33 ?_
      obtain ⟨r22, t23, k24, hf⟩ := bd_some hf
      have q25 := s8_flowMet _ _ _ _ _ _ _ k24
      refine ev_callV (vs := [.int v1, .ref v2, .int v3]) (sk := [.ref b19]) cls8 (mono_ob q12.1 h8) q25 (by decide) (Nat.le_of_ble_eq_true rfl) w630 w602 w603 w2 w604 k8_flowMet rfl (Nat.le_of_ble_eq_true rfl) d8_powerHad_34 ?_
      obtain ⟨h26, hf⟩ := gd_some hf
      obtain ⟨r27, t28, k29, hf⟩ := bd_some hf
      have q30 := s9_at _ _ _ _ _ k29
      refine ev_callV (vs := [.int r22]) (sk := []) cls9 h26 q30 (by decide) (Nat.le_of_ble_eq_true rfl) w609 w558 w559 w3 w560 k9_at rfl (Nat.le_of_ble_eq_true rfl) d8_powerHad_37 ?_
      refine ev_bipush cb_100 d8_powerHad_40 ?_
      refine ev_aload_n (j := 0) (i := 0) (q := 0) rfl rfl d8_powerHad_42 ?_
      obtain ⟨b31, e32, hf⟩ := lt_some hf
      obtain ⟨h33, hf⟩ := gd_some hf
      refine ev_getRb cls8 (j := 2) (by decide) rfl w108 (mono_ob q30.1 (mono_ob q25.1 (mono_ob q12.1 h8))) e32 (nz_ne h33) d8_powerHad_43 ?_
      refine ev_iload_n (j := 1) (i := 1) (q := 1) rfl rfl d8_powerHad_46 ?_
      obtain ⟨h34, hf⟩ := gd_some hf
      obtain ⟨h35, hf⟩ := gd_some hf
      obtain ⟨b36, e37, hf⟩ := lt_some hf
      obtain ⟨h38, hf⟩ := gd_some hf
      refine ev_qaldb (kd := 17) (by decide) (by decide) rfl h34 h35 e37 (nz_ne h38) d8_powerHad_47 ?_
      obtain ⟨h39, hf⟩ := gd_some hf
      obtain ⟨r40, t41, k42, hf⟩ := bd_some hf
      have q43 := s0_worn _ _ _ _ k42
      refine ev_callV (vs := []) (sk := [.int (100 : Int32), .int r27]) cls0 h39 q43 (by decide) (Nat.le_of_ble_eq_true rfl) w631 w632 w633 w4 w634 k0_worn rfl (Nat.le_of_ble_eq_true rfl) d8_powerHad_48 ?_
      refine ev_isub d8_powerHad_51 ?_
      refine ev_imul d8_powerHad_52 ?_
      refine ev_bipush cb_100 d8_powerHad_53 ?_
      refine ev_idiv (by decide) d8_powerHad_55 ?_
      obtain ⟨rfl, rfl⟩ := ret_some hf
      exact ev_iret rfl d8_powerHad_56
abbrev m3_grindDay : MD := ("MillBoats$Grist", ⟨"MillBoats$Grist", "grindDay", "(II)V"⟩, prog_5_method_5_code, 6, (none : Option Jvm.ClassFile.FieldType))
theorem k3_grindDay : okY m3_grindDay.2.1 2 := ⟨by decide +kernel, by decide +kernel, by decide +kernel⟩
def f3_grindDay_p92 (K44 : St → Nat → Int32 → Int32 → Int32 → Int32 → Option (Unit × St)) (σ : St) (v0 : Nat) (v1 : Int32) (v2 : Int32) (v3 : Int32) (v4 : Int32) : Option (Unit × St) :=
  lt (v4 + (1 : Int32)) fun y50 => (
  K44 σ v0 v1 v2 v3 y50)
set_option maxRecDepth 20000 in
theorem s3_grindDay_p92 {K44 : St → Nat → Int32 → Int32 → Int32 → Int32 → Option (Unit × St)} (hK44 : ∀ (σ : St) (v0 : Nat) (v1 : Int32) (v2 : Int32) (v3 : Int32) (v4 : Int32) (r : Unit) (τ : St), K44 σ v0 v1 v2 v3 v4 = some (r, τ) → Ev 8 m3_grindDay 44 [(0, .ref v0), (1, .int v1), (2, .int v2), (3, .int v3), (4, .int v4)] [] σ none τ) : ∀ (σ : St) (v0 : Nat) (v1 : Int32) (v2 : Int32) (v3 : Int32) (v4 : Int32) (r : Unit) (τ : St), f3_grindDay_p92 K44 σ v0 v1 v2 v3 v4 = some (r, τ) → Ev 8 m3_grindDay 92 [(0, .ref v0), (1, .int v1), (2, .int v2), (3, .int v3), (4, .int v4)] [] σ none τ := by
  intro σ v0 v1 v2 v3 v4 r τ hf
  unfold f3_grindDay_p92 at hf
  obtain ⟨y50, e51, hf⟩ := lt_some hf
  refine ev_iinc (lv2 := [(4, .int y50), (0, .ref v0), (1, .int v1), (2, .int v2), (3, .int v3)]) (i := 4) (q := 4) (v := y50) (n := 1) rfl (by rw [ci_1]; exact e51.symm) (by decide) rfl d3_grindDay_92 ?_
  refine ev_goto (tgt := 44) (by decide) d3_grindDay_95 ?_
  exact Ev.sub [1, 2, 3, 4, 0] rfl (hK44 _ _ _ _ _ _ _ _ hf)
def f3_grindDay_p44 : Nat → St → Nat → Int32 → Int32 → Int32 → Int32 → Option (Unit × St)
  | 0, _, _, _, _, _, _ => none
  | n + 1, σ, v0, v1, v2, v3, v4 =>
  (if v4 < v3 then
  gd (nzI v3) (
  lt ((v1 + v4) - (v1 + v4) / v3 * v3) fun y27 => (
  gd (ob σ v0 3) (
  bd (f3_mayGrind σ v0 y27 v1) fun r30 t31 => (
  (if r30 = (0 : Int32) then
  f3_grindDay_p92 (f3_grindDay_p44 n) t31 v0 v1 v2 v3 v4
  else
  lt (sR t31 v0 0) fun b35 => (
  gd (nz b35) (
  gd (ob t31 b35 8) (
  lt (sR t31 b35 3) fun b39 => (
  gd (nz b39) (
  bd (f8_powerHad t31 b35 y27 b39 v2) fun r42 t43 => (
  bd (f3_grindOrders t43 v0 y27 v1 r42) fun r46 t47 => (
  f3_grindDay_p92 (f3_grindDay_p44 n) t47 v0 v1 v2 v3 v4))))))))))))
  else
  some ((), σ))
set_option maxRecDepth 20000 in
theorem s3_grindDay_p44 : ∀ (n : Nat) (σ : St) (v0 : Nat) (v1 : Int32) (v2 : Int32) (v3 : Int32) (v4 : Int32) (r : Unit) (τ : St), f3_grindDay_p44 n σ v0 v1 v2 v3 v4 = some (r, τ) → Ev 8 m3_grindDay 44 [(0, .ref v0), (1, .int v1), (2, .int v2), (3, .int v3), (4, .int v4)] [] σ none τ := by
  intro n
  induction n with
  | zero =>
    intro σ v0 v1 v2 v3 v4 r τ hf
    cases hf
  | succ n ih =>
    intro σ v0 v1 v2 v3 v4 r τ hf
    rw [f3_grindDay_p44] at hf
    refine ev_iload (i := 4) (q := 4) rfl d3_grindDay_44 ?_
    refine ev_iload_n (j := 3) (i := 3) (q := 3) rfl rfl d3_grindDay_46 ?_
    rcases ite_some hf with ⟨c25, hf⟩ | ⟨c25, hf⟩
    · refine ev_icmp_ge_P (tgt := 98) c25 (by decide) d3_grindDay_47 ?_
      refine ev_iload_n (j := 1) (i := 1) (q := 1) rfl rfl d3_grindDay_50 ?_
      refine ev_iload (i := 4) (q := 4) rfl d3_grindDay_51 ?_
      refine ev_iadd d3_grindDay_53 ?_
      refine ev_iload_n (j := 3) (i := 3) (q := 3) rfl rfl d3_grindDay_54 ?_
      obtain ⟨h26, hf⟩ := gd_some hf
      refine ev_irem (nzI_ne h26) d3_grindDay_55 ?_
      obtain ⟨y27, e28, hf⟩ := lt_some hf
      refine ev_nmI e28 ?_
      refine ev_istore (lv2 := [(5, .int y27), (0, .ref v0), (1, .int v1), (2, .int v2), (3, .int v3), (4, .int v4)]) (i := 5) (by decide) rfl d3_grindDay_56 ?_
      refine ev_aload_n (j := 0) (i := 0) (q := 1) rfl rfl d3_grindDay_58 ?_
      refine ev_iload (i := 5) (q := 0) rfl d3_grindDay_59 ?_
      refine ev_iload_n (j := 1) (i := 1) (q := 2) rfl rfl d3_grindDay_61 ?_
      obtain ⟨h29, hf⟩ := gd_some hf
      obtain ⟨r30, t31, k32, hf⟩ := bd_some hf
      have q33 := s3_mayGrind _ _ _ _ _ _ k32
      refine ev_callV (vs := [.int y27, .int v1]) (sk := []) cls3 h29 q33 (by decide) (Nat.le_of_ble_eq_true rfl) w983 w985 ws37 w16 w986 k3_mayGrind rfl (Nat.le_of_ble_eq_true rfl) d3_grindDay_62 ?_
      rcases ite_some hf with ⟨c34, hf⟩ | ⟨c34, hf⟩
      · refine ev_if_eq_P (tgt := 92) c34 (by decide) d3_grindDay_65 ?_
        exact Ev.sub [1, 2, 3, 4, 5] rfl (s3_grindDay_p92 ih _ _ _ _ _ _ _ _ hf)
      · refine ev_if_eq_Q (tgt := 92) c34 (by decide) d3_grindDay_65 ?_
        refine ev_aload_n (j := 0) (i := 0) (q := 1) rfl rfl d3_grindDay_68 ?_
        refine ev_iload (i := 5) (q := 0) rfl d3_grindDay_69 ?_
        refine ev_iload_n (j := 1) (i := 1) (q := 2) rfl rfl d3_grindDay_71 ?_
        refine ev_aload_n (j := 0) (i := 0) (q := 1) rfl rfl d3_grindDay_72 ?_
        obtain ⟨b35, e36, hf⟩ := lt_some hf
        obtain ⟨h37, hf⟩ := gd_some hf
        refine ev_getRb cls3 (j := 0) (by decide) rfl w376 (mono_ob q33.1 h29) e36 (nz_ne h37) d3_grindDay_73 ?_
        refine ev_iload (i := 5) (q := 0) rfl d3_grindDay_76 ?_
        refine ev_aload_n (j := 0) (i := 0) (q := 1) rfl rfl d3_grindDay_78 ?_
        refine ev_getRb cls3 (j := 0) (by decide) rfl w376 (mono_ob q33.1 h29) e36 (nz_ne h37) d3_grindDay_79 ?_
        obtain ⟨h38, hf⟩ := gd_some hf
        obtain ⟨b39, e40, hf⟩ := lt_some hf
        obtain ⟨h41, hf⟩ := gd_some hf
        refine ev_getRNb cls8 (j := 3) (by decide) rfl w118 h38 e40 (nz_ne h41) d3_grindDay_82 ?_
        refine ev_iload_n (j := 2) (i := 2) (q := 3) rfl rfl d3_grindDay_85 ?_
        obtain ⟨r42, t43, k44, hf⟩ := bd_some hf
        have q45 := s8_powerHad _ _ _ _ _ _ _ k44
        refine ev_callV (vs := [.int y27, .ref b39, .int v2]) (sk := [.int v1, .int y27, .ref v0]) cls8 h38 q45 (by decide) (Nat.le_of_ble_eq_true rfl) w989 w619 w620 w2 w621 k8_powerHad rfl (Nat.le_of_ble_eq_true rfl) d3_grindDay_86 ?_
        obtain ⟨r46, t47, k48, hf⟩ := bd_some hf
        have q49 := s3_grindOrders _ _ _ _ _ _ _ k48
        refine ev_callV (vs := [.int y27, .int v1, .int r42]) (sk := []) cls3 (mono_ob q45.1 (mono_ob q33.1 h29)) q49 (by decide) (Nat.le_of_ble_eq_true rfl) w990 w992 ws38 w16 w993 k3_grindOrders rfl (Nat.le_of_ble_eq_true rfl) d3_grindDay_89 ?_
        exact Ev.sub [1, 2, 3, 4, 5] rfl (s3_grindDay_p92 ih _ _ _ _ _ _ _ _ hf)
    · refine ev_icmp_ge_Q (tgt := 98) c25 (by decide) d3_grindDay_47 ?_
      obtain ⟨-, rfl⟩ := ret_some hf
      exact ev_vret rfl d3_grindDay_98
def f3_grindDay_p2 : Nat → St → Nat → Int32 → Int32 → Int32 → Option (Unit × St)
  | 0, _, _, _, _, _ => none
  | n + 1, σ, v0, v1, v2, v3 =>
  (if v3 < (2 : Int32) then
  gd (ob σ v0 3) (
  lt (sR σ v0 3) fun b3 => (
  gd (nz b3) (
  lt (sR σ v0 2) fun b6 => (
  gd (nz b6) (
  gd (ob σ b6 14) (
  gd (inb σ b6 v3) (
  gd (ob σ b3 14) (
  gd (inb σ b3 v3) (
  lt (wI σ b3 (ix v3) ((30 : Int32) * (sI σ b6 (ix v3)))) fun t13 => (
  lt (v3 + (1 : Int32)) fun y15 => (
  (f3_grindDay_p2 n) t13 v0 v1 v2 y15)))))))))))
  else
  gd (ob σ v0 3) (
  lt (sR σ v0 0) fun b18 => (
  gd (nz b18) (
  gd (ob σ b18 8) (
  lt (sI σ b18 5) fun y22 => (
  (if y22 ≤ (0 : Int32) then
  some ((), σ)
  else
  f3_grindDay_p44 FU σ v0 v1 v2 y22 (0 : Int32))))))))
set_option maxRecDepth 20000 in
theorem s3_grindDay_p2 : ∀ (n : Nat) (σ : St) (v0 : Nat) (v1 : Int32) (v2 : Int32) (v3 : Int32) (r : Unit) (τ : St), f3_grindDay_p2 n σ v0 v1 v2 v3 = some (r, τ) → Ev 8 m3_grindDay 2 [(0, .ref v0), (1, .int v1), (2, .int v2), (3, .int v3)] [] σ none τ := by
  intro n
  induction n with
  | zero =>
    intro σ v0 v1 v2 v3 r τ hf
    cases hf
  | succ n ih =>
    intro σ v0 v1 v2 v3 r τ hf
    rw [f3_grindDay_p2] at hf
    refine ev_iload_n (j := 3) (i := 3) (q := 3) rfl rfl d3_grindDay_2 ?_
    refine ev_iconst ci_2 d3_grindDay_3 ?_
    rcases ite_some hf with ⟨c1, hf⟩ | ⟨c1, hf⟩
    · refine ev_icmp_ge_P (tgt := 28) c1 (by decide) d3_grindDay_4 ?_
      refine ev_aload_n (j := 0) (i := 0) (q := 0) rfl rfl d3_grindDay_7 ?_
      obtain ⟨h2, hf⟩ := gd_some hf
      obtain ⟨b3, e4, hf⟩ := lt_some hf
      obtain ⟨h5, hf⟩ := gd_some hf
      refine ev_getRb cls3 (j := 3) (by decide) rfl w380 h2 e4 (nz_ne h5) d3_grindDay_8 ?_
      refine ev_iload_n (j := 3) (i := 3) (q := 3) rfl rfl d3_grindDay_11 ?_
      refine ev_bipush cb_30 d3_grindDay_12 ?_
      refine ev_aload_n (j := 0) (i := 0) (q := 0) rfl rfl d3_grindDay_14 ?_
      obtain ⟨b6, e7, hf⟩ := lt_some hf
      obtain ⟨h8, hf⟩ := gd_some hf
      refine ev_getRb cls3 (j := 2) (by decide) rfl w378 h2 e7 (nz_ne h8) d3_grindDay_15 ?_
      refine ev_iload_n (j := 3) (i := 3) (q := 3) rfl rfl d3_grindDay_18 ?_
      obtain ⟨h9, hf⟩ := gd_some hf
      obtain ⟨h10, hf⟩ := gd_some hf
      refine ev_iald h9 h10 d3_grindDay_19 ?_
      refine ev_imul d3_grindDay_20 ?_
      obtain ⟨h11, hf⟩ := gd_some hf
      obtain ⟨h12, hf⟩ := gd_some hf
      obtain ⟨t13, e14, hf⟩ := lt_some hf
      refine ev_iast h11 h12 d3_grindDay_21 (ev_nmS e14 ?_)
      obtain ⟨y15, e16, hf⟩ := lt_some hf
      refine ev_iinc (lv2 := [(3, .int y15), (0, .ref v0), (1, .int v1), (2, .int v2)]) (i := 3) (q := 3) (v := y15) (n := 1) rfl (by rw [ci_1]; exact e16.symm) (by decide) rfl d3_grindDay_22 ?_
      refine ev_goto (tgt := 2) (by decide) d3_grindDay_25 ?_
      exact Ev.sub [1, 2, 3, 0] rfl (ih _ _ _ _ _ _ _ hf)
    · refine ev_icmp_ge_Q (tgt := 28) c1 (by decide) d3_grindDay_4 ?_
      refine ev_aload_n (j := 0) (i := 0) (q := 0) rfl rfl d3_grindDay_28 ?_
      obtain ⟨h17, hf⟩ := gd_some hf
      obtain ⟨b18, e19, hf⟩ := lt_some hf
      obtain ⟨h20, hf⟩ := gd_some hf
      refine ev_getRb cls3 (j := 0) (by decide) rfl w376 h17 e19 (nz_ne h20) d3_grindDay_29 ?_
      obtain ⟨h21, hf⟩ := gd_some hf
      refine ev_getIN cls8 (j := 5) (by decide) rfl w123 h21 d3_grindDay_32 ?_
      obtain ⟨y22, e23, hf⟩ := lt_some hf
      refine ev_nmI e23 ?_
      refine ev_istore_n (lv2 := [(3, .int y22), (0, .ref v0), (1, .int v1), (2, .int v2)]) (j := 3) (i := 3) rfl (by decide) rfl d3_grindDay_35 ?_
      refine ev_iload_n (j := 3) (i := 3) (q := 0) rfl rfl d3_grindDay_36 ?_
      rcases ite_some hf with ⟨c24, hf⟩ | ⟨c24, hf⟩
      · refine ev_if_gt_P (tgt := 41) c24 (by decide) d3_grindDay_37 ?_
        obtain ⟨-, rfl⟩ := ret_some hf
        exact ev_vret rfl d3_grindDay_40
      · refine ev_if_gt_Q (tgt := 41) c24 (by decide) d3_grindDay_37 ?_
        refine ev_iconst ci_0 d3_grindDay_41 ?_
        refine ev_istore (lv2 := [(4, .int (0 : Int32)), (3, .int y22), (0, .ref v0), (1, .int v1), (2, .int v2)]) (i := 4) (by decide) rfl d3_grindDay_42 ?_
        exact Ev.sub [2, 3, 4, 1, 0] rfl (s3_grindDay_p44 FU _ _ _ _ _ _ _ _ hf)
def f3_grindDay (σ : St) (v0 : Nat) (v1 : Int32) (v2 : Int32) : Option (Unit × St) :=
  f3_grindDay_p2 FU σ v0 v1 v2 (0 : Int32)
set_option maxRecDepth 50000 in
theorem s3_grindDay : ∀ (σ : St) (v0 : Nat) (v1 : Int32) (v2 : Int32) (r : Unit) (τ : St), f3_grindDay σ v0 v1 v2 = some (r, τ) → Call 8 m3_grindDay [.ref v0, .int v1, .int v2] σ none τ := by
  intro σ v0 v1 v2 r τ hf
  unfold f3_grindDay at hf
  refine Call.of (by decide +kernel) rfl (Nat.le_of_ble_eq_true rfl) ?_
  refine ev_iconst ci_0 d3_grindDay_0 ?_
  refine ev_istore_n (lv2 := [(3, .int (0 : Int32)), (0, .ref v0), (1, .int v1), (2, .int v2)]) (j := 3) (i := 3) rfl (by decide) rfl d3_grindDay_1 ?_
  exact Ev.sub [1, 2, 3, 0] rfl (s3_grindDay_p2 FU _ _ _ _ _ _ _ hf)
abbrev m7_withLetter : MD := ("MillBoats$Reader", ⟨"MillBoats$Reader", "withLetter", "(JI)J"⟩, prog_9_method_3_code, 3, (some Jvm.ClassFile.FieldType.long))
theorem k7_withLetter : okY m7_withLetter.2.1 2 := ⟨by decide +kernel, by decide +kernel, by decide +kernel⟩
def f7_withLetter (σ : St) (v0 : Int64) (v2 : Int32) : Option (Int64 × St) :=
  some ((v0 * (32 : Int64)) + (((v2 - (97 : Int32)) + (1 : Int32)).toInt64), σ)
set_option maxRecDepth 50000 in
theorem s7_withLetter : ∀ (σ : St) (v0 : Int64) (v2 : Int32) (r : Int64) (τ : St), f7_withLetter σ v0 v2 = some (r, τ) → Call 2 m7_withLetter [.long v0, .int v2] σ (some (.long r)) τ := by
  intro σ v0 v2 r τ hf
  unfold f7_withLetter at hf
  refine Call.of (by decide +kernel) rfl (Nat.le_of_ble_eq_true rfl) ?_
  refine ev_lload_n (j := 0) (i := 0) (q := 0) rfl rfl d7_withLetter_0 ?_
  refine ev_ldc2 w269 d7_withLetter_1 ?_
  refine ev_lmul d7_withLetter_4 ?_
  refine ev_iload_n (j := 2) (i := 2) (q := 1) rfl rfl d7_withLetter_5 ?_
  refine ev_bipush cb_97 d7_withLetter_6 ?_
  refine ev_isub d7_withLetter_8 ?_
  refine ev_iconst ci_1 d7_withLetter_9 ?_
  refine ev_iadd d7_withLetter_10 ?_
  refine ev_i2l d7_withLetter_11 ?_
  refine ev_ladd d7_withLetter_12 ?_
  obtain ⟨rfl, rfl⟩ := ret_some hf
  exact ev_lret rfl d7_withLetter_13
abbrev m7_spell : MD := ("MillBoats$Reader", ⟨"MillBoats$Reader", "spell", "(Ljava/lang/String;[J)V"⟩, prog_9_method_2_code, 4, (none : Option Jvm.ClassFile.FieldType))
theorem k7_spell : okY m7_spell.2.1 2 := ⟨by decide +kernel, by decide +kernel, by decide +kernel⟩
def f7_spell_p48 (K4 : St → Nat → Nat → Int32 → Int32 → Option (Unit × St)) (σ : St) (v0 : Nat) (v1 : Nat) (v2 : Int32) (v3 : Int32) : Option (Unit × St) :=
  lt (v3 + (1 : Int32)) fun y19 => (
  K4 σ v0 v1 v2 y19)
set_option maxRecDepth 20000 in
theorem s7_spell_p48 {K4 : St → Nat → Nat → Int32 → Int32 → Option (Unit × St)} (hK4 : ∀ (σ : St) (v0 : Nat) (v1 : Nat) (v2 : Int32) (v3 : Int32) (r : Unit) (τ : St), K4 σ v0 v1 v2 v3 = some (r, τ) → Ev 8 m7_spell 4 [(0, .ref (STR + v0)), (1, .ref v1), (2, .int v2), (3, .int v3)] [] σ none τ) : ∀ (σ : St) (v0 : Nat) (v1 : Nat) (v2 : Int32) (v3 : Int32) (r : Unit) (τ : St), f7_spell_p48 K4 σ v0 v1 v2 v3 = some (r, τ) → Ev 8 m7_spell 48 [(0, .ref (STR + v0)), (1, .ref v1), (2, .int v2), (3, .int v3)] [] σ none τ := by
  intro σ v0 v1 v2 v3 r τ hf
  unfold f7_spell_p48 at hf
  obtain ⟨y19, e20, hf⟩ := lt_some hf
  refine ev_iinc (lv2 := [(3, .int y19), (0, .ref (STR + v0)), (1, .ref v1), (2, .int v2)]) (i := 3) (q := 3) (v := y19) (n := 1) rfl (by rw [ci_1]; exact e20.symm) (by decide) rfl d7_spell_48 ?_
  refine ev_goto (tgt := 4) (by decide) d7_spell_51 ?_
  exact Ev.sub [1, 2, 3, 0] rfl (hK4 _ _ _ _ _ _ _ hf)
def f7_spell_p4 : Nat → St → Nat → Nat → Int32 → Int32 → Option (Unit × St)
  | 0, _, _, _, _, _ => none
  | n + 1, σ, v0, v1, v2, v3 =>
  gd (decide (v0 < 22)) (
  (if v3 < (Int32.ofNat (lenS.getD v0 0)) then
  gd (decide (v0 < 22)) (
  gd (chOk v0 v3) (
  (if (strCh v0 (ix v3)) = (32 : Int32) then
  lt (v2 + (1 : Int32)) fun y6 => (
  f7_spell_p48 (f7_spell_p4 n) σ v0 v1 y6 v3)
  else
  gd (ob σ v1 15) (
  (if v2 < (Int32.ofNat (sK σ v1).2) then
  gd (inb σ v1 v2) (
  gd (decide (v0 < 22)) (
  gd (chOk v0 v3) (
  bd (f7_withLetter σ (sL σ v1 (ix v2)) (strCh v0 (ix v3))) fun r13 t14 => (
  lt (wL t14 v1 (ix v2) r13) fun t17 => (
  f7_spell_p48 (f7_spell_p4 n) t17 v0 v1 v2 v3)))))
  else
  f7_spell_p48 (f7_spell_p4 n) σ v0 v1 v2 v3)))))
  else
  some ((), σ)))
set_option maxRecDepth 20000 in
theorem s7_spell_p4 : ∀ (n : Nat) (σ : St) (v0 : Nat) (v1 : Nat) (v2 : Int32) (v3 : Int32) (r : Unit) (τ : St), f7_spell_p4 n σ v0 v1 v2 v3 = some (r, τ) → Ev 8 m7_spell 4 [(0, .ref (STR + v0)), (1, .ref v1), (2, .int v2), (3, .int v3)] [] σ none τ := by
  intro n
  induction n with
  | zero =>
    intro σ v0 v1 v2 v3 r τ hf
    cases hf
  | succ n ih =>
    intro σ v0 v1 v2 v3 r τ hf
    rw [f7_spell_p4] at hf
    refine ev_iload_n (j := 3) (i := 3) (q := 3) rfl rfl d7_spell_4 ?_
    refine ev_aload_n (j := 0) (i := 0) (q := 0) rfl rfl d7_spell_5 ?_
    obtain ⟨h1, hf⟩ := gd_some hf
    refine ev_strlen (of_decide_eq_true h1) w218 (by decide) (Nat.le_of_ble_eq_true rfl) d7_spell_6 ?_
    rcases ite_some hf with ⟨c2, hf⟩ | ⟨c2, hf⟩
    · refine ev_icmp_ge_P (tgt := 54) c2 (by decide) d7_spell_9 ?_
      refine ev_aload_n (j := 0) (i := 0) (q := 0) rfl rfl d7_spell_12 ?_
      refine ev_iload_n (j := 3) (i := 3) (q := 3) rfl rfl d7_spell_13 ?_
      obtain ⟨h3, hf⟩ := gd_some hf
      obtain ⟨h4, hf⟩ := gd_some hf
      refine ev_strchar (of_decide_eq_true h3) h4 w228 (by decide) (Nat.le_of_ble_eq_true rfl) d7_spell_14 ?_
      refine ev_bipush cb_32 d7_spell_17 ?_
      rcases ite_some hf with ⟨c5, hf⟩ | ⟨c5, hf⟩
      · refine ev_icmp_ne_P (tgt := 28) c5 (by decide) d7_spell_19 ?_
        obtain ⟨y6, e7, hf⟩ := lt_some hf
        refine ev_iinc (lv2 := [(2, .int y6), (0, .ref (STR + v0)), (1, .ref v1), (3, .int v3)]) (i := 2) (q := 2) (v := y6) (n := 1) rfl (by rw [ci_1]; exact e7.symm) (by decide) rfl d7_spell_22 ?_
        refine ev_goto (tgt := 48) (by decide) d7_spell_25 ?_
        exact Ev.sub [1, 2, 0, 3] rfl (s7_spell_p48 ih _ _ _ _ _ _ _ hf)
      · refine ev_icmp_ne_Q (tgt := 28) c5 (by decide) d7_spell_19 ?_
        refine ev_iload_n (j := 2) (i := 2) (q := 2) rfl rfl d7_spell_28 ?_
        refine ev_aload_n (j := 1) (i := 1) (q := 1) rfl rfl d7_spell_29 ?_
        obtain ⟨h8, hf⟩ := gd_some hf
        refine ev_alen (kd := 15) (by decide) (by decide) h8 d7_spell_30 ?_
        rcases ite_some hf with ⟨c9, hf⟩ | ⟨c9, hf⟩
        · refine ev_icmp_ge_P (tgt := 48) c9 (by decide) d7_spell_31 ?_
          refine ev_aload_n (j := 1) (i := 1) (q := 1) rfl rfl d7_spell_34 ?_
          refine ev_iload_n (j := 2) (i := 2) (q := 2) rfl rfl d7_spell_35 ?_
          refine ev_aload_n (j := 1) (i := 1) (q := 1) rfl rfl d7_spell_36 ?_
          refine ev_iload_n (j := 2) (i := 2) (q := 2) rfl rfl d7_spell_37 ?_
          obtain ⟨h10, hf⟩ := gd_some hf
          refine ev_lald h8 h10 d7_spell_38 ?_
          refine ev_aload_n (j := 0) (i := 0) (q := 0) rfl rfl d7_spell_39 ?_
          refine ev_iload_n (j := 3) (i := 3) (q := 3) rfl rfl d7_spell_40 ?_
          obtain ⟨h11, hf⟩ := gd_some hf
          obtain ⟨h12, hf⟩ := gd_some hf
          refine ev_strchar (of_decide_eq_true h11) h12 w228 (by decide) (Nat.le_of_ble_eq_true rfl) d7_spell_41 ?_
          obtain ⟨r13, t14, k15, hf⟩ := bd_some hf
          have q16 := s7_withLetter _ _ _ _ _ k15
          refine ev_callS (vs := [.long (sL σ v1 (ix v2)), .int (strCh v0 (ix v3))]) (sk := [.int v2, .ref v1]) q16 (by decide) (Nat.le_of_ble_eq_true rfl) w266 w267 w9 w268 k7_withLetter rfl (Nat.le_of_ble_eq_true rfl) d7_spell_44 ?_
          obtain ⟨t17, e18, hf⟩ := lt_some hf
          refine ev_last (mono_ob q16.1 h8) (inb_m q16.1 h8 h10) d7_spell_47 (ev_nmS e18 ?_)
          exact Ev.sub [0, 1, 2, 3] rfl (s7_spell_p48 ih _ _ _ _ _ _ _ hf)
        · refine ev_icmp_ge_Q (tgt := 48) c9 (by decide) d7_spell_31 ?_
          exact Ev.sub [0, 1, 2, 3] rfl (s7_spell_p48 ih _ _ _ _ _ _ _ hf)
    · refine ev_icmp_ge_Q (tgt := 54) c2 (by decide) d7_spell_9 ?_
      obtain ⟨-, rfl⟩ := ret_some hf
      exact ev_vret rfl d7_spell_54
def f7_spell (σ : St) (v0 : Nat) (v1 : Nat) : Option (Unit × St) :=
  f7_spell_p4 FU σ v0 v1 (0 : Int32) (0 : Int32)
set_option maxRecDepth 50000 in
theorem s7_spell : ∀ (σ : St) (v0 : Nat) (v1 : Nat) (r : Unit) (τ : St), f7_spell σ v0 v1 = some (r, τ) → Call 8 m7_spell [.ref (STR + v0), .ref v1] σ none τ := by
  intro σ v0 v1 r τ hf
  unfold f7_spell at hf
  refine Call.of (by decide +kernel) rfl (Nat.le_of_ble_eq_true rfl) ?_
  refine ev_iconst ci_0 d7_spell_0 ?_
  refine ev_istore_n (lv2 := [(2, .int (0 : Int32)), (0, .ref (STR + v0)), (1, .ref v1)]) (j := 2) (i := 2) rfl (by decide) rfl d7_spell_1 ?_
  refine ev_iconst ci_0 d7_spell_2 ?_
  refine ev_istore_n (lv2 := [(3, .int (0 : Int32)), (2, .int (0 : Int32)), (0, .ref (STR + v0)), (1, .ref v1)]) (j := 3) (i := 3) rfl (by decide) rfl d7_spell_3 ?_
  exact Ev.sub [2, 3, 1, 0] rfl (s7_spell_p4 FU _ _ _ _ _ _ _ hf)
abbrev m10_init : MD := ("MillBoats$Text", ⟨"MillBoats$Text", "<init>", "(II)V"⟩, prog_12_method_1_code, 5, (none : Option Jvm.ClassFile.FieldType))
theorem k10_init : okY m10_init.2.1 2 := ⟨by decide +kernel, by decide +kernel, by decide +kernel⟩
def f10_init (σ : St) (v0 : Nat) (v1 : Int32) (v2 : Int32) : Option (Unit × St) :=
  bd (fJ9_max_7cf53 σ (0 : Int32) v1) fun r1 t2 => (
  bd (fJ9_max_7cf53 t2 (0 : Int32) v2) fun r5 t6 => (
  lt (sN t6 + 1) fun b9 => (
  gd (szOk r1) (
  lt (wN t6 14 (ix r1)) fun t12 => (
  gd (ob t12 v0 10) (
  lt (wR t12 v0 0 b9) fun t15 => (
  lt (sN t15 + 1) fun b17 => (
  gd (szOk r5) (
  lt (wN t15 14 (ix r5)) fun t20 => (
  lt (wR t20 v0 1 b17) fun t22 => (
  lt (sN t22 + 1) fun b24 => (
  gd (szOk r5) (
  lt (wN t22 14 (ix r5)) fun t27 => (
  lt (wR t27 v0 2 b24) fun t29 => (
  lt (sN t29 + 1) fun b31 => (
  gd (szOk r5) (
  lt (wN t29 14 (ix r5)) fun t34 => (
  lt (wR t34 v0 3 b31) fun t36 => (
  lt (sN t36 + 1) fun b38 => (
  gd (szOk r5) (
  lt (wN t36 14 (ix r5)) fun t41 => (
  lt (wR t41 v0 4 b38) fun t43 => (
  some ((), t43))))))))))))))))))))))))
set_option maxRecDepth 50000 in
theorem s10_init : ∀ (σ : St) (v0 : Nat) (v1 : Int32) (v2 : Int32) (r : Unit) (τ : St), f10_init σ v0 v1 v2 = some (r, τ) → Call 3 m10_init [.ref v0, .int v1, .int v2] σ none τ := by
  intro σ v0 v1 v2 r τ hf
  unfold f10_init at hf
  refine Call.of (by decide +kernel) rfl (Nat.le_of_ble_eq_true rfl) ?_
  refine ev_aload_n (j := 0) (i := 0) (q := 0) rfl rfl d10_init_0 ?_
  refine ev_objInit w182 w32 w33 (by decide) (Nat.le_of_ble_eq_true rfl) d10_init_1 ?_
  refine ev_iconst ci_0 d10_init_4 ?_
  refine ev_iload_n (j := 1) (i := 1) (q := 1) rfl rfl d10_init_5 ?_
  obtain ⟨r1, t2, k3, hf⟩ := bd_some hf
  have q4 := sJ9_max_7cf53 _ _ _ _ _ k3
  refine ev_callS (vs := [.int (0 : Int32), .int v1]) (sk := []) q4 (by decide) (Nat.le_of_ble_eq_true rfl) w183 w152 w8 w153 kJ9_max_7cf53 rfl (Nat.le_of_ble_eq_true rfl) d10_init_6 ?_
  refine ev_istore_n (lv2 := [(3, .int r1), (0, .ref v0), (1, .int v1), (2, .int v2)]) (j := 3) (i := 3) rfl (by decide) rfl d10_init_9 ?_
  refine ev_iconst ci_0 d10_init_10 ?_
  refine ev_iload_n (j := 2) (i := 2) (q := 3) rfl rfl d10_init_11 ?_
  obtain ⟨r5, t6, k7, hf⟩ := bd_some hf
  have q8 := sJ9_max_7cf53 _ _ _ _ _ k7
  refine ev_callS (vs := [.int (0 : Int32), .int v2]) (sk := []) q8 (by decide) (Nat.le_of_ble_eq_true rfl) w183 w152 w8 w153 kJ9_max_7cf53 rfl (Nat.le_of_ble_eq_true rfl) d10_init_12 ?_
  refine ev_istore (lv2 := [(4, .int r5), (3, .int r1), (0, .ref v0), (1, .int v1), (2, .int v2)]) (i := 4) (by decide) rfl d10_init_15 ?_
  refine ev_aload_n (j := 0) (i := 0) (q := 2) rfl rfl d10_init_17 ?_
  refine ev_iload_n (j := 3) (i := 3) (q := 1) rfl rfl d10_init_18 ?_
  obtain ⟨b9, e10, hf⟩ := lt_some hf
  obtain ⟨h11, hf⟩ := gd_some hf
  obtain ⟨t12, e13, hf⟩ := lt_some hf
  refine ev_newa_int w59 h11 d10_init_19 (ev_nmR e10 (ev_nmS e13 ?_))
  obtain ⟨h14, hf⟩ := gd_some hf
  obtain ⟨t15, e16, hf⟩ := lt_some hf
  refine ev_putRF cls10 (j := 0) (by decide) rfl (ne_new e10) rfl w184 rfl rfl h14 (fun _ => ⟨rfl, rfl⟩) d10_init_21 (ev_nmS e16 ?_)
  refine ev_aload_n (j := 0) (i := 0) (q := 2) rfl rfl d10_init_24 ?_
  refine ev_iload (i := 4) (q := 0) rfl d10_init_25 ?_
  obtain ⟨b17, e18, hf⟩ := lt_some hf
  obtain ⟨h19, hf⟩ := gd_some hf
  obtain ⟨t20, e21, hf⟩ := lt_some hf
  refine ev_newa_int w59 h19 d10_init_27 (ev_nmR e18 (ev_nmS e21 ?_))
  obtain ⟨t22, e23, hf⟩ := lt_some hf
  refine ev_putRF cls10 (j := 1) (by decide) rfl (ne_new e18) rfl w186 rfl rfl (mono_ob (mono_eN e21) (mono_ob (mono_eR e16) h14)) (fun _ => ⟨rfl, rfl⟩) d10_init_29 (ev_nmS e23 ?_)
  refine ev_aload_n (j := 0) (i := 0) (q := 2) rfl rfl d10_init_32 ?_
  refine ev_iload (i := 4) (q := 0) rfl d10_init_33 ?_
  obtain ⟨b24, e25, hf⟩ := lt_some hf
  obtain ⟨h26, hf⟩ := gd_some hf
  obtain ⟨t27, e28, hf⟩ := lt_some hf
  refine ev_newa_int w59 h26 d10_init_35 (ev_nmR e25 (ev_nmS e28 ?_))
  obtain ⟨t29, e30, hf⟩ := lt_some hf
  refine ev_putRF cls10 (j := 2) (by decide) rfl (ne_new e25) rfl w188 rfl rfl (mono_ob (mono_eN e28) (mono_ob (mono_eR e23) (mono_ob (mono_eN e21) (mono_ob (mono_eR e16) h14)))) (fun _ => ⟨rfl, rfl⟩) d10_init_37 (ev_nmS e30 ?_)
  refine ev_aload_n (j := 0) (i := 0) (q := 2) rfl rfl d10_init_40 ?_
  refine ev_iload (i := 4) (q := 0) rfl d10_init_41 ?_
  obtain ⟨b31, e32, hf⟩ := lt_some hf
  obtain ⟨h33, hf⟩ := gd_some hf
  obtain ⟨t34, e35, hf⟩ := lt_some hf
  refine ev_newa_int w59 h33 d10_init_43 (ev_nmR e32 (ev_nmS e35 ?_))
  obtain ⟨t36, e37, hf⟩ := lt_some hf
  refine ev_putRF cls10 (j := 3) (by decide) rfl (ne_new e32) rfl w190 rfl rfl (mono_ob (mono_eN e35) (mono_ob (mono_eR e30) (mono_ob (mono_eN e28) (mono_ob (mono_eR e23) (mono_ob (mono_eN e21) (mono_ob (mono_eR e16) h14)))))) (fun _ => ⟨rfl, rfl⟩) d10_init_45 (ev_nmS e37 ?_)
  refine ev_aload_n (j := 0) (i := 0) (q := 2) rfl rfl d10_init_48 ?_
  refine ev_iload (i := 4) (q := 0) rfl d10_init_49 ?_
  obtain ⟨b38, e39, hf⟩ := lt_some hf
  obtain ⟨h40, hf⟩ := gd_some hf
  obtain ⟨t41, e42, hf⟩ := lt_some hf
  refine ev_newa_int w59 h40 d10_init_51 (ev_nmR e39 (ev_nmS e42 ?_))
  obtain ⟨t43, e44, hf⟩ := lt_some hf
  refine ev_putRF cls10 (j := 4) (by decide) rfl (ne_new e39) rfl w192 rfl rfl (mono_ob (mono_eN e42) (mono_ob (mono_eR e37) (mono_ob (mono_eN e35) (mono_ob (mono_eR e30) (mono_ob (mono_eN e28) (mono_ob (mono_eR e23) (mono_ob (mono_eN e21) (mono_ob (mono_eR e16) h14)))))))) (fun _ => ⟨rfl, rfl⟩) d10_init_53 (ev_nmS e44 ?_)
  obtain ⟨-, rfl⟩ := ret_some hf
  exact ev_vret rfl d10_init_56
