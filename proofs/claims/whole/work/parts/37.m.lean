theorem d12_weighs_0 : decode prog_14_method_92_code 0 = .ok (.iconst 0, 1) := by decide +kernel
theorem d12_weighs_1 : decode prog_14_method_92_code 1 = .ok (.istore_n 1, 1) := by decide +kernel
theorem d12_weighs_2 : decode prog_14_method_92_code 2 = .ok (.iconst 0, 1) := by decide +kernel
theorem d12_weighs_3 : decode prog_14_method_92_code 3 = .ok (.istore_n 2, 1) := by decide +kernel
theorem d12_weighs_4 : decode prog_14_method_92_code 4 = .ok (.iload_n 2, 1) := by decide +kernel
theorem d12_weighs_5 : decode prog_14_method_92_code 5 = .ok (.aload_n 0, 1) := by decide +kernel
theorem d12_weighs_6 : decode prog_14_method_92_code 6 = .ok (.getfield 184, 3) := by decide +kernel
theorem d12_weighs_9 : decode prog_14_method_92_code 9 = .ok (.if_icmp .ge 65, 3) := by decide +kernel
theorem d12_weighs_12 : decode prog_14_method_92_code 12 = .ok (.aload_n 0, 1) := by decide +kernel
theorem d12_weighs_13 : decode prog_14_method_92_code 13 = .ok (.getfield 35, 3) := by decide +kernel
theorem d12_weighs_16 : decode prog_14_method_92_code 16 = .ok (.iload_n 2, 1) := by decide +kernel
theorem d12_weighs_17 : decode prog_14_method_92_code 17 = .ok (.iaload, 1) := by decide +kernel
theorem d12_weighs_18 : decode prog_14_method_92_code 18 = .ok (.ifCond .ge 6, 3) := by decide +kernel
theorem d12_weighs_21 : decode prog_14_method_92_code 21 = .ok (.goto 47, 3) := by decide +kernel
theorem d12_weighs_24 : decode prog_14_method_92_code 24 = .ok (.aload_n 0, 1) := by decide +kernel
theorem d12_weighs_25 : decode prog_14_method_92_code 25 = .ok (.iload_n 2, 1) := by decide +kernel
theorem d12_weighs_26 : decode prog_14_method_92_code 26 = .ok (.invokevirtual 487, 3) := by decide +kernel
theorem d12_weighs_29 : decode prog_14_method_92_code 29 = .ok (.ifCond .eq 27, 3) := by decide +kernel
theorem d12_weighs_32 : decode prog_14_method_92_code 32 = .ok (.aload_n 0, 1) := by decide +kernel
theorem d12_weighs_33 : decode prog_14_method_92_code 33 = .ok (.iload_n 2, 1) := by decide +kernel
theorem d12_weighs_34 : decode prog_14_method_92_code 34 = .ok (.aload_n 0, 1) := by decide +kernel
theorem d12_weighs_35 : decode prog_14_method_92_code 35 = .ok (.getfield 490, 3) := by decide +kernel
theorem d12_weighs_38 : decode prog_14_method_92_code 38 = .ok (.aload_n 0, 1) := by decide +kernel
theorem d12_weighs_39 : decode prog_14_method_92_code 39 = .ok (.getfield 493, 3) := by decide +kernel
theorem d12_weighs_42 : decode prog_14_method_92_code 42 = .ok (.invokevirtual 216, 3) := by decide +kernel
theorem d12_weighs_45 : decode prog_14_method_92_code 45 = .ok (.aload_n 0, 1) := by decide +kernel
theorem d12_weighs_46 : decode prog_14_method_92_code 46 = .ok (.getfield 32, 3) := by decide +kernel
theorem d12_weighs_49 : decode prog_14_method_92_code 49 = .ok (.iload_n 2, 1) := by decide +kernel
theorem d12_weighs_50 : decode prog_14_method_92_code 50 = .ok (.iaload, 1) := by decide +kernel
theorem d12_weighs_51 : decode prog_14_method_92_code 51 = .ok (.if_icmp .le 5, 3) := by decide +kernel
theorem d12_weighs_54 : decode prog_14_method_92_code 54 = .ok (.iconst (-1), 1) := by decide +kernel
theorem d12_weighs_55 : decode prog_14_method_92_code 55 = .ok (.ireturn, 1) := by decide +kernel
theorem d12_weighs_56 : decode prog_14_method_92_code 56 = .ok (.iload_n 1, 1) := by decide +kernel
theorem d12_weighs_57 : decode prog_14_method_92_code 57 = .ok (.aload_n 0, 1) := by decide +kernel
theorem d12_weighs_58 : decode prog_14_method_92_code 58 = .ok (.iload_n 2, 1) := by decide +kernel
theorem d12_weighs_59 : decode prog_14_method_92_code 59 = .ok (.aload_n 0, 1) := by decide +kernel
theorem d12_weighs_60 : decode prog_14_method_92_code 60 = .ok (.getfield 490, 3) := by decide +kernel
theorem d12_weighs_63 : decode prog_14_method_92_code 63 = .ok (.invokevirtual 213, 3) := by decide +kernel
theorem d12_weighs_66 : decode prog_14_method_92_code 66 = .ok (.iadd, 1) := by decide +kernel
theorem d12_weighs_67 : decode prog_14_method_92_code 67 = .ok (.istore_n 1, 1) := by decide +kernel
theorem d12_weighs_68 : decode prog_14_method_92_code 68 = .ok (.iinc 2 1, 3) := by decide +kernel
theorem d12_weighs_71 : decode prog_14_method_92_code 71 = .ok (.goto (-67), 3) := by decide +kernel
theorem d12_weighs_74 : decode prog_14_method_92_code 74 = .ok (.aload_n 0, 1) := by decide +kernel
theorem d12_weighs_75 : decode prog_14_method_92_code 75 = .ok (.getfield 496, 3) := by decide +kernel
theorem d12_weighs_78 : decode prog_14_method_92_code 78 = .ok (.istore_n 2, 1) := by decide +kernel
theorem d12_weighs_79 : decode prog_14_method_92_code 79 = .ok (.iload_n 2, 1) := by decide +kernel
theorem d12_weighs_80 : decode prog_14_method_92_code 80 = .ok (.aload_n 0, 1) := by decide +kernel
theorem d12_weighs_81 : decode prog_14_method_92_code 81 = .ok (.getfield 499, 3) := by decide +kernel
theorem d12_weighs_84 : decode prog_14_method_92_code 84 = .ok (.if_icmp .gt 29, 3) := by decide +kernel
theorem d12_weighs_87 : decode prog_14_method_92_code 87 = .ok (.aload_n 0, 1) := by decide +kernel
theorem d12_weighs_88 : decode prog_14_method_92_code 88 = .ok (.iload_n 2, 1) := by decide +kernel
theorem d12_weighs_89 : decode prog_14_method_92_code 89 = .ok (.aload_n 0, 1) := by decide +kernel
theorem d12_weighs_90 : decode prog_14_method_92_code 90 = .ok (.getfield 490, 3) := by decide +kernel
theorem d12_weighs_93 : decode prog_14_method_92_code 93 = .ok (.invokevirtual 439, 3) := by decide +kernel
theorem d12_weighs_96 : decode prog_14_method_92_code 96 = .ok (.aload_n 0, 1) := by decide +kernel
theorem d12_weighs_97 : decode prog_14_method_92_code 97 = .ok (.getfield 157, 3) := by decide +kernel
theorem d12_weighs_100 : decode prog_14_method_92_code 100 = .ok (.iload_n 2, 1) := by decide +kernel
theorem d12_weighs_101 : decode prog_14_method_92_code 101 = .ok (.iaload, 1) := by decide +kernel
theorem d12_weighs_102 : decode prog_14_method_92_code 102 = .ok (.if_icmp .ge 5, 3) := by decide +kernel
theorem d12_weighs_105 : decode prog_14_method_92_code 105 = .ok (.iconst (-1), 1) := by decide +kernel
theorem d12_weighs_106 : decode prog_14_method_92_code 106 = .ok (.ireturn, 1) := by decide +kernel
theorem d12_weighs_107 : decode prog_14_method_92_code 107 = .ok (.iinc 2 1, 3) := by decide +kernel
theorem d12_weighs_110 : decode prog_14_method_92_code 110 = .ok (.goto (-31), 3) := by decide +kernel
theorem d12_weighs_113 : decode prog_14_method_92_code 113 = .ok (.iload_n 1, 1) := by decide +kernel
theorem d12_weighs_114 : decode prog_14_method_92_code 114 = .ok (.ireturn, 1) := by decide +kernel
theorem d12_tries_0 : decode prog_14_method_93_code 0 = .ok (.iload_n 1, 1) := by decide +kernel
theorem d12_tries_1 : decode prog_14_method_93_code 1 = .ok (.aload_n 0, 1) := by decide +kernel
theorem d12_tries_2 : decode prog_14_method_93_code 2 = .ok (.getfield 184, 3) := by decide +kernel
theorem d12_tries_5 : decode prog_14_method_93_code 5 = .ok (.if_icmp .ne 51, 3) := by decide +kernel
theorem d12_tries_8 : decode prog_14_method_93_code 8 = .ok (.aload_n 0, 1) := by decide +kernel
theorem d12_tries_9 : decode prog_14_method_93_code 9 = .ok (.invokevirtual 502, 3) := by decide +kernel
theorem d12_tries_12 : decode prog_14_method_93_code 12 = .ok (.istore_n 2, 1) := by decide +kernel
theorem d12_tries_13 : decode prog_14_method_93_code 13 = .ok (.iload_n 2, 1) := by decide +kernel
theorem d12_tries_14 : decode prog_14_method_93_code 14 = .ok (.aload_n 0, 1) := by decide +kernel
theorem d12_tries_15 : decode prog_14_method_93_code 15 = .ok (.getfield 505, 3) := by decide +kernel
theorem d12_tries_18 : decode prog_14_method_93_code 18 = .ok (.if_icmp .gt 4, 3) := by decide +kernel
theorem d12_tries_21 : decode prog_14_method_93_code 21 = .ok (.return_, 1) := by decide +kernel
theorem d12_tries_22 : decode prog_14_method_93_code 22 = .ok (.aload_n 0, 1) := by decide +kernel
theorem d12_tries_23 : decode prog_14_method_93_code 23 = .ok (.iload_n 2, 1) := by decide +kernel
theorem d12_tries_24 : decode prog_14_method_93_code 24 = .ok (.putfield 505, 3) := by decide +kernel
theorem d12_tries_27 : decode prog_14_method_93_code 27 = .ok (.iconst 0, 1) := by decide +kernel
theorem d12_tries_28 : decode prog_14_method_93_code 28 = .ok (.istore_n 3, 1) := by decide +kernel
theorem d12_tries_29 : decode prog_14_method_93_code 29 = .ok (.iload_n 3, 1) := by decide +kernel
theorem d12_tries_30 : decode prog_14_method_93_code 30 = .ok (.aload_n 0, 1) := by decide +kernel
theorem d12_tries_31 : decode prog_14_method_93_code 31 = .ok (.getfield 184, 3) := by decide +kernel
theorem d12_tries_34 : decode prog_14_method_93_code 34 = .ok (.if_icmp .ge 21, 3) := by decide +kernel
theorem d12_tries_37 : decode prog_14_method_93_code 37 = .ok (.aload_n 0, 1) := by decide +kernel
theorem d12_tries_38 : decode prog_14_method_93_code 38 = .ok (.getfield 145, 3) := by decide +kernel
theorem d12_tries_41 : decode prog_14_method_93_code 41 = .ok (.iload_n 3, 1) := by decide +kernel
theorem d12_tries_42 : decode prog_14_method_93_code 42 = .ok (.aload_n 0, 1) := by decide +kernel
theorem d12_tries_43 : decode prog_14_method_93_code 43 = .ok (.getfield 35, 3) := by decide +kernel
theorem d12_tries_46 : decode prog_14_method_93_code 46 = .ok (.iload_n 3, 1) := by decide +kernel
theorem d12_tries_47 : decode prog_14_method_93_code 47 = .ok (.iaload, 1) := by decide +kernel
theorem d12_tries_48 : decode prog_14_method_93_code 48 = .ok (.iastore, 1) := by decide +kernel
theorem d12_tries_49 : decode prog_14_method_93_code 49 = .ok (.iinc 3 1, 3) := by decide +kernel
theorem d12_tries_52 : decode prog_14_method_93_code 52 = .ok (.goto (-23), 3) := by decide +kernel
theorem d12_tries_55 : decode prog_14_method_93_code 55 = .ok (.return_, 1) := by decide +kernel
theorem d12_tries_56 : decode prog_14_method_93_code 56 = .ok (.aload_n 0, 1) := by decide +kernel
theorem d12_tries_57 : decode prog_14_method_93_code 57 = .ok (.iload_n 1, 1) := by decide +kernel
theorem d12_tries_58 : decode prog_14_method_93_code 58 = .ok (.invokevirtual 487, 3) := by decide +kernel
theorem d12_tries_61 : decode prog_14_method_93_code 61 = .ok (.ifCond .ne 11, 3) := by decide +kernel
theorem d12_tries_64 : decode prog_14_method_93_code 64 = .ok (.aload_n 0, 1) := by decide +kernel
theorem d12_tries_65 : decode prog_14_method_93_code 65 = .ok (.iload_n 1, 1) := by decide +kernel
theorem d12_tries_66 : decode prog_14_method_93_code 66 = .ok (.iconst 1, 1) := by decide +kernel
theorem d12_tries_67 : decode prog_14_method_93_code 67 = .ok (.iadd, 1) := by decide +kernel
theorem d12_tries_68 : decode prog_14_method_93_code 68 = .ok (.invokevirtual 508, 3) := by decide +kernel
theorem d12_tries_71 : decode prog_14_method_93_code 71 = .ok (.return_, 1) := by decide +kernel
theorem d12_tries_72 : decode prog_14_method_93_code 72 = .ok (.iconst 0, 1) := by decide +kernel
theorem d12_tries_73 : decode prog_14_method_93_code 73 = .ok (.istore_n 2, 1) := by decide +kernel
theorem d12_tries_74 : decode prog_14_method_93_code 74 = .ok (.iload_n 2, 1) := by decide +kernel
theorem d12_tries_75 : decode prog_14_method_93_code 75 = .ok (.bipush 72, 2) := by decide +kernel
theorem d12_tries_77 : decode prog_14_method_93_code 77 = .ok (.if_icmp .ge 74, 3) := by decide +kernel
theorem d12_tries_80 : decode prog_14_method_93_code 80 = .ok (.iload_n 2, 1) := by decide +kernel
theorem d12_tries_81 : decode prog_14_method_93_code 81 = .ok (.bipush 12, 2) := by decide +kernel
theorem d12_tries_83 : decode prog_14_method_93_code 83 = .ok (.irem, 1) := by decide +kernel
theorem d12_tries_84 : decode prog_14_method_93_code 84 = .ok (.aload_n 0, 1) := by decide +kernel
theorem d12_tries_85 : decode prog_14_method_93_code 85 = .ok (.getfield 496, 3) := by decide +kernel
theorem d12_tries_88 : decode prog_14_method_93_code 88 = .ok (.aload_n 0, 1) := by decide +kernel
theorem d12_tries_89 : decode prog_14_method_93_code 89 = .ok (.getfield 499, 3) := by decide +kernel
theorem d12_tries_92 : decode prog_14_method_93_code 92 = .ok (.invokestatic 176, 3) := by decide +kernel
theorem d12_tries_95 : decode prog_14_method_93_code 95 = .ok (.ifCond .eq 50, 3) := by decide +kernel
theorem d12_tries_98 : decode prog_14_method_93_code 98 = .ok (.aload_n 0, 1) := by decide +kernel
theorem d12_tries_99 : decode prog_14_method_93_code 99 = .ok (.getfield 154, 3) := by decide +kernel
theorem d12_tries_102 : decode prog_14_method_93_code 102 = .ok (.bipush 72, 2) := by decide +kernel
theorem d12_tries_104 : decode prog_14_method_93_code 104 = .ok (.iload_n 1, 1) := by decide +kernel
theorem d12_tries_105 : decode prog_14_method_93_code 105 = .ok (.imul, 1) := by decide +kernel
theorem d12_tries_106 : decode prog_14_method_93_code 106 = .ok (.iload_n 2, 1) := by decide +kernel
theorem d12_tries_107 : decode prog_14_method_93_code 107 = .ok (.iadd, 1) := by decide +kernel
theorem d12_tries_108 : decode prog_14_method_93_code 108 = .ok (.baload, 1) := by decide +kernel
theorem d12_tries_109 : decode prog_14_method_93_code 109 = .ok (.ifCond .eq 36, 3) := by decide +kernel
theorem d12_tries_112 : decode prog_14_method_93_code 112 = .ok (.aload_n 0, 1) := by decide +kernel
theorem d12_tries_113 : decode prog_14_method_93_code 113 = .ok (.iload_n 2, 1) := by decide +kernel
theorem d12_tries_114 : decode prog_14_method_93_code 114 = .ok (.invokevirtual 190, 3) := by decide +kernel
theorem d12_tries_117 : decode prog_14_method_93_code 117 = .ok (.iconst (-1), 1) := by decide +kernel
theorem d12_tries_118 : decode prog_14_method_93_code 118 = .ok (.if_icmp .eq 6, 3) := by decide +kernel
theorem d12_tries_121 : decode prog_14_method_93_code 121 = .ok (.goto 24, 3) := by decide +kernel
theorem d12_tries_124 : decode prog_14_method_93_code 124 = .ok (.aload_n 0, 1) := by decide +kernel
theorem d12_tries_125 : decode prog_14_method_93_code 125 = .ok (.getfield 35, 3) := by decide +kernel
theorem d12_tries_128 : decode prog_14_method_93_code 128 = .ok (.iload_n 1, 1) := by decide +kernel
theorem d12_tries_129 : decode prog_14_method_93_code 129 = .ok (.iload_n 2, 1) := by decide +kernel
theorem d12_tries_130 : decode prog_14_method_93_code 130 = .ok (.iastore, 1) := by decide +kernel
theorem d12_tries_131 : decode prog_14_method_93_code 131 = .ok (.aload_n 0, 1) := by decide +kernel
theorem d12_tries_132 : decode prog_14_method_93_code 132 = .ok (.iload_n 1, 1) := by decide +kernel
theorem d12_tries_133 : decode prog_14_method_93_code 133 = .ok (.iconst 1, 1) := by decide +kernel
theorem d12_tries_134 : decode prog_14_method_93_code 134 = .ok (.iadd, 1) := by decide +kernel
theorem d12_tries_135 : decode prog_14_method_93_code 135 = .ok (.invokevirtual 508, 3) := by decide +kernel
theorem d12_tries_138 : decode prog_14_method_93_code 138 = .ok (.aload_n 0, 1) := by decide +kernel
theorem d12_tries_139 : decode prog_14_method_93_code 139 = .ok (.getfield 35, 3) := by decide +kernel
theorem d12_tries_142 : decode prog_14_method_93_code 142 = .ok (.iload_n 1, 1) := by decide +kernel
theorem d12_tries_143 : decode prog_14_method_93_code 143 = .ok (.iconst (-1), 1) := by decide +kernel
theorem d12_tries_144 : decode prog_14_method_93_code 144 = .ok (.iastore, 1) := by decide +kernel
theorem d12_tries_145 : decode prog_14_method_93_code 145 = .ok (.iinc 2 1, 3) := by decide +kernel
theorem d12_tries_148 : decode prog_14_method_93_code 148 = .ok (.goto (-74), 3) := by decide +kernel
theorem d12_tries_151 : decode prog_14_method_93_code 151 = .ok (.aload_n 0, 1) := by decide +kernel
theorem d12_tries_152 : decode prog_14_method_93_code 152 = .ok (.iload_n 1, 1) := by decide +kernel
theorem d12_tries_153 : decode prog_14_method_93_code 153 = .ok (.iconst 1, 1) := by decide +kernel
theorem d12_tries_154 : decode prog_14_method_93_code 154 = .ok (.iadd, 1) := by decide +kernel
theorem d12_tries_155 : decode prog_14_method_93_code 155 = .ok (.invokevirtual 508, 3) := by decide +kernel
theorem d12_tries_158 : decode prog_14_method_93_code 158 = .ok (.return_, 1) := by decide +kernel
theorem d12_arePlanned_0 : decode prog_14_method_94_code 0 = .ok (.iconst 0, 1) := by decide +kernel
theorem d12_arePlanned_1 : decode prog_14_method_94_code 1 = .ok (.istore_n 2, 1) := by decide +kernel
theorem d12_arePlanned_2 : decode prog_14_method_94_code 2 = .ok (.iconst 0, 1) := by decide +kernel
theorem d12_arePlanned_3 : decode prog_14_method_94_code 3 = .ok (.istore_n 3, 1) := by decide +kernel
theorem d12_arePlanned_4 : decode prog_14_method_94_code 4 = .ok (.iload_n 3, 1) := by decide +kernel
theorem d12_arePlanned_5 : decode prog_14_method_94_code 5 = .ok (.aload_n 0, 1) := by decide +kernel
theorem d12_arePlanned_6 : decode prog_14_method_94_code 6 = .ok (.getfield 184, 3) := by decide +kernel
theorem d12_arePlanned_9 : decode prog_14_method_94_code 9 = .ok (.if_icmp .ge 36, 3) := by decide +kernel
theorem d12_arePlanned_12 : decode prog_14_method_94_code 12 = .ok (.iload_n 1, 1) := by decide +kernel
theorem d12_arePlanned_13 : decode prog_14_method_94_code 13 = .ok (.iload_n 3, 1) := by decide +kernel
theorem d12_arePlanned_14 : decode prog_14_method_94_code 14 = .ok (.ishr, 1) := by decide +kernel
theorem d12_arePlanned_15 : decode prog_14_method_94_code 15 = .ok (.iconst 1, 1) := by decide +kernel
theorem d12_arePlanned_16 : decode prog_14_method_94_code 16 = .ok (.iand, 1) := by decide +kernel
theorem d12_arePlanned_17 : decode prog_14_method_94_code 17 = .ok (.ifCond .ne 6, 3) := by decide +kernel
theorem d12_arePlanned_20 : decode prog_14_method_94_code 20 = .ok (.goto 19, 3) := by decide +kernel
theorem d12_arePlanned_23 : decode prog_14_method_94_code 23 = .ok (.aload_n 0, 1) := by decide +kernel
theorem d12_arePlanned_24 : decode prog_14_method_94_code 24 = .ok (.getfield 35, 3) := by decide +kernel
theorem d12_arePlanned_27 : decode prog_14_method_94_code 27 = .ok (.iload_n 3, 1) := by decide +kernel
theorem d12_arePlanned_28 : decode prog_14_method_94_code 28 = .ok (.iaload, 1) := by decide +kernel
theorem d12_arePlanned_29 : decode prog_14_method_94_code 29 = .ok (.bipush (-2), 2) := by decide +kernel
theorem d12_arePlanned_31 : decode prog_14_method_94_code 31 = .ok (.if_icmp .ne 5, 3) := by decide +kernel
theorem d12_arePlanned_34 : decode prog_14_method_94_code 34 = .ok (.iconst 0, 1) := by decide +kernel
theorem d12_arePlanned_35 : decode prog_14_method_94_code 35 = .ok (.ireturn, 1) := by decide +kernel
theorem d12_arePlanned_36 : decode prog_14_method_94_code 36 = .ok (.iinc 2 1, 3) := by decide +kernel
theorem d12_arePlanned_39 : decode prog_14_method_94_code 39 = .ok (.iinc 3 1, 3) := by decide +kernel
theorem d12_arePlanned_42 : decode prog_14_method_94_code 42 = .ok (.goto (-38), 3) := by decide +kernel
theorem d12_arePlanned_45 : decode prog_14_method_94_code 45 = .ok (.iload_n 1, 1) := by decide +kernel
theorem d12_arePlanned_46 : decode prog_14_method_94_code 46 = .ok (.ifCond .le 21, 3) := by decide +kernel
theorem d12_arePlanned_49 : decode prog_14_method_94_code 49 = .ok (.iload_n 1, 1) := by decide +kernel
theorem d12_arePlanned_50 : decode prog_14_method_94_code 50 = .ok (.aload_n 0, 1) := by decide +kernel
theorem d12_arePlanned_51 : decode prog_14_method_94_code 51 = .ok (.getfield 184, 3) := by decide +kernel
theorem d12_arePlanned_54 : decode prog_14_method_94_code 54 = .ok (.ishr, 1) := by decide +kernel
theorem d12_arePlanned_55 : decode prog_14_method_94_code 55 = .ok (.ifCond .ne 12, 3) := by decide +kernel
theorem d12_arePlanned_58 : decode prog_14_method_94_code 58 = .ok (.iload_n 2, 1) := by decide +kernel
theorem d12_arePlanned_59 : decode prog_14_method_94_code 59 = .ok (.iconst 3, 1) := by decide +kernel
theorem d12_arePlanned_60 : decode prog_14_method_94_code 60 = .ok (.if_icmp .gt 7, 3) := by decide +kernel
theorem d12_arePlanned_63 : decode prog_14_method_94_code 63 = .ok (.iconst 1, 1) := by decide +kernel
theorem d12_arePlanned_64 : decode prog_14_method_94_code 64 = .ok (.goto 4, 3) := by decide +kernel
theorem d12_arePlanned_67 : decode prog_14_method_94_code 67 = .ok (.iconst 0, 1) := by decide +kernel
theorem d12_arePlanned_68 : decode prog_14_method_94_code 68 = .ok (.ireturn, 1) := by decide +kernel
theorem d12_plan_0 : decode prog_14_method_95_code 0 = .ok (.aload_n 0, 1) := by decide +kernel
theorem d12_plan_1 : decode prog_14_method_95_code 1 = .ok (.iconst 0, 1) := by decide +kernel
theorem d12_plan_2 : decode prog_14_method_95_code 2 = .ok (.putfield 1, 3) := by decide +kernel
theorem d12_plan_5 : decode prog_14_method_95_code 5 = .ok (.iload_n 1, 1) := by decide +kernel
theorem d12_plan_6 : decode prog_14_method_95_code 6 = .ok (.aload_n 0, 1) := by decide +kernel
theorem d12_plan_7 : decode prog_14_method_95_code 7 = .ok (.getfield 194, 3) := by decide +kernel
theorem d12_plan_10 : decode prog_14_method_95_code 10 = .ok (.sipush 999, 3) := by decide +kernel
theorem d12_plan_13 : decode prog_14_method_95_code 13 = .ok (.invokestatic 176, 3) := by decide +kernel
theorem d12_plan_16 : decode prog_14_method_95_code 16 = .ok (.ifCond .eq 40, 3) := by decide +kernel
theorem d12_plan_19 : decode prog_14_method_95_code 19 = .ok (.aload_n 0, 1) := by decide +kernel
theorem d12_plan_20 : decode prog_14_method_95_code 20 = .ok (.iload_n 2, 1) := by decide +kernel
theorem d12_plan_21 : decode prog_14_method_95_code 21 = .ok (.invokevirtual 511, 3) := by decide +kernel
theorem d12_plan_24 : decode prog_14_method_95_code 24 = .ok (.ifCond .eq 32, 3) := by decide +kernel
theorem d12_plan_27 : decode prog_14_method_95_code 27 = .ok (.iload_n 3, 1) := by decide +kernel
theorem d12_plan_28 : decode prog_14_method_95_code 28 = .ok (.iconst 0, 1) := by decide +kernel
theorem d12_plan_29 : decode prog_14_method_95_code 29 = .ok (.bipush 11, 2) := by decide +kernel
theorem d12_plan_31 : decode prog_14_method_95_code 31 = .ok (.invokestatic 176, 3) := by decide +kernel
theorem d12_plan_34 : decode prog_14_method_95_code 34 = .ok (.ifCond .eq 22, 3) := by decide +kernel
theorem d12_plan_37 : decode prog_14_method_95_code 37 = .ok (.iload 4, 2) := by decide +kernel
theorem d12_plan_39 : decode prog_14_method_95_code 39 = .ok (.iload_n 3, 1) := by decide +kernel
theorem d12_plan_40 : decode prog_14_method_95_code 40 = .ok (.bipush 11, 2) := by decide +kernel
theorem d12_plan_42 : decode prog_14_method_95_code 42 = .ok (.invokestatic 176, 3) := by decide +kernel
theorem d12_plan_45 : decode prog_14_method_95_code 45 = .ok (.ifCond .eq 11, 3) := by decide +kernel
theorem d12_plan_48 : decode prog_14_method_95_code 48 = .ok (.iload 4, 2) := by decide +kernel
theorem d12_plan_50 : decode prog_14_method_95_code 50 = .ok (.iload_n 3, 1) := by decide +kernel
theorem d12_plan_51 : decode prog_14_method_95_code 51 = .ok (.isub, 1) := by decide +kernel
theorem d12_plan_52 : decode prog_14_method_95_code 52 = .ok (.iconst 3, 1) := by decide +kernel
theorem d12_plan_53 : decode prog_14_method_95_code 53 = .ok (.if_icmp .le 5, 3) := by decide +kernel
theorem d12_plan_56 : decode prog_14_method_95_code 56 = .ok (.iconst (-1), 1) := by decide +kernel
theorem d12_plan_57 : decode prog_14_method_95_code 57 = .ok (.ireturn, 1) := by decide +kernel
theorem d12_plan_58 : decode prog_14_method_95_code 58 = .ok (.aload_n 0, 1) := by decide +kernel
theorem d12_plan_59 : decode prog_14_method_95_code 59 = .ok (.iload_n 2, 1) := by decide +kernel
theorem d12_plan_60 : decode prog_14_method_95_code 60 = .ok (.putfield 484, 3) := by decide +kernel
theorem d12_plan_63 : decode prog_14_method_95_code 63 = .ok (.aload_n 0, 1) := by decide +kernel
theorem d12_plan_64 : decode prog_14_method_95_code 64 = .ok (.iload_n 1, 1) := by decide +kernel
theorem d12_plan_65 : decode prog_14_method_95_code 65 = .ok (.putfield 514, 3) := by decide +kernel
theorem d12_plan_68 : decode prog_14_method_95_code 68 = .ok (.aload_n 0, 1) := by decide +kernel
theorem d12_plan_69 : decode prog_14_method_95_code 69 = .ok (.aload_n 0, 1) := by decide +kernel
theorem d12_plan_70 : decode prog_14_method_95_code 70 = .ok (.iload_n 1, 1) := by decide +kernel
theorem d12_plan_71 : decode prog_14_method_95_code 71 = .ok (.aload_n 0, 1) := by decide +kernel
theorem d12_plan_72 : decode prog_14_method_95_code 72 = .ok (.getfield 194, 3) := by decide +kernel
theorem d12_plan_75 : decode prog_14_method_95_code 75 = .ok (.invokevirtual 232, 3) := by decide +kernel
theorem d12_plan_78 : decode prog_14_method_95_code 78 = .ok (.putfield 490, 3) := by decide +kernel
theorem d12_plan_81 : decode prog_14_method_95_code 81 = .ok (.aload_n 0, 1) := by decide +kernel
theorem d12_plan_82 : decode prog_14_method_95_code 82 = .ok (.aload_n 0, 1) := by decide +kernel
theorem d12_plan_83 : decode prog_14_method_95_code 83 = .ok (.iload_n 1, 1) := by decide +kernel
theorem d12_plan_84 : decode prog_14_method_95_code 84 = .ok (.aload_n 0, 1) := by decide +kernel
theorem d12_plan_85 : decode prog_14_method_95_code 85 = .ok (.getfield 194, 3) := by decide +kernel
theorem d12_plan_88 : decode prog_14_method_95_code 88 = .ok (.invokevirtual 235, 3) := by decide +kernel
theorem d12_plan_91 : decode prog_14_method_95_code 91 = .ok (.putfield 493, 3) := by decide +kernel
theorem d12_plan_94 : decode prog_14_method_95_code 94 = .ok (.aload_n 0, 1) := by decide +kernel
theorem d12_plan_95 : decode prog_14_method_95_code 95 = .ok (.iload_n 3, 1) := by decide +kernel
theorem d12_plan_96 : decode prog_14_method_95_code 96 = .ok (.putfield 496, 3) := by decide +kernel
theorem d12_plan_99 : decode prog_14_method_95_code 99 = .ok (.aload_n 0, 1) := by decide +kernel
theorem d12_plan_100 : decode prog_14_method_95_code 100 = .ok (.iload 4, 2) := by decide +kernel
theorem d12_plan_102 : decode prog_14_method_95_code 102 = .ok (.putfield 499, 3) := by decide +kernel
theorem d12_plan_105 : decode prog_14_method_95_code 105 = .ok (.iload_n 3, 1) := by decide +kernel
theorem d12_plan_106 : decode prog_14_method_95_code 106 = .ok (.istore 5, 2) := by decide +kernel
theorem d12_plan_108 : decode prog_14_method_95_code 108 = .ok (.iload 5, 2) := by decide +kernel
theorem d12_plan_110 : decode prog_14_method_95_code 110 = .ok (.iload 4, 2) := by decide +kernel
theorem d12_plan_112 : decode prog_14_method_95_code 112 = .ok (.if_icmp .gt 27, 3) := by decide +kernel
theorem d12_plan_115 : decode prog_14_method_95_code 115 = .ok (.aload_n 0, 1) := by decide +kernel
theorem d12_plan_116 : decode prog_14_method_95_code 116 = .ok (.getfield 157, 3) := by decide +kernel
theorem d12_plan_119 : decode prog_14_method_95_code 119 = .ok (.iload 5, 2) := by decide +kernel
theorem d12_plan_121 : decode prog_14_method_95_code 121 = .ok (.aload_n 0, 1) := by decide +kernel
theorem d12_plan_122 : decode prog_14_method_95_code 122 = .ok (.iload 5, 2) := by decide +kernel
theorem d12_plan_124 : decode prog_14_method_95_code 124 = .ok (.iload_n 1, 1) := by decide +kernel
theorem d12_plan_125 : decode prog_14_method_95_code 125 = .ok (.aload_n 0, 1) := by decide +kernel
theorem d12_plan_126 : decode prog_14_method_95_code 126 = .ok (.getfield 194, 3) := by decide +kernel
theorem d12_plan_129 : decode prog_14_method_95_code 129 = .ok (.invokevirtual 436, 3) := by decide +kernel
theorem d12_plan_132 : decode prog_14_method_95_code 132 = .ok (.iastore, 1) := by decide +kernel
theorem d12_plan_133 : decode prog_14_method_95_code 133 = .ok (.iinc 5 1, 3) := by decide +kernel
theorem d12_plan_136 : decode prog_14_method_95_code 136 = .ok (.goto (-28), 3) := by decide +kernel
theorem d12_plan_139 : decode prog_14_method_95_code 139 = .ok (.iconst 0, 1) := by decide +kernel
theorem d12_plan_140 : decode prog_14_method_95_code 140 = .ok (.istore 5, 2) := by decide +kernel
theorem d12_plan_142 : decode prog_14_method_95_code 142 = .ok (.iload 5, 2) := by decide +kernel
theorem d12_plan_144 : decode prog_14_method_95_code 144 = .ok (.aload_n 0, 1) := by decide +kernel
theorem d12_plan_145 : decode prog_14_method_95_code 145 = .ok (.getfield 184, 3) := by decide +kernel
theorem d12_plan_148 : decode prog_14_method_95_code 148 = .ok (.if_icmp .ge 113, 3) := by decide +kernel
theorem d12_plan_151 : decode prog_14_method_95_code 151 = .ok (.aload_n 0, 1) := by decide +kernel
theorem d12_plan_152 : decode prog_14_method_95_code 152 = .ok (.getfield 148, 3) := by decide +kernel
theorem d12_plan_155 : decode prog_14_method_95_code 155 = .ok (.iload 5, 2) := by decide +kernel
theorem d12_plan_157 : decode prog_14_method_95_code 157 = .ok (.aload_n 0, 1) := by decide +kernel
theorem d12_plan_158 : decode prog_14_method_95_code 158 = .ok (.getfield 35, 3) := by decide +kernel
theorem d12_plan_161 : decode prog_14_method_95_code 161 = .ok (.iload 5, 2) := by decide +kernel
theorem d12_plan_163 : decode prog_14_method_95_code 163 = .ok (.iaload, 1) := by decide +kernel
theorem d12_plan_164 : decode prog_14_method_95_code 164 = .ok (.iastore, 1) := by decide +kernel
theorem d12_plan_165 : decode prog_14_method_95_code 165 = .ok (.aload_n 0, 1) := by decide +kernel
theorem d12_plan_166 : decode prog_14_method_95_code 166 = .ok (.iload 5, 2) := by decide +kernel
theorem d12_plan_168 : decode prog_14_method_95_code 168 = .ok (.invokevirtual 487, 3) := by decide +kernel
theorem d12_plan_171 : decode prog_14_method_95_code 171 = .ok (.ifCond .ne 6, 3) := by decide +kernel
theorem d12_plan_174 : decode prog_14_method_95_code 174 = .ok (.goto 81, 3) := by decide +kernel
theorem d12_plan_177 : decode prog_14_method_95_code 177 = .ok (.aload_n 0, 1) := by decide +kernel
theorem d12_plan_178 : decode prog_14_method_95_code 178 = .ok (.getfield 35, 3) := by decide +kernel
theorem d12_plan_181 : decode prog_14_method_95_code 181 = .ok (.iload 5, 2) := by decide +kernel
theorem d12_plan_183 : decode prog_14_method_95_code 183 = .ok (.iconst (-1), 1) := by decide +kernel
theorem d12_plan_184 : decode prog_14_method_95_code 184 = .ok (.iastore, 1) := by decide +kernel
theorem d12_plan_185 : decode prog_14_method_95_code 185 = .ok (.iconst 0, 1) := by decide +kernel
theorem d12_plan_186 : decode prog_14_method_95_code 186 = .ok (.istore 6, 2) := by decide +kernel
theorem d12_plan_188 : decode prog_14_method_95_code 188 = .ok (.iload 6, 2) := by decide +kernel
theorem d12_plan_190 : decode prog_14_method_95_code 190 = .ok (.bipush 72, 2) := by decide +kernel
theorem d12_plan_192 : decode prog_14_method_95_code 192 = .ok (.if_icmp .ge 63, 3) := by decide +kernel
theorem d12_plan_195 : decode prog_14_method_95_code 195 = .ok (.aload_n 0, 1) := by decide +kernel
theorem d12_plan_196 : decode prog_14_method_95_code 196 = .ok (.getfield 154, 3) := by decide +kernel
theorem d12_plan_199 : decode prog_14_method_95_code 199 = .ok (.bipush 72, 2) := by decide +kernel
theorem d12_plan_201 : decode prog_14_method_95_code 201 = .ok (.iload 5, 2) := by decide +kernel
theorem d12_plan_203 : decode prog_14_method_95_code 203 = .ok (.imul, 1) := by decide +kernel
theorem d12_plan_204 : decode prog_14_method_95_code 204 = .ok (.iload 6, 2) := by decide +kernel
theorem d12_plan_206 : decode prog_14_method_95_code 206 = .ok (.iadd, 1) := by decide +kernel
theorem d12_plan_207 : decode prog_14_method_95_code 207 = .ok (.aload_n 0, 1) := by decide +kernel
theorem d12_plan_208 : decode prog_14_method_95_code 208 = .ok (.iload 6, 2) := by decide +kernel
theorem d12_plan_210 : decode prog_14_method_95_code 210 = .ok (.aload_n 0, 1) := by decide +kernel
theorem d12_plan_211 : decode prog_14_method_95_code 211 = .ok (.getfield 490, 3) := by decide +kernel
theorem d12_plan_214 : decode prog_14_method_95_code 214 = .ok (.invokevirtual 197, 3) := by decide +kernel
theorem d12_plan_217 : decode prog_14_method_95_code 217 = .ok (.aload_n 0, 1) := by decide +kernel
theorem d12_plan_218 : decode prog_14_method_95_code 218 = .ok (.getfield 26, 3) := by decide +kernel
theorem d12_plan_221 : decode prog_14_method_95_code 221 = .ok (.iload 5, 2) := by decide +kernel
theorem d12_plan_223 : decode prog_14_method_95_code 223 = .ok (.iaload, 1) := by decide +kernel
theorem d12_plan_224 : decode prog_14_method_95_code 224 = .ok (.if_icmp .lt 23, 3) := by decide +kernel
theorem d12_plan_227 : decode prog_14_method_95_code 227 = .ok (.aload_n 0, 1) := by decide +kernel
theorem d12_plan_228 : decode prog_14_method_95_code 228 = .ok (.iload 5, 2) := by decide +kernel
theorem d12_plan_230 : decode prog_14_method_95_code 230 = .ok (.iload 6, 2) := by decide +kernel
theorem d12_plan_232 : decode prog_14_method_95_code 232 = .ok (.iload_n 1, 1) := by decide +kernel
theorem d12_plan_233 : decode prog_14_method_95_code 233 = .ok (.aload_n 0, 1) := by decide +kernel
theorem d12_plan_234 : decode prog_14_method_95_code 234 = .ok (.getfield 194, 3) := by decide +kernel
theorem d12_plan_237 : decode prog_14_method_95_code 237 = .ok (.invokevirtual 477, 3) := by decide +kernel
theorem d12_plan_240 : decode prog_14_method_95_code 240 = .ok (.ifCond .ne 7, 3) := by decide +kernel
theorem d12_plan_243 : decode prog_14_method_95_code 243 = .ok (.iconst 1, 1) := by decide +kernel
theorem d12_plan_244 : decode prog_14_method_95_code 244 = .ok (.goto 4, 3) := by decide +kernel
theorem d12_plan_247 : decode prog_14_method_95_code 247 = .ok (.iconst 0, 1) := by decide +kernel
theorem d12_plan_248 : decode prog_14_method_95_code 248 = .ok (.bastore, 1) := by decide +kernel
theorem d12_plan_249 : decode prog_14_method_95_code 249 = .ok (.iinc 6 1, 3) := by decide +kernel
theorem d12_plan_252 : decode prog_14_method_95_code 252 = .ok (.goto (-64), 3) := by decide +kernel
theorem d12_plan_255 : decode prog_14_method_95_code 255 = .ok (.iinc 5 1, 3) := by decide +kernel
theorem d12_plan_258 : decode prog_14_method_95_code 258 = .ok (.goto (-116), 3) := by decide +kernel
theorem d12_plan_261 : decode prog_14_method_95_code 261 = .ok (.aload_n 0, 1) := by decide +kernel
theorem d12_plan_262 : decode prog_14_method_95_code 262 = .ok (.iconst (-1), 1) := by decide +kernel
theorem d12_plan_263 : decode prog_14_method_95_code 263 = .ok (.putfield 505, 3) := by decide +kernel
theorem d12_plan_266 : decode prog_14_method_95_code 266 = .ok (.aload_n 0, 1) := by decide +kernel
theorem d12_plan_267 : decode prog_14_method_95_code 267 = .ok (.iconst 0, 1) := by decide +kernel
theorem d12_plan_268 : decode prog_14_method_95_code 268 = .ok (.invokevirtual 508, 3) := by decide +kernel
theorem d12_plan_271 : decode prog_14_method_95_code 271 = .ok (.iconst 0, 1) := by decide +kernel
theorem d12_plan_272 : decode prog_14_method_95_code 272 = .ok (.istore 5, 2) := by decide +kernel
theorem d12_plan_274 : decode prog_14_method_95_code 274 = .ok (.iload 5, 2) := by decide +kernel
theorem d12_plan_276 : decode prog_14_method_95_code 276 = .ok (.aload_n 0, 1) := by decide +kernel
theorem d12_plan_277 : decode prog_14_method_95_code 277 = .ok (.getfield 184, 3) := by decide +kernel
theorem d12_plan_280 : decode prog_14_method_95_code 280 = .ok (.if_icmp .ge 23, 3) := by decide +kernel
theorem d12_plan_283 : decode prog_14_method_95_code 283 = .ok (.aload_n 0, 1) := by decide +kernel
theorem d12_plan_284 : decode prog_14_method_95_code 284 = .ok (.getfield 35, 3) := by decide +kernel
theorem d12_plan_287 : decode prog_14_method_95_code 287 = .ok (.iload 5, 2) := by decide +kernel
theorem d12_plan_289 : decode prog_14_method_95_code 289 = .ok (.aload_n 0, 1) := by decide +kernel
theorem d12_plan_290 : decode prog_14_method_95_code 290 = .ok (.getfield 148, 3) := by decide +kernel
theorem d12_plan_293 : decode prog_14_method_95_code 293 = .ok (.iload 5, 2) := by decide +kernel
theorem d12_plan_295 : decode prog_14_method_95_code 295 = .ok (.iaload, 1) := by decide +kernel
theorem d12_plan_296 : decode prog_14_method_95_code 296 = .ok (.iastore, 1) := by decide +kernel
theorem d12_plan_297 : decode prog_14_method_95_code 297 = .ok (.iinc 5 1, 3) := by decide +kernel
theorem d12_plan_300 : decode prog_14_method_95_code 300 = .ok (.goto (-26), 3) := by decide +kernel
theorem d12_plan_303 : decode prog_14_method_95_code 303 = .ok (.aload_n 0, 1) := by decide +kernel
theorem d12_plan_304 : decode prog_14_method_95_code 304 = .ok (.aload_n 0, 1) := by decide +kernel
theorem d12_plan_305 : decode prog_14_method_95_code 305 = .ok (.getfield 505, 3) := by decide +kernel
theorem d12_plan_308 : decode prog_14_method_95_code 308 = .ok (.iconst (-1), 1) := by decide +kernel
theorem d12_plan_309 : decode prog_14_method_95_code 309 = .ok (.if_icmp .eq 7, 3) := by decide +kernel
theorem d12_plan_312 : decode prog_14_method_95_code 312 = .ok (.iconst 1, 1) := by decide +kernel
theorem d12_plan_313 : decode prog_14_method_95_code 313 = .ok (.goto 4, 3) := by decide +kernel
theorem d12_plan_316 : decode prog_14_method_95_code 316 = .ok (.iconst 0, 1) := by decide +kernel
theorem d12_plan_317 : decode prog_14_method_95_code 317 = .ok (.putfield 517, 3) := by decide +kernel
theorem d12_plan_320 : decode prog_14_method_95_code 320 = .ok (.aload_n 0, 1) := by decide +kernel
theorem d12_plan_321 : decode prog_14_method_95_code 321 = .ok (.getfield 505, 3) := by decide +kernel
theorem d12_plan_324 : decode prog_14_method_95_code 324 = .ok (.ireturn, 1) := by decide +kernel
theorem d12_planned_0 : decode prog_14_method_96_code 0 = .ok (.aload_n 0, 1) := by decide +kernel
theorem d12_planned_1 : decode prog_14_method_96_code 1 = .ok (.iconst 0, 1) := by decide +kernel
theorem d12_planned_2 : decode prog_14_method_96_code 2 = .ok (.putfield 1, 3) := by decide +kernel
theorem d12_planned_5 : decode prog_14_method_96_code 5 = .ok (.aload_n 0, 1) := by decide +kernel
theorem d12_planned_6 : decode prog_14_method_96_code 6 = .ok (.getfield 517, 3) := by decide +kernel
theorem d12_planned_9 : decode prog_14_method_96_code 9 = .ok (.ifCond .eq 28, 3) := by decide +kernel
theorem d12_planned_12 : decode prog_14_method_96_code 12 = .ok (.aload_n 0, 1) := by decide +kernel
theorem d12_planned_13 : decode prog_14_method_96_code 13 = .ok (.iload_n 1, 1) := by decide +kernel
theorem d12_planned_14 : decode prog_14_method_96_code 14 = .ok (.invokevirtual 187, 3) := by decide +kernel
theorem d12_planned_17 : decode prog_14_method_96_code 17 = .ok (.ifCond .eq 20, 3) := by decide +kernel
theorem d12_planned_20 : decode prog_14_method_96_code 20 = .ok (.aload_n 0, 1) := by decide +kernel
theorem d12_planned_21 : decode prog_14_method_96_code 21 = .ok (.iload_n 1, 1) := by decide +kernel
theorem d12_planned_22 : decode prog_14_method_96_code 22 = .ok (.invokevirtual 487, 3) := by decide +kernel
theorem d12_planned_25 : decode prog_14_method_96_code 25 = .ok (.ifCond .eq 12, 3) := by decide +kernel
theorem d12_planned_28 : decode prog_14_method_96_code 28 = .ok (.aload_n 0, 1) := by decide +kernel
theorem d12_planned_29 : decode prog_14_method_96_code 29 = .ok (.getfield 145, 3) := by decide +kernel
theorem d12_planned_32 : decode prog_14_method_96_code 32 = .ok (.iload_n 1, 1) := by decide +kernel
theorem d12_planned_33 : decode prog_14_method_96_code 33 = .ok (.iaload, 1) := by decide +kernel
theorem d12_planned_34 : decode prog_14_method_96_code 34 = .ok (.goto 5, 3) := by decide +kernel
theorem d12_planned_37 : decode prog_14_method_96_code 37 = .ok (.bipush (-2), 2) := by decide +kernel
theorem d12_planned_39 : decode prog_14_method_96_code 39 = .ok (.ireturn, 1) := by decide +kernel
theorem d12_isFree_0 : decode prog_14_method_97_code 0 = .ok (.aload_n 0, 1) := by decide +kernel
theorem d12_isFree_1 : decode prog_14_method_97_code 1 = .ok (.iload_n 2, 1) := by decide +kernel
theorem d12_isFree_2 : decode prog_14_method_97_code 2 = .ok (.invokevirtual 190, 3) := by decide +kernel
theorem d12_isFree_5 : decode prog_14_method_97_code 5 = .ok (.istore 4, 2) := by decide +kernel
theorem d12_isFree_7 : decode prog_14_method_97_code 7 = .ok (.iload 4, 2) := by decide +kernel
theorem d12_isFree_9 : decode prog_14_method_97_code 9 = .ok (.iconst (-1), 1) := by decide +kernel
theorem d12_isFree_10 : decode prog_14_method_97_code 10 = .ok (.if_icmp .eq 9, 3) := by decide +kernel
theorem d12_isFree_13 : decode prog_14_method_97_code 13 = .ok (.iload 4, 2) := by decide +kernel
theorem d12_isFree_15 : decode prog_14_method_97_code 15 = .ok (.iload_n 1, 1) := by decide +kernel
theorem d12_isFree_16 : decode prog_14_method_97_code 16 = .ok (.if_icmp .ne 22, 3) := by decide +kernel
theorem d12_isFree_19 : decode prog_14_method_97_code 19 = .ok (.aload_n 0, 1) := by decide +kernel
theorem d12_isFree_20 : decode prog_14_method_97_code 20 = .ok (.iload_n 2, 1) := by decide +kernel
theorem d12_isFree_21 : decode prog_14_method_97_code 21 = .ok (.iload_n 3, 1) := by decide +kernel
theorem d12_isFree_22 : decode prog_14_method_97_code 22 = .ok (.invokevirtual 197, 3) := by decide +kernel
theorem d12_isFree_25 : decode prog_14_method_97_code 25 = .ok (.aload_n 0, 1) := by decide +kernel
theorem d12_isFree_26 : decode prog_14_method_97_code 26 = .ok (.getfield 26, 3) := by decide +kernel
theorem d12_isFree_29 : decode prog_14_method_97_code 29 = .ok (.iload_n 1, 1) := by decide +kernel
theorem d12_isFree_30 : decode prog_14_method_97_code 30 = .ok (.iaload, 1) := by decide +kernel
theorem d12_isFree_31 : decode prog_14_method_97_code 31 = .ok (.if_icmp .lt 7, 3) := by decide +kernel
theorem d12_isFree_34 : decode prog_14_method_97_code 34 = .ok (.iconst 1, 1) := by decide +kernel
theorem d12_isFree_35 : decode prog_14_method_97_code 35 = .ok (.goto 4, 3) := by decide +kernel
theorem d12_isFree_38 : decode prog_14_method_97_code 38 = .ok (.iconst 0, 1) := by decide +kernel
theorem d12_isFree_39 : decode prog_14_method_97_code 39 = .ok (.ireturn, 1) := by decide +kernel
theorem d12_isShore_0 : decode prog_14_method_98_code 0 = .ok (.iload_n 0, 1) := by decide +kernel
theorem d12_isShore_1 : decode prog_14_method_98_code 1 = .ok (.bipush 12, 2) := by decide +kernel
theorem d12_isShore_3 : decode prog_14_method_98_code 3 = .ok (.idiv, 1) := by decide +kernel
theorem d12_isShore_4 : decode prog_14_method_98_code 4 = .ok (.ifCond .eq 11, 3) := by decide +kernel
theorem d12_isShore_7 : decode prog_14_method_98_code 7 = .ok (.iload_n 0, 1) := by decide +kernel
theorem d12_isShore_8 : decode prog_14_method_98_code 8 = .ok (.bipush 12, 2) := by decide +kernel
theorem d12_isShore_10 : decode prog_14_method_98_code 10 = .ok (.idiv, 1) := by decide +kernel
theorem d12_isShore_11 : decode prog_14_method_98_code 11 = .ok (.iconst 5, 1) := by decide +kernel
theorem d12_isShore_12 : decode prog_14_method_98_code 12 = .ok (.if_icmp .ne 7, 3) := by decide +kernel
theorem d12_isShore_15 : decode prog_14_method_98_code 15 = .ok (.iconst 1, 1) := by decide +kernel
theorem d12_isShore_16 : decode prog_14_method_98_code 16 = .ok (.goto 4, 3) := by decide +kernel
theorem d12_isShore_19 : decode prog_14_method_98_code 19 = .ok (.iconst 0, 1) := by decide +kernel
theorem d12_isShore_20 : decode prog_14_method_98_code 20 = .ok (.ireturn, 1) := by decide +kernel
abbrev m12_weighs : MD := ("MillBoatsModel", ⟨"MillBoatsModel", "weighs", "()I"⟩, prog_14_method_92_code, 3, (some Jvm.ClassFile.FieldType.int))
theorem k12_weighs : okY m12_weighs.2.1 0 := ⟨by decide +kernel, by decide +kernel, by decide +kernel⟩
def f12_weighs_p68 (K4 : St → Nat → Int32 → Int32 → Option (Int32 × St)) (σ : St) (v0 : Nat) (v1 : Int32) (v2 : Int32) : Option (Int32 × St) :=
  lt (v2 + (1 : Int32)) fun y26 => (
  K4 σ v0 v1 y26)
set_option maxRecDepth 20000 in
theorem s12_weighs_p68 {K4 : St → Nat → Int32 → Int32 → Option (Int32 × St)} (hK4 : ∀ (σ : St) (v0 : Nat) (v1 : Int32) (v2 : Int32) (r : Int32) (τ : St), K4 σ v0 v1 v2 = some (r, τ) → Ev 5 m12_weighs 4 [(0, .ref v0), (1, .int v1), (2, .int v2)] [] σ (some (.int r)) τ) : ∀ (σ : St) (v0 : Nat) (v1 : Int32) (v2 : Int32) (r : Int32) (τ : St), f12_weighs_p68 K4 σ v0 v1 v2 = some (r, τ) → Ev 5 m12_weighs 68 [(0, .ref v0), (1, .int v1), (2, .int v2)] [] σ (some (.int r)) τ := by
  intro σ v0 v1 v2 r τ hf
  unfold f12_weighs_p68 at hf
  obtain ⟨y26, e27, hf⟩ := lt_some hf
  refine ev_iinc (lv2 := [(2, .int y26), (0, .ref v0), (1, .int v1)]) (i := 2) (q := 2) (v := y26) (n := 1) rfl (by rw [ci_1]; exact e27.symm) (by decide) rfl d12_weighs_68 ?_
  refine ev_goto (tgt := 4) (by decide) d12_weighs_71 ?_
  exact Ev.sub [1, 2, 0] rfl (hK4 _ _ _ _ _ _ hf)
def f12_weighs_p56 (K4 : St → Nat → Int32 → Int32 → Option (Int32 × St)) (σ : St) (v0 : Nat) (v1 : Int32) (v2 : Int32) : Option (Int32 × St) :=
  gd (ob σ v0 12) (
  bd (f12_powerOf σ v0 v2 (sI σ v0 69)) fun r29 t30 => (
  lt (v1 + r29) fun y33 => (
  f12_weighs_p68 K4 t30 v0 y33 v2)))
set_option maxRecDepth 20000 in
theorem s12_weighs_p56 {K4 : St → Nat → Int32 → Int32 → Option (Int32 × St)} (hK4 : ∀ (σ : St) (v0 : Nat) (v1 : Int32) (v2 : Int32) (r : Int32) (τ : St), K4 σ v0 v1 v2 = some (r, τ) → Ev 5 m12_weighs 4 [(0, .ref v0), (1, .int v1), (2, .int v2)] [] σ (some (.int r)) τ) : ∀ (σ : St) (v0 : Nat) (v1 : Int32) (v2 : Int32) (r : Int32) (τ : St), f12_weighs_p56 K4 σ v0 v1 v2 = some (r, τ) → Ev 5 m12_weighs 56 [(0, .ref v0), (1, .int v1), (2, .int v2)] [] σ (some (.int r)) τ := by
  intro σ v0 v1 v2 r τ hf
  unfold f12_weighs_p56 at hf
  refine ev_iload_n (j := 1) (i := 1) (q := 1) rfl rfl d12_weighs_56 ?_
  refine ev_aload_n (j := 0) (i := 0) (q := 0) rfl rfl d12_weighs_57 ?_
  refine ev_iload_n (j := 2) (i := 2) (q := 2) rfl rfl d12_weighs_58 ?_
  refine ev_aload_n (j := 0) (i := 0) (q := 0) rfl rfl d12_weighs_59 ?_
  obtain ⟨h28, hf⟩ := gd_some hf
  refine ev_getI cls12 (j := 69) (by decide) rfl w1320 h28 d12_weighs_60 ?_
  obtain ⟨r29, t30, k31, hf⟩ := bd_some hf
  have q32 := s12_powerOf _ _ _ _ _ _ k31
  refine ev_callV (vs := [.int v2, .int (sI σ v0 69)]) (sk := [.int v1]) cls12 h28 q32 (by decide) (Nat.le_of_ble_eq_true rfl) w1548 w1550 ws56 w19 w1551 k12_powerOf rfl (Nat.le_of_ble_eq_true rfl) d12_weighs_63 ?_
  refine ev_iadd d12_weighs_66 ?_
  obtain ⟨y33, e34, hf⟩ := lt_some hf
  refine ev_nmI e34 ?_
  refine ev_istore_n (lv2 := [(1, .int y33), (0, .ref v0), (2, .int v2)]) (j := 1) (i := 1) rfl (by decide) rfl d12_weighs_67 ?_
  exact Ev.sub [1, 0, 2] rfl (s12_weighs_p68 hK4 _ _ _ _ _ _ hf)
def f12_weighs_p79 : Nat → St → Nat → Int32 → Int32 → Option (Int32 × St)
  | 0, _, _, _, _ => none
  | n + 1, σ, v0, v1, v2 =>
  gd (ob σ v0 12) (
  (if v2 ≤ (sI σ v0 72) then
  bd (f12_freeLanes σ v0 v2 (sI σ v0 69)) fun r37 t38 => (
  lt (sR t38 v0 67) fun b41 => (
  gd (nz b41) (
  gd (ob t38 b41 14) (
  gd (inb t38 b41 v2) (
  (if r37 < (sI t38 b41 (ix v2)) then
  some ((-1 : Int32), t38)
  else
  lt (v2 + (1 : Int32)) fun y47 => (
  (f12_weighs_p79 n) t38 v0 v1 y47)))))))
  else
  some (v1, σ)))
set_option maxRecDepth 20000 in
theorem s12_weighs_p79 : ∀ (n : Nat) (σ : St) (v0 : Nat) (v1 : Int32) (v2 : Int32) (r : Int32) (τ : St), f12_weighs_p79 n σ v0 v1 v2 = some (r, τ) → Ev 5 m12_weighs 79 [(0, .ref v0), (1, .int v1), (2, .int v2)] [] σ (some (.int r)) τ := by
  intro n
  induction n with
  | zero =>
    intro σ v0 v1 v2 r τ hf
    cases hf
  | succ n ih =>
    intro σ v0 v1 v2 r τ hf
    rw [f12_weighs_p79] at hf
    refine ev_iload_n (j := 2) (i := 2) (q := 2) rfl rfl d12_weighs_79 ?_
    refine ev_aload_n (j := 0) (i := 0) (q := 0) rfl rfl d12_weighs_80 ?_
    obtain ⟨h35, hf⟩ := gd_some hf
    refine ev_getI cls12 (j := 72) (by decide) rfl w1323 h35 d12_weighs_81 ?_
    rcases ite_some hf with ⟨c36, hf⟩ | ⟨c36, hf⟩
    · refine ev_icmp_gt_P (tgt := 113) c36 (by decide) d12_weighs_84 ?_
      refine ev_aload_n (j := 0) (i := 0) (q := 0) rfl rfl d12_weighs_87 ?_
      refine ev_iload_n (j := 2) (i := 2) (q := 2) rfl rfl d12_weighs_88 ?_
      refine ev_aload_n (j := 0) (i := 0) (q := 0) rfl rfl d12_weighs_89 ?_
      refine ev_getI cls12 (j := 69) (by decide) rfl w1320 h35 d12_weighs_90 ?_
      obtain ⟨r37, t38, k39, hf⟩ := bd_some hf
      have q40 := s12_freeLanes _ _ _ _ _ _ k39
      refine ev_callV (vs := [.int v2, .int (sI σ v0 69)]) (sk := []) cls12 h35 q40 (by decide) (Nat.le_of_ble_eq_true rfl) w1811 w1813 ws97 w19 w1814 k12_freeLanes rfl (Nat.le_of_ble_eq_true rfl) d12_weighs_93 ?_
      refine ev_aload_n (j := 0) (i := 0) (q := 0) rfl rfl d12_weighs_96 ?_
      obtain ⟨b41, e42, hf⟩ := lt_some hf
      obtain ⟨h43, hf⟩ := gd_some hf
      refine ev_getRb cls12 (j := 67) (by decide) rfl w1318 (mono_ob q40.1 h35) e42 (nz_ne h43) d12_weighs_97 ?_
      refine ev_iload_n (j := 2) (i := 2) (q := 2) rfl rfl d12_weighs_100 ?_
      obtain ⟨h44, hf⟩ := gd_some hf
      obtain ⟨h45, hf⟩ := gd_some hf
      refine ev_iald h44 h45 d12_weighs_101 ?_
      rcases ite_some hf with ⟨c46, hf⟩ | ⟨c46, hf⟩
      · refine ev_icmp_ge_P (tgt := 107) c46 (by decide) d12_weighs_102 ?_
        refine ev_iconst ci_m1 d12_weighs_105 ?_
        obtain ⟨rfl, rfl⟩ := ret_some hf
        exact ev_iret rfl d12_weighs_106
      · refine ev_icmp_ge_Q (tgt := 107) c46 (by decide) d12_weighs_102 ?_
        obtain ⟨y47, e48, hf⟩ := lt_some hf
        refine ev_iinc (lv2 := [(2, .int y47), (0, .ref v0), (1, .int v1)]) (i := 2) (q := 2) (v := y47) (n := 1) rfl (by rw [ci_1]; exact e48.symm) (by decide) rfl d12_weighs_107 ?_
        refine ev_goto (tgt := 79) (by decide) d12_weighs_110 ?_
        exact Ev.sub [1, 2, 0] rfl (ih _ _ _ _ _ _ hf)
    · refine ev_icmp_gt_Q (tgt := 113) c36 (by decide) d12_weighs_84 ?_
      refine ev_iload_n (j := 1) (i := 1) (q := 1) rfl rfl d12_weighs_113 ?_
      obtain ⟨rfl, rfl⟩ := ret_some hf
      exact ev_iret rfl d12_weighs_114
def f12_weighs_p4 : Nat → St → Nat → Int32 → Int32 → Option (Int32 × St)
  | 0, _, _, _, _ => none
  | n + 1, σ, v0, v1, v2 =>
  gd (ob σ v0 12) (
  (if v2 < (sI σ v0 5) then
  lt (sR σ v0 9) fun b3 => (
  gd (nz b3) (
  gd (ob σ b3 14) (
  gd (inb σ b3 v2) (
  (if (sI σ b3 (ix v2)) < (0 : Int32) then
  f12_weighs_p68 (f12_weighs_p4 n) σ v0 v1 v2
  else
  bd (f12_isIn σ v0 v2) fun r9 t10 => (
  (if r9 = (0 : Int32) then
  f12_weighs_p56 (f12_weighs_p4 n) t10 v0 v1 v2
  else
  bd (f12_pullOf t10 v0 v2 (sI t10 v0 69) (sI t10 v0 70)) fun r14 t15 => (
  lt (sR t15 v0 8) fun b18 => (
  gd (nz b18) (
  gd (ob t15 b18 14) (
  gd (inb t15 b18 v2) (
  (if r14 ≤ (sI t15 b18 (ix v2)) then
  f12_weighs_p56 (f12_weighs_p4 n) t15 v0 v1 v2
  else
  some ((-1 : Int32), t15))))))))))))))
  else
  lt (sI σ v0 71) fun y24 => (
  f12_weighs_p79 FU σ v0 v1 y24)))
set_option maxRecDepth 20000 in
theorem s12_weighs_p4 : ∀ (n : Nat) (σ : St) (v0 : Nat) (v1 : Int32) (v2 : Int32) (r : Int32) (τ : St), f12_weighs_p4 n σ v0 v1 v2 = some (r, τ) → Ev 5 m12_weighs 4 [(0, .ref v0), (1, .int v1), (2, .int v2)] [] σ (some (.int r)) τ := by
  intro n
  induction n with
  | zero =>
    intro σ v0 v1 v2 r τ hf
    cases hf
  | succ n ih =>
    intro σ v0 v1 v2 r τ hf
    rw [f12_weighs_p4] at hf
    refine ev_iload_n (j := 2) (i := 2) (q := 2) rfl rfl d12_weighs_4 ?_
    refine ev_aload_n (j := 0) (i := 0) (q := 0) rfl rfl d12_weighs_5 ?_
    obtain ⟨h1, hf⟩ := gd_some hf
    refine ev_getI cls12 (j := 5) (by decide) rfl w1256 h1 d12_weighs_6 ?_
    rcases ite_some hf with ⟨c2, hf⟩ | ⟨c2, hf⟩
    · refine ev_icmp_ge_P (tgt := 74) c2 (by decide) d12_weighs_9 ?_
      refine ev_aload_n (j := 0) (i := 0) (q := 0) rfl rfl d12_weighs_12 ?_
      obtain ⟨b3, e4, hf⟩ := lt_some hf
      obtain ⟨h5, hf⟩ := gd_some hf
      refine ev_getRb cls12 (j := 9) (by decide) rfl w1260 h1 e4 (nz_ne h5) d12_weighs_13 ?_
      refine ev_iload_n (j := 2) (i := 2) (q := 2) rfl rfl d12_weighs_16 ?_
      obtain ⟨h6, hf⟩ := gd_some hf
      obtain ⟨h7, hf⟩ := gd_some hf
      refine ev_iald h6 h7 d12_weighs_17 ?_
      rcases ite_some hf with ⟨c8, hf⟩ | ⟨c8, hf⟩
      · refine ev_if_ge_P (tgt := 24) c8 (by decide) d12_weighs_18 ?_
        refine ev_goto (tgt := 68) (by decide) d12_weighs_21 ?_
        exact Ev.sub [0, 1, 2] rfl (s12_weighs_p68 ih _ _ _ _ _ _ hf)
      · refine ev_if_ge_Q (tgt := 24) c8 (by decide) d12_weighs_18 ?_
        refine ev_aload_n (j := 0) (i := 0) (q := 0) rfl rfl d12_weighs_24 ?_
        refine ev_iload_n (j := 2) (i := 2) (q := 2) rfl rfl d12_weighs_25 ?_
        obtain ⟨r9, t10, k11, hf⟩ := bd_some hf
        have q12 := s12_isIn _ _ _ _ _ k11
        refine ev_callV (vs := [.int v2]) (sk := []) cls12 h1 q12 (by decide) (Nat.le_of_ble_eq_true rfl) w1868 w1870 ws106 w19 w1871 k12_isIn rfl (Nat.le_of_ble_eq_true rfl) d12_weighs_26 ?_
        rcases ite_some hf with ⟨c13, hf⟩ | ⟨c13, hf⟩
        · refine ev_if_eq_P (tgt := 56) c13 (by decide) d12_weighs_29 ?_
          exact Ev.sub [0, 1, 2] rfl (s12_weighs_p56 ih _ _ _ _ _ _ hf)
        · refine ev_if_eq_Q (tgt := 56) c13 (by decide) d12_weighs_29 ?_
          refine ev_aload_n (j := 0) (i := 0) (q := 0) rfl rfl d12_weighs_32 ?_
          refine ev_iload_n (j := 2) (i := 2) (q := 2) rfl rfl d12_weighs_33 ?_
          refine ev_aload_n (j := 0) (i := 0) (q := 0) rfl rfl d12_weighs_34 ?_
          refine ev_getI cls12 (j := 69) (by decide) rfl w1320 (mono_ob q12.1 h1) d12_weighs_35 ?_
          refine ev_aload_n (j := 0) (i := 0) (q := 0) rfl rfl d12_weighs_38 ?_
          refine ev_getI cls12 (j := 70) (by decide) rfl w1321 (mono_ob q12.1 h1) d12_weighs_39 ?_
          obtain ⟨r14, t15, k16, hf⟩ := bd_some hf
          have q17 := s12_pullOf _ _ _ _ _ _ _ k16
          refine ev_callV (vs := [.int v2, .int (sI t10 v0 69), .int (sI t10 v0 70)]) (sk := []) cls12 (mono_ob q12.1 h1) q17 (by decide) (Nat.le_of_ble_eq_true rfl) w1568 w1570 ws60 w19 w1571 k12_pullOf rfl (Nat.le_of_ble_eq_true rfl) d12_weighs_42 ?_
          refine ev_aload_n (j := 0) (i := 0) (q := 0) rfl rfl d12_weighs_45 ?_
          obtain ⟨b18, e19, hf⟩ := lt_some hf
          obtain ⟨h20, hf⟩ := gd_some hf
          refine ev_getRb cls12 (j := 8) (by decide) rfl w1259 (mono_ob q17.1 (mono_ob q12.1 h1)) e19 (nz_ne h20) d12_weighs_46 ?_
          refine ev_iload_n (j := 2) (i := 2) (q := 2) rfl rfl d12_weighs_49 ?_
          obtain ⟨h21, hf⟩ := gd_some hf
          obtain ⟨h22, hf⟩ := gd_some hf
          refine ev_iald h21 h22 d12_weighs_50 ?_
          rcases ite_some hf with ⟨c23, hf⟩ | ⟨c23, hf⟩
          · refine ev_icmp_le_P (tgt := 56) c23 (by decide) d12_weighs_51 ?_
            exact Ev.sub [0, 1, 2] rfl (s12_weighs_p56 ih _ _ _ _ _ _ hf)
          · refine ev_icmp_le_Q (tgt := 56) c23 (by decide) d12_weighs_51 ?_
            refine ev_iconst ci_m1 d12_weighs_54 ?_
            obtain ⟨rfl, rfl⟩ := ret_some hf
            exact ev_iret rfl d12_weighs_55
    · refine ev_icmp_ge_Q (tgt := 74) c2 (by decide) d12_weighs_9 ?_
      refine ev_aload_n (j := 0) (i := 0) (q := 0) rfl rfl d12_weighs_74 ?_
      refine ev_getI cls12 (j := 71) (by decide) rfl w1322 h1 d12_weighs_75 ?_
      obtain ⟨y24, e25, hf⟩ := lt_some hf
      refine ev_nmI e25 ?_
      refine ev_istore_n (lv2 := [(2, .int y24), (0, .ref v0), (1, .int v1)]) (j := 2) (i := 2) rfl (by decide) rfl d12_weighs_78 ?_
      exact Ev.sub [1, 2, 0] rfl (s12_weighs_p79 FU _ _ _ _ _ _ hf)
def f12_weighs (σ : St) (v0 : Nat) : Option (Int32 × St) :=
  f12_weighs_p4 FU σ v0 (0 : Int32) (0 : Int32)
set_option maxRecDepth 50000 in
theorem s12_weighs : ∀ (σ : St) (v0 : Nat) (r : Int32) (τ : St), f12_weighs σ v0 = some (r, τ) → Call 5 m12_weighs [.ref v0] σ (some (.int r)) τ := by
  intro σ v0 r τ hf
  unfold f12_weighs at hf
  refine Call.of (by decide +kernel) rfl (Nat.le_of_ble_eq_true rfl) ?_
  refine ev_iconst ci_0 d12_weighs_0 ?_
  refine ev_istore_n (lv2 := [(1, .int (0 : Int32)), (0, .ref v0)]) (j := 1) (i := 1) rfl (by decide) rfl d12_weighs_1 ?_
  refine ev_iconst ci_0 d12_weighs_2 ?_
  refine ev_istore_n (lv2 := [(2, .int (0 : Int32)), (1, .int (0 : Int32)), (0, .ref v0)]) (j := 2) (i := 2) rfl (by decide) rfl d12_weighs_3 ?_
  exact Ev.sub [2, 1, 0] rfl (s12_weighs_p4 FU _ _ _ _ _ _ hf)
abbrev m12_tries : MD := ("MillBoatsModel", ⟨"MillBoatsModel", "tries", "(I)V"⟩, prog_14_method_93_code, 4, (none : Option Jvm.ClassFile.FieldType))
theorem k12_tries : okY m12_tries.2.1 1 := ⟨by decide +kernel, by decide +kernel, by decide +kernel⟩
def f12_tries_p29 (F : St → Nat → Int32 → Option (Unit × St)) : Nat → St → Nat → Int32 → Option (Unit × St)
  | 0, _, _, _ => none
  | n + 1, σ, v0, v3 =>
  gd (ob σ v0 12) (
  (if v3 < (sI σ v0 5) then
  lt (sR σ v0 63) fun b21 => (
  gd (nz b21) (
  lt (sR σ v0 9) fun b24 => (
  gd (nz b24) (
  gd (ob σ b24 14) (
  gd (inb σ b24 v3) (
  gd (ob σ b21 14) (
  gd (inb σ b21 v3) (
  lt (wI σ b21 (ix v3) (sI σ b24 (ix v3))) fun t31 => (
  lt (v3 + (1 : Int32)) fun y33 => (
  (f12_tries_p29 F n) t31 v0 y33))))))))))
  else
  some ((), σ)))
set_option maxRecDepth 20000 in
theorem s12_tries_p29 {F : St → Nat → Int32 → Option (Unit × St)} {dF : Nat} (hB : 6 ≤ dF) (hF : ∀ (σ : St) (a0 : Nat) (a1 : Int32) (r : Unit) (τ : St), F σ a0 a1 = some (r, τ) → Call dF m12_tries [.ref a0, .int a1] σ none τ) : ∀ (n : Nat) (σ : St) (v0 : Nat) (v3 : Int32) (r : Unit) (τ : St), f12_tries_p29 F n σ v0 v3 = some (r, τ) → Ev (dF + 1) m12_tries 29 [(0, .ref v0), (3, .int v3)] [] σ none τ := by
  intro n
  induction n with
  | zero =>
    intro σ v0 v3 r τ hf
    cases hf
  | succ n ih =>
    intro σ v0 v3 r τ hf
    rw [f12_tries_p29] at hf
    refine ev_iload_n (j := 3) (i := 3) (q := 1) rfl rfl d12_tries_29 ?_
    refine ev_aload_n (j := 0) (i := 0) (q := 0) rfl rfl d12_tries_30 ?_
    obtain ⟨h19, hf⟩ := gd_some hf
    refine ev_getI cls12 (j := 5) (by decide) rfl w1256 h19 d12_tries_31 ?_
    rcases ite_some hf with ⟨c20, hf⟩ | ⟨c20, hf⟩
    · refine ev_icmp_ge_P (tgt := 55) c20 (by decide) d12_tries_34 ?_
      refine ev_aload_n (j := 0) (i := 0) (q := 0) rfl rfl d12_tries_37 ?_
      obtain ⟨b21, e22, hf⟩ := lt_some hf
      obtain ⟨h23, hf⟩ := gd_some hf
      refine ev_getRb cls12 (j := 63) (by decide) rfl w1314 h19 e22 (nz_ne h23) d12_tries_38 ?_
      refine ev_iload_n (j := 3) (i := 3) (q := 1) rfl rfl d12_tries_41 ?_
      refine ev_aload_n (j := 0) (i := 0) (q := 0) rfl rfl d12_tries_42 ?_
      obtain ⟨b24, e25, hf⟩ := lt_some hf
      obtain ⟨h26, hf⟩ := gd_some hf
      refine ev_getRb cls12 (j := 9) (by decide) rfl w1260 h19 e25 (nz_ne h26) d12_tries_43 ?_
      refine ev_iload_n (j := 3) (i := 3) (q := 1) rfl rfl d12_tries_46 ?_
      obtain ⟨h27, hf⟩ := gd_some hf
      obtain ⟨h28, hf⟩ := gd_some hf
      refine ev_iald h27 h28 d12_tries_47 ?_
      obtain ⟨h29, hf⟩ := gd_some hf
      obtain ⟨h30, hf⟩ := gd_some hf
      obtain ⟨t31, e32, hf⟩ := lt_some hf
      refine ev_iast h29 h30 d12_tries_48 (ev_nmS e32 ?_)
      obtain ⟨y33, e34, hf⟩ := lt_some hf
      refine ev_iinc (lv2 := [(3, .int y33), (0, .ref v0)]) (i := 3) (q := 1) (v := y33) (n := 1) rfl (by rw [ci_1]; exact e34.symm) (by decide) rfl d12_tries_49 ?_
      refine ev_goto (tgt := 29) (by decide) d12_tries_52 ?_
      exact Ev.sub [1, 0] rfl (ih _ _ _ _ _ hf)
    · refine ev_icmp_ge_Q (tgt := 55) c20 (by decide) d12_tries_34 ?_
      obtain ⟨-, rfl⟩ := ret_some hf
      exact ev_vret rfl d12_tries_55
def f12_tries_p145 (F : St → Nat → Int32 → Option (Unit × St)) (K74 : St → Nat → Int32 → Int32 → Option (Unit × St)) (σ : St) (v0 : Nat) (v1 : Int32) (v2 : Int32) : Option (Unit × St) :=
  lt (v2 + (1 : Int32)) fun y76 => (
  K74 σ v0 v1 y76)
set_option maxRecDepth 20000 in
theorem s12_tries_p145 {F : St → Nat → Int32 → Option (Unit × St)} {dF : Nat} (hB : 6 ≤ dF) (hF : ∀ (σ : St) (a0 : Nat) (a1 : Int32) (r : Unit) (τ : St), F σ a0 a1 = some (r, τ) → Call dF m12_tries [.ref a0, .int a1] σ none τ) {K74 : St → Nat → Int32 → Int32 → Option (Unit × St)} (hK74 : ∀ (σ : St) (v0 : Nat) (v1 : Int32) (v2 : Int32) (r : Unit) (τ : St), K74 σ v0 v1 v2 = some (r, τ) → Ev (dF + 1) m12_tries 74 [(0, .ref v0), (1, .int v1), (2, .int v2)] [] σ none τ) : ∀ (σ : St) (v0 : Nat) (v1 : Int32) (v2 : Int32) (r : Unit) (τ : St), f12_tries_p145 F K74 σ v0 v1 v2 = some (r, τ) → Ev (dF + 1) m12_tries 145 [(0, .ref v0), (1, .int v1), (2, .int v2)] [] σ none τ := by
  intro σ v0 v1 v2 r τ hf
  unfold f12_tries_p145 at hf
  obtain ⟨y76, e77, hf⟩ := lt_some hf
  refine ev_iinc (lv2 := [(2, .int y76), (0, .ref v0), (1, .int v1)]) (i := 2) (q := 2) (v := y76) (n := 1) rfl (by rw [ci_1]; exact e77.symm) (by decide) rfl d12_tries_145 ?_
  refine ev_goto (tgt := 74) (by decide) d12_tries_148 ?_
  exact Ev.sub [1, 2, 0] rfl (hK74 _ _ _ _ _ _ hf)
def f12_tries_p74 (F : St → Nat → Int32 → Option (Unit × St)) : Nat → St → Nat → Int32 → Int32 → Option (Unit × St)
  | 0, _, _, _, _ => none
  | n + 1, σ, v0, v1, v2 =>
  (if v2 < (72 : Int32) then
  gd (ob σ v0 12) (
  bd (f12_within σ (v2 - v2 / (12 : Int32) * (12 : Int32)) (sI σ v0 71) (sI σ v0 72)) fun r37 t38 => (
  (if r37 = (0 : Int32) then
  f12_tries_p145 F (f12_tries_p74 F n) t38 v0 v1 v2
  else
  lt (sR t38 v0 66) fun b42 => (
  gd (nz b42) (
  gd (ob t38 b42 16) (
  gd (inb t38 b42 (((72 : Int32) * v1) + v2)) (
  (if (sI t38 b42 (ix (((72 : Int32) * v1) + v2))) = (0 : Int32) then
  f12_tries_p145 F (f12_tries_p74 F n) t38 v0 v1 v2
  else
  bd (f12_millAt t38 v0 v2) fun r48 t49 => (
  (if r48 = (-1 : Int32) then
  lt (sR t49 v0 9) fun b53 => (
  gd (nz b53) (
  gd (ob t49 b53 14) (
  gd (inb t49 b53 v1) (
  lt (wI t49 b53 (ix v1) v2) fun t58 => (
  bd (F t58 v0 (v1 + (1 : Int32))) fun r60 t61 => (
  lt (sR t61 v0 9) fun b64 => (
  gd (nz b64) (
  gd (ob t61 b64 14) (
  gd (inb t61 b64 v1) (
  lt (wI t61 b64 (ix v1) (-1 : Int32)) fun t69 => (
  f12_tries_p145 F (f12_tries_p74 F n) t69 v0 v1 v2)))))))))))
  else
  f12_tries_p145 F (f12_tries_p74 F n) t49 v0 v1 v2))))))))))
  else
  gd (ob σ v0 12) (
  bd (F σ v0 (v1 + (1 : Int32))) fun r72 t73 => (
  some ((), t73))))
set_option maxRecDepth 20000 in
theorem s12_tries_p74 {F : St → Nat → Int32 → Option (Unit × St)} {dF : Nat} (hB : 6 ≤ dF) (hF : ∀ (σ : St) (a0 : Nat) (a1 : Int32) (r : Unit) (τ : St), F σ a0 a1 = some (r, τ) → Call dF m12_tries [.ref a0, .int a1] σ none τ) : ∀ (n : Nat) (σ : St) (v0 : Nat) (v1 : Int32) (v2 : Int32) (r : Unit) (τ : St), f12_tries_p74 F n σ v0 v1 v2 = some (r, τ) → Ev (dF + 1) m12_tries 74 [(0, .ref v0), (1, .int v1), (2, .int v2)] [] σ none τ := by
  intro n
  induction n with
  | zero =>
    intro σ v0 v1 v2 r τ hf
    cases hf
  | succ n ih =>
    intro σ v0 v1 v2 r τ hf
    rw [f12_tries_p74] at hf
    refine ev_iload_n (j := 2) (i := 2) (q := 2) rfl rfl d12_tries_74 ?_
    refine ev_bipush cb_72 d12_tries_75 ?_
    rcases ite_some hf with ⟨c35, hf⟩ | ⟨c35, hf⟩
    · refine ev_icmp_ge_P (tgt := 151) c35 (by decide) d12_tries_77 ?_
      refine ev_iload_n (j := 2) (i := 2) (q := 2) rfl rfl d12_tries_80 ?_
      refine ev_bipush cb_12 d12_tries_81 ?_
      refine ev_irem (by decide) d12_tries_83 ?_
      refine ev_aload_n (j := 0) (i := 0) (q := 0) rfl rfl d12_tries_84 ?_
      obtain ⟨h36, hf⟩ := gd_some hf
      refine ev_getI cls12 (j := 71) (by decide) rfl w1322 h36 d12_tries_85 ?_
      refine ev_aload_n (j := 0) (i := 0) (q := 0) rfl rfl d12_tries_88 ?_
      refine ev_getI cls12 (j := 72) (by decide) rfl w1323 h36 d12_tries_89 ?_
      obtain ⟨r37, t38, k39, hf⟩ := bd_some hf
      have q40 := s12_within _ _ _ _ _ _ k39
      refine ev_callS (vs := [.int (v2 - v2 / (12 : Int32) * (12 : Int32)), .int (sI σ v0 71), .int (sI σ v0 72)]) (sk := []) q40 (by omega) (Nat.le_of_ble_eq_true rfl) w1497 w1498 w19 w1499 k12_within rfl (Nat.le_of_ble_eq_true rfl) d12_tries_92 ?_
      rcases ite_some hf with ⟨c41, hf⟩ | ⟨c41, hf⟩
      · refine ev_if_eq_P (tgt := 145) c41 (by decide) d12_tries_95 ?_
        exact Ev.sub [0, 1, 2] rfl (s12_tries_p145 hB hF ih _ _ _ _ _ _ hf)
      · refine ev_if_eq_Q (tgt := 145) c41 (by decide) d12_tries_95 ?_
        refine ev_aload_n (j := 0) (i := 0) (q := 0) rfl rfl d12_tries_98 ?_
        obtain ⟨b42, e43, hf⟩ := lt_some hf
        obtain ⟨h44, hf⟩ := gd_some hf
        refine ev_getRb cls12 (j := 66) (by decide) rfl w1317 (mono_ob q40.1 h36) e43 (nz_ne h44) d12_tries_99 ?_
        refine ev_bipush cb_72 d12_tries_102 ?_
        refine ev_iload_n (j := 1) (i := 1) (q := 1) rfl rfl d12_tries_104 ?_
        refine ev_imul d12_tries_105 ?_
        refine ev_iload_n (j := 2) (i := 2) (q := 2) rfl rfl d12_tries_106 ?_
        refine ev_iadd d12_tries_107 ?_
        obtain ⟨h45, hf⟩ := gd_some hf
        obtain ⟨h46, hf⟩ := gd_some hf
        refine ev_zald h45 h46 d12_tries_108 ?_
        rcases ite_some hf with ⟨c47, hf⟩ | ⟨c47, hf⟩
        · refine ev_if_eq_P (tgt := 145) c47 (by decide) d12_tries_109 ?_
          exact Ev.sub [0, 1, 2] rfl (s12_tries_p145 hB hF ih _ _ _ _ _ _ hf)
        · refine ev_if_eq_Q (tgt := 145) c47 (by decide) d12_tries_109 ?_
          refine ev_aload_n (j := 0) (i := 0) (q := 0) rfl rfl d12_tries_112 ?_
          refine ev_iload_n (j := 2) (i := 2) (q := 2) rfl rfl d12_tries_113 ?_
          obtain ⟨r48, t49, k50, hf⟩ := bd_some hf
          have q51 := s12_millAt _ _ _ _ _ k50
          refine ev_callV (vs := [.int v2]) (sk := []) cls12 (mono_ob q40.1 h36) q51 (by omega) (Nat.le_of_ble_eq_true rfl) w1524 w1526 ws53 w19 w1527 k12_millAt rfl (Nat.le_of_ble_eq_true rfl) d12_tries_114 ?_
          refine ev_iconst ci_m1 d12_tries_117 ?_
          rcases ite_some hf with ⟨c52, hf⟩ | ⟨c52, hf⟩
          · refine ev_icmp_eq_P (tgt := 124) c52 (by decide) d12_tries_118 ?_
            refine ev_aload_n (j := 0) (i := 0) (q := 0) rfl rfl d12_tries_124 ?_
            obtain ⟨b53, e54, hf⟩ := lt_some hf
            obtain ⟨h55, hf⟩ := gd_some hf
            refine ev_getRb cls12 (j := 9) (by decide) rfl w1260 (mono_ob q51.1 (mono_ob q40.1 h36)) e54 (nz_ne h55) d12_tries_125 ?_
            refine ev_iload_n (j := 1) (i := 1) (q := 1) rfl rfl d12_tries_128 ?_
            refine ev_iload_n (j := 2) (i := 2) (q := 2) rfl rfl d12_tries_129 ?_
            obtain ⟨h56, hf⟩ := gd_some hf
            obtain ⟨h57, hf⟩ := gd_some hf
            obtain ⟨t58, e59, hf⟩ := lt_some hf
            refine ev_iast h56 h57 d12_tries_130 (ev_nmS e59 ?_)
            refine ev_aload_n (j := 0) (i := 0) (q := 0) rfl rfl d12_tries_131 ?_
            refine ev_iload_n (j := 1) (i := 1) (q := 1) rfl rfl d12_tries_132 ?_
            refine ev_iconst ci_1 d12_tries_133 ?_
            refine ev_iadd d12_tries_134 ?_
            obtain ⟨r60, t61, k62, hf⟩ := bd_some hf
            have q63 := hF _ _ _ _ _ k62
            refine ev_callV (vs := [.int (v1 + (1 : Int32))]) (sk := []) cls12 (mono_ob (mono_eI e59) (mono_ob q51.1 (mono_ob q40.1 h36))) q63 (by omega) (Nat.le_of_ble_eq_true rfl) w1872 w1874 ws107 w19 w1875 k12_tries rfl (Nat.le_of_ble_eq_true rfl) d12_tries_135 ?_
            refine ev_aload_n (j := 0) (i := 0) (q := 0) rfl rfl d12_tries_138 ?_
            obtain ⟨b64, e65, hf⟩ := lt_some hf
            obtain ⟨h66, hf⟩ := gd_some hf
            refine ev_getRb cls12 (j := 9) (by decide) rfl w1260 (mono_ob q63.1 (mono_ob (mono_eI e59) (mono_ob q51.1 (mono_ob q40.1 h36)))) e65 (nz_ne h66) d12_tries_139 ?_
            refine ev_iload_n (j := 1) (i := 1) (q := 1) rfl rfl d12_tries_142 ?_
            refine ev_iconst ci_m1 d12_tries_143 ?_
            obtain ⟨h67, hf⟩ := gd_some hf
            obtain ⟨h68, hf⟩ := gd_some hf
            obtain ⟨t69, e70, hf⟩ := lt_some hf
            refine ev_iast h67 h68 d12_tries_144 (ev_nmS e70 ?_)
            exact Ev.sub [0, 1, 2] rfl (s12_tries_p145 hB hF ih _ _ _ _ _ _ hf)
          · refine ev_icmp_eq_Q (tgt := 124) c52 (by decide) d12_tries_118 ?_
            refine ev_goto (tgt := 145) (by decide) d12_tries_121 ?_
            exact Ev.sub [0, 1, 2] rfl (s12_tries_p145 hB hF ih _ _ _ _ _ _ hf)
    · refine ev_icmp_ge_Q (tgt := 151) c35 (by decide) d12_tries_77 ?_
      refine ev_aload_n (j := 0) (i := 0) (q := 0) rfl rfl d12_tries_151 ?_
      refine ev_iload_n (j := 1) (i := 1) (q := 1) rfl rfl d12_tries_152 ?_
      refine ev_iconst ci_1 d12_tries_153 ?_
      refine ev_iadd d12_tries_154 ?_
      obtain ⟨h71, hf⟩ := gd_some hf
      obtain ⟨r72, t73, k74, hf⟩ := bd_some hf
      have q75 := hF _ _ _ _ _ k74
      refine ev_callV (vs := [.int (v1 + (1 : Int32))]) (sk := []) cls12 h71 q75 (by omega) (Nat.le_of_ble_eq_true rfl) w1872 w1874 ws107 w19 w1875 k12_tries rfl (Nat.le_of_ble_eq_true rfl) d12_tries_155 ?_
      obtain ⟨-, rfl⟩ := ret_some hf
      exact ev_vret rfl d12_tries_158
def f12_tries_b (F : St → Nat → Int32 → Option (Unit × St)) (σ : St) (v0 : Nat) (v1 : Int32) : Option (Unit × St) :=
  gd (ob σ v0 12) (
  (if v1 = (sI σ v0 5) then
  bd (f12_weighs σ v0) fun r3 t4 => (
  (if r3 ≤ (sI t4 v0 73) then
  some ((), t4)
  else
  lt (wI t4 v0 73 r3) fun t8 => (
  f12_tries_p29 F FU t8 v0 (0 : Int32))))
  else
  bd (f12_isIn σ v0 v1) fun r10 t11 => (
  (if r10 = (0 : Int32) then
  bd (F t11 v0 (v1 + (1 : Int32))) fun r15 t16 => (
  some ((), t16))
  else
  f12_tries_p74 F FU t11 v0 v1 (0 : Int32)))))
set_option maxRecDepth 50000 in
theorem s12_tries_b {F : St → Nat → Int32 → Option (Unit × St)} {dF : Nat} (hB : 6 ≤ dF) (hF : ∀ (σ : St) (a0 : Nat) (a1 : Int32) (r : Unit) (τ : St), F σ a0 a1 = some (r, τ) → Call dF m12_tries [.ref a0, .int a1] σ none τ) : ∀ (σ : St) (v0 : Nat) (v1 : Int32) (r : Unit) (τ : St), f12_tries_b F σ v0 v1 = some (r, τ) → Call (dF + 1) m12_tries [.ref v0, .int v1] σ none τ := by
  intro σ v0 v1 r τ hf
  unfold f12_tries_b at hf
  refine Call.of (by decide +kernel) rfl (Nat.le_of_ble_eq_true rfl) ?_
  refine ev_iload_n (j := 1) (i := 1) (q := 1) rfl rfl d12_tries_0 ?_
  refine ev_aload_n (j := 0) (i := 0) (q := 0) rfl rfl d12_tries_1 ?_
  obtain ⟨h1, hf⟩ := gd_some hf
  refine ev_getI cls12 (j := 5) (by decide) rfl w1256 h1 d12_tries_2 ?_
  rcases ite_some hf with ⟨c2, hf⟩ | ⟨c2, hf⟩
  · refine ev_icmp_ne_P (tgt := 56) c2 (by decide) d12_tries_5 ?_
    refine ev_aload_n (j := 0) (i := 0) (q := 0) rfl rfl d12_tries_8 ?_
    obtain ⟨r3, t4, k5, hf⟩ := bd_some hf
    have q6 := s12_weighs _ _ _ _ k5
    refine ev_callV (vs := []) (sk := []) cls12 h1 q6 (by omega) (Nat.le_of_ble_eq_true rfl) w1876 w1878 ws108 w19 w1879 k12_weighs rfl (Nat.le_of_ble_eq_true rfl) d12_tries_9 ?_
    refine ev_istore_n (lv2 := [(2, .int r3), (0, .ref v0), (1, .int v1)]) (j := 2) (i := 2) rfl (by decide) rfl d12_tries_12 ?_
    refine ev_iload_n (j := 2) (i := 2) (q := 0) rfl rfl d12_tries_13 ?_
    refine ev_aload_n (j := 0) (i := 0) (q := 1) rfl rfl d12_tries_14 ?_
    refine ev_getI cls12 (j := 73) (by decide) rfl w1324 (mono_ob q6.1 h1) d12_tries_15 ?_
    rcases ite_some hf with ⟨c7, hf⟩ | ⟨c7, hf⟩
    · refine ev_icmp_gt_P (tgt := 22) c7 (by decide) d12_tries_18 ?_
      obtain ⟨-, rfl⟩ := ret_some hf
      exact ev_vret rfl d12_tries_21
    · refine ev_icmp_gt_Q (tgt := 22) c7 (by decide) d12_tries_18 ?_
      refine ev_aload_n (j := 0) (i := 0) (q := 1) rfl rfl d12_tries_22 ?_
      refine ev_iload_n (j := 2) (i := 2) (q := 0) rfl rfl d12_tries_23 ?_
      obtain ⟨t8, e9, hf⟩ := lt_some hf
      refine ev_putI cls12 (j := 73) (by decide) rfl rfl w1324 (mono_ob q6.1 h1) (fun _ => ⟨rfl, rfl⟩) d12_tries_24 (ev_nmS e9 ?_)
      refine ev_iconst ci_0 d12_tries_27 ?_
      refine ev_istore_n (lv2 := [(3, .int (0 : Int32)), (2, .int r3), (0, .ref v0), (1, .int v1)]) (j := 3) (i := 3) rfl (by decide) rfl d12_tries_28 ?_
      exact Ev.sub [2, 0] rfl (s12_tries_p29 hB hF FU _ _ _ _ _ hf)
  · refine ev_icmp_ne_Q (tgt := 56) c2 (by decide) d12_tries_5 ?_
    refine ev_aload_n (j := 0) (i := 0) (q := 0) rfl rfl d12_tries_56 ?_
    refine ev_iload_n (j := 1) (i := 1) (q := 1) rfl rfl d12_tries_57 ?_
    obtain ⟨r10, t11, k12, hf⟩ := bd_some hf
    have q13 := s12_isIn _ _ _ _ _ k12
    refine ev_callV (vs := [.int v1]) (sk := []) cls12 h1 q13 (by omega) (Nat.le_of_ble_eq_true rfl) w1868 w1870 ws106 w19 w1871 k12_isIn rfl (Nat.le_of_ble_eq_true rfl) d12_tries_58 ?_
    rcases ite_some hf with ⟨c14, hf⟩ | ⟨c14, hf⟩
    · refine ev_if_ne_P (tgt := 72) c14 (by decide) d12_tries_61 ?_
      refine ev_aload_n (j := 0) (i := 0) (q := 0) rfl rfl d12_tries_64 ?_
      refine ev_iload_n (j := 1) (i := 1) (q := 1) rfl rfl d12_tries_65 ?_
      refine ev_iconst ci_1 d12_tries_66 ?_
      refine ev_iadd d12_tries_67 ?_
      obtain ⟨r15, t16, k17, hf⟩ := bd_some hf
      have q18 := hF _ _ _ _ _ k17
      refine ev_callV (vs := [.int (v1 + (1 : Int32))]) (sk := []) cls12 (mono_ob q13.1 h1) q18 (by omega) (Nat.le_of_ble_eq_true rfl) w1872 w1874 ws107 w19 w1875 k12_tries rfl (Nat.le_of_ble_eq_true rfl) d12_tries_68 ?_
      obtain ⟨-, rfl⟩ := ret_some hf
      exact ev_vret rfl d12_tries_71
    · refine ev_if_ne_Q (tgt := 72) c14 (by decide) d12_tries_61 ?_
      refine ev_iconst ci_0 d12_tries_72 ?_
      refine ev_istore_n (lv2 := [(2, .int (0 : Int32)), (0, .ref v0), (1, .int v1)]) (j := 2) (i := 2) rfl (by decide) rfl d12_tries_73 ?_
      exact Ev.sub [1, 2, 0] rfl (s12_tries_p74 hB hF FU _ _ _ _ _ _ hf)
def f12_tries : Nat → St → Nat → Int32 → Option (Unit × St)
  | 0, _, _, _ => none
  | n + 1, σ, a0, a1 => f12_tries_b (f12_tries n) σ a0 a1
theorem s12_tries : ∀ (n : Nat) (σ : St) (a0 : Nat) (a1 : Int32) (r : Unit) (τ : St), f12_tries n σ a0 a1 = some (r, τ) → Call (6 + 1 * n) m12_tries [.ref a0, .int a1] σ none τ := by
  intro n
  induction n with
  | zero =>
    intro σ a0 a1 r τ hf
    cases hf
  | succ n ih =>
    intro σ a0 a1 r τ hf
    rw [f12_tries] at hf
    have := s12_tries_b (F := f12_tries n) (dF := 6 + 1 * n) (by omega) ih σ a0 a1 r τ hf
    rw [show 6 + 1 * (n + 1) = 6 + 1 * n + 1 by omega]
    exact this
abbrev m12_arePlanned : MD := ("MillBoatsModel", ⟨"MillBoatsModel", "arePlanned", "(I)Z"⟩, prog_14_method_94_code, 4, (some Jvm.ClassFile.FieldType.boolean))
theorem k12_arePlanned : okY m12_arePlanned.2.1 1 := ⟨by decide +kernel, by decide +kernel, by decide +kernel⟩
def f12_arePlanned_p39 (K4 : St → Nat → Int32 → Int32 → Int32 → Option (Int32 × St)) (σ : St) (v0 : Nat) (v1 : Int32) (v2 : Int32) (v3 : Int32) : Option (Int32 × St) :=
  lt (v3 + (1 : Int32)) fun y15 => (
  K4 σ v0 v1 v2 y15)
set_option maxRecDepth 20000 in
theorem s12_arePlanned_p39 {K4 : St → Nat → Int32 → Int32 → Int32 → Option (Int32 × St)} (hK4 : ∀ (σ : St) (v0 : Nat) (v1 : Int32) (v2 : Int32) (v3 : Int32) (r : Int32) (τ : St), K4 σ v0 v1 v2 v3 = some (r, τ) → Ev 2 m12_arePlanned 4 [(0, .ref v0), (1, .int v1), (2, .int v2), (3, .int v3)] [] σ (some (.int r)) τ) : ∀ (σ : St) (v0 : Nat) (v1 : Int32) (v2 : Int32) (v3 : Int32) (r : Int32) (τ : St), f12_arePlanned_p39 K4 σ v0 v1 v2 v3 = some (r, τ) → Ev 2 m12_arePlanned 39 [(0, .ref v0), (1, .int v1), (2, .int v2), (3, .int v3)] [] σ (some (.int r)) τ := by
  intro σ v0 v1 v2 v3 r τ hf
  unfold f12_arePlanned_p39 at hf
  obtain ⟨y15, e16, hf⟩ := lt_some hf
  refine ev_iinc (lv2 := [(3, .int y15), (0, .ref v0), (1, .int v1), (2, .int v2)]) (i := 3) (q := 3) (v := y15) (n := 1) rfl (by rw [ci_1]; exact e16.symm) (by decide) rfl d12_arePlanned_39 ?_
  refine ev_goto (tgt := 4) (by decide) d12_arePlanned_42 ?_
  exact Ev.sub [1, 2, 3, 0] rfl (hK4 _ _ _ _ _ _ _ hf)
def f12_arePlanned_p4 : Nat → St → Nat → Int32 → Int32 → Int32 → Option (Int32 × St)
  | 0, _, _, _, _, _ => none
  | n + 1, σ, v0, v1, v2, v3 =>
  gd (ob σ v0 12) (
  (if v3 < (sI σ v0 5) then
  (if ((v1 >>> (v3 &&& 31)) &&& (1 : Int32)) = (0 : Int32) then
  f12_arePlanned_p39 (f12_arePlanned_p4 n) σ v0 v1 v2 v3
  else
  lt (sR σ v0 9) fun b4 => (
  gd (nz b4) (
  gd (ob σ b4 14) (
  gd (inb σ b4 v3) (
  (if (sI σ b4 (ix v3)) = (-2 : Int32) then
  some ((0 : Int32), σ)
  else
  lt (v2 + (1 : Int32)) fun y10 => (
  f12_arePlanned_p39 (f12_arePlanned_p4 n) σ v0 v1 y10 v3)))))))
  else
  (if v1 ≤ (0 : Int32) then
  some ((0 : Int32), σ)
  else
  (if (v1 >>> ((sI σ v0 5) &&& 31)) = (0 : Int32) then
  (if v2 ≤ (3 : Int32) then
  some ((1 : Int32), σ)
  else
  some ((0 : Int32), σ))
  else
  some ((0 : Int32), σ)))))
set_option maxRecDepth 20000 in
theorem s12_arePlanned_p4 : ∀ (n : Nat) (σ : St) (v0 : Nat) (v1 : Int32) (v2 : Int32) (v3 : Int32) (r : Int32) (τ : St), f12_arePlanned_p4 n σ v0 v1 v2 v3 = some (r, τ) → Ev 2 m12_arePlanned 4 [(0, .ref v0), (1, .int v1), (2, .int v2), (3, .int v3)] [] σ (some (.int r)) τ := by
  intro n
  induction n with
  | zero =>
    intro σ v0 v1 v2 v3 r τ hf
    cases hf
  | succ n ih =>
    intro σ v0 v1 v2 v3 r τ hf
    rw [f12_arePlanned_p4] at hf
    refine ev_iload_n (j := 3) (i := 3) (q := 3) rfl rfl d12_arePlanned_4 ?_
    refine ev_aload_n (j := 0) (i := 0) (q := 0) rfl rfl d12_arePlanned_5 ?_
    obtain ⟨h1, hf⟩ := gd_some hf
    refine ev_getI cls12 (j := 5) (by decide) rfl w1256 h1 d12_arePlanned_6 ?_
    rcases ite_some hf with ⟨c2, hf⟩ | ⟨c2, hf⟩
    · refine ev_icmp_ge_P (tgt := 45) c2 (by decide) d12_arePlanned_9 ?_
      refine ev_iload_n (j := 1) (i := 1) (q := 1) rfl rfl d12_arePlanned_12 ?_
      refine ev_iload_n (j := 3) (i := 3) (q := 3) rfl rfl d12_arePlanned_13 ?_
      refine ev_ishr d12_arePlanned_14 ?_
      refine ev_iconst ci_1 d12_arePlanned_15 ?_
      refine ev_iand d12_arePlanned_16 ?_
      rcases ite_some hf with ⟨c3, hf⟩ | ⟨c3, hf⟩
      · refine ev_if_ne_P (tgt := 23) c3 (by decide) d12_arePlanned_17 ?_
        refine ev_goto (tgt := 39) (by decide) d12_arePlanned_20 ?_
        exact Ev.sub [0, 1, 2, 3] rfl (s12_arePlanned_p39 ih _ _ _ _ _ _ _ hf)
      · refine ev_if_ne_Q (tgt := 23) c3 (by decide) d12_arePlanned_17 ?_
        refine ev_aload_n (j := 0) (i := 0) (q := 0) rfl rfl d12_arePlanned_23 ?_
        obtain ⟨b4, e5, hf⟩ := lt_some hf
        obtain ⟨h6, hf⟩ := gd_some hf
        refine ev_getRb cls12 (j := 9) (by decide) rfl w1260 h1 e5 (nz_ne h6) d12_arePlanned_24 ?_
        refine ev_iload_n (j := 3) (i := 3) (q := 3) rfl rfl d12_arePlanned_27 ?_
        obtain ⟨h7, hf⟩ := gd_some hf
        obtain ⟨h8, hf⟩ := gd_some hf
        refine ev_iald h7 h8 d12_arePlanned_28 ?_
        refine ev_bipush cb_m2 d12_arePlanned_29 ?_
        rcases ite_some hf with ⟨c9, hf⟩ | ⟨c9, hf⟩
        · refine ev_icmp_ne_P (tgt := 36) c9 (by decide) d12_arePlanned_31 ?_
          refine ev_iconst ci_0 d12_arePlanned_34 ?_
          obtain ⟨rfl, rfl⟩ := ret_some hf
          exact ev_zret rfl (by decide) d12_arePlanned_35
        · refine ev_icmp_ne_Q (tgt := 36) c9 (by decide) d12_arePlanned_31 ?_
          obtain ⟨y10, e11, hf⟩ := lt_some hf
          refine ev_iinc (lv2 := [(2, .int y10), (0, .ref v0), (1, .int v1), (3, .int v3)]) (i := 2) (q := 2) (v := y10) (n := 1) rfl (by rw [ci_1]; exact e11.symm) (by decide) rfl d12_arePlanned_36 ?_
          exact Ev.sub [1, 2, 0, 3] rfl (s12_arePlanned_p39 ih _ _ _ _ _ _ _ hf)
    · refine ev_icmp_ge_Q (tgt := 45) c2 (by decide) d12_arePlanned_9 ?_
      refine ev_iload_n (j := 1) (i := 1) (q := 1) rfl rfl d12_arePlanned_45 ?_
      rcases ite_some hf with ⟨c12, hf⟩ | ⟨c12, hf⟩
      · refine ev_if_le_P (tgt := 67) c12 (by decide) d12_arePlanned_46 ?_
        refine ev_iconst ci_0 d12_arePlanned_67 ?_
        obtain ⟨rfl, rfl⟩ := ret_some hf
        exact ev_zret rfl (by decide) d12_arePlanned_68
      · refine ev_if_le_Q (tgt := 67) c12 (by decide) d12_arePlanned_46 ?_
        refine ev_iload_n (j := 1) (i := 1) (q := 1) rfl rfl d12_arePlanned_49 ?_
        refine ev_aload_n (j := 0) (i := 0) (q := 0) rfl rfl d12_arePlanned_50 ?_
        refine ev_getI cls12 (j := 5) (by decide) rfl w1256 h1 d12_arePlanned_51 ?_
        refine ev_ishr d12_arePlanned_54 ?_
        rcases ite_some hf with ⟨c13, hf⟩ | ⟨c13, hf⟩
        · refine ev_if_ne_P (tgt := 67) c13 (by decide) d12_arePlanned_55 ?_
          refine ev_iload_n (j := 2) (i := 2) (q := 2) rfl rfl d12_arePlanned_58 ?_
          refine ev_iconst ci_3 d12_arePlanned_59 ?_
          rcases ite_some hf with ⟨c14, hf⟩ | ⟨c14, hf⟩
          · refine ev_icmp_gt_P (tgt := 67) c14 (by decide) d12_arePlanned_60 ?_
            refine ev_iconst ci_1 d12_arePlanned_63 ?_
            refine ev_goto (tgt := 68) (by decide) d12_arePlanned_64 ?_
            obtain ⟨rfl, rfl⟩ := ret_some hf
            exact ev_zret rfl (by decide) d12_arePlanned_68
          · refine ev_icmp_gt_Q (tgt := 67) c14 (by decide) d12_arePlanned_60 ?_
            refine ev_iconst ci_0 d12_arePlanned_67 ?_
            obtain ⟨rfl, rfl⟩ := ret_some hf
            exact ev_zret rfl (by decide) d12_arePlanned_68
        · refine ev_if_ne_Q (tgt := 67) c13 (by decide) d12_arePlanned_55 ?_
          refine ev_iconst ci_0 d12_arePlanned_67 ?_
          obtain ⟨rfl, rfl⟩ := ret_some hf
          exact ev_zret rfl (by decide) d12_arePlanned_68
def f12_arePlanned (σ : St) (v0 : Nat) (v1 : Int32) : Option (Int32 × St) :=
  f12_arePlanned_p4 FU σ v0 v1 (0 : Int32) (0 : Int32)
set_option maxRecDepth 50000 in
theorem s12_arePlanned : ∀ (σ : St) (v0 : Nat) (v1 : Int32) (r : Int32) (τ : St), f12_arePlanned σ v0 v1 = some (r, τ) → Call 2 m12_arePlanned [.ref v0, .int v1] σ (some (.int r)) τ := by
  intro σ v0 v1 r τ hf
  unfold f12_arePlanned at hf
  refine Call.of (by decide +kernel) rfl (Nat.le_of_ble_eq_true rfl) ?_
  refine ev_iconst ci_0 d12_arePlanned_0 ?_
  refine ev_istore_n (lv2 := [(2, .int (0 : Int32)), (0, .ref v0), (1, .int v1)]) (j := 2) (i := 2) rfl (by decide) rfl d12_arePlanned_1 ?_
  refine ev_iconst ci_0 d12_arePlanned_2 ?_
  refine ev_istore_n (lv2 := [(3, .int (0 : Int32)), (2, .int (0 : Int32)), (0, .ref v0), (1, .int v1)]) (j := 3) (i := 3) rfl (by decide) rfl d12_arePlanned_3 ?_
  exact Ev.sub [2, 3, 1, 0] rfl (s12_arePlanned_p4 FU _ _ _ _ _ _ _ hf)
abbrev m12_plan : MD := ("MillBoatsModel", ⟨"MillBoatsModel", "plan", "(IIII)I"⟩, prog_14_method_95_code, 7, (some Jvm.ClassFile.FieldType.int))
theorem k12_plan : okY m12_plan.2.1 4 := ⟨by decide +kernel, by decide +kernel, by decide +kernel⟩
def f12_plan_p255 (K142 : St → Nat → Int32 → Int32 → Option (Int32 × St)) (σ : St) (v0 : Nat) (v1 : Int32) (v5 : Int32) : Option (Int32 × St) :=
  lt (v5 + (1 : Int32)) fun y93 => (
  K142 σ v0 v1 y93)
set_option maxRecDepth 20000 in
theorem s12_plan_p255 {K142 : St → Nat → Int32 → Int32 → Option (Int32 × St)} (hK142 : ∀ (σ : St) (v0 : Nat) (v1 : Int32) (v5 : Int32) (r : Int32) (τ : St), K142 σ v0 v1 v5 = some (r, τ) → Ev 17 m12_plan 142 [(0, .ref v0), (1, .int v1), (5, .int v5)] [] σ (some (.int r)) τ) : ∀ (σ : St) (v0 : Nat) (v1 : Int32) (v5 : Int32) (r : Int32) (τ : St), f12_plan_p255 K142 σ v0 v1 v5 = some (r, τ) → Ev 17 m12_plan 255 [(0, .ref v0), (1, .int v1), (5, .int v5)] [] σ (some (.int r)) τ := by
  intro σ v0 v1 v5 r τ hf
  unfold f12_plan_p255 at hf
  obtain ⟨y93, e94, hf⟩ := lt_some hf
  refine ev_iinc (lv2 := [(5, .int y93), (0, .ref v0), (1, .int v1)]) (i := 5) (q := 2) (v := y93) (n := 1) rfl (by rw [ci_1]; exact e94.symm) (by decide) rfl d12_plan_255 ?_
  refine ev_goto (tgt := 142) (by decide) d12_plan_258 ?_
  exact Ev.sub [1, 2, 0] rfl (hK142 _ _ _ _ _ _ hf)
def f12_plan_p248 (K142 : St → Nat → Int32 → Int32 → Option (Int32 × St)) (K188 : St → Nat → Int32 → Int32 → Int32 → Option (Int32 × St)) (σ : St) (v0 : Nat) (v1 : Int32) (v5 : Int32) (v6 : Int32) (x0 : Int32) (x1 : Int32) (x2 : Nat) : Option (Int32 × St) :=
  gd (ob σ x2 16) (
  gd (inb σ x2 x1) (
  lt (wI σ x2 (ix x1) (vp_nar .boolean x0)) fun t134 => (
  lt (v6 + (1 : Int32)) fun y136 => (
  K188 t134 v0 v1 v5 y136))))
set_option maxRecDepth 20000 in
theorem s12_plan_p248 {K142 : St → Nat → Int32 → Int32 → Option (Int32 × St)} (hK142 : ∀ (σ : St) (v0 : Nat) (v1 : Int32) (v5 : Int32) (r : Int32) (τ : St), K142 σ v0 v1 v5 = some (r, τ) → Ev 17 m12_plan 142 [(0, .ref v0), (1, .int v1), (5, .int v5)] [] σ (some (.int r)) τ) {K188 : St → Nat → Int32 → Int32 → Int32 → Option (Int32 × St)} (hK188 : ∀ (σ : St) (v0 : Nat) (v1 : Int32) (v5 : Int32) (v6 : Int32) (r : Int32) (τ : St), K188 σ v0 v1 v5 v6 = some (r, τ) → Ev 17 m12_plan 188 [(0, .ref v0), (1, .int v1), (5, .int v5), (6, .int v6)] [] σ (some (.int r)) τ) : ∀ (σ : St) (v0 : Nat) (v1 : Int32) (v5 : Int32) (v6 : Int32) (x0 : Int32) (x1 : Int32) (x2 : Nat) (r : Int32) (τ : St), f12_plan_p248 K142 K188 σ v0 v1 v5 v6 x0 x1 x2 = some (r, τ) → Ev 17 m12_plan 248 [(0, .ref v0), (1, .int v1), (5, .int v5), (6, .int v6)] [.int x0, .int x1, .ref x2] σ (some (.int r)) τ := by
  intro σ v0 v1 v5 v6 x0 x1 x2 r τ hf
  unfold f12_plan_p248 at hf
  obtain ⟨h132, hf⟩ := gd_some hf
  obtain ⟨h133, hf⟩ := gd_some hf
  obtain ⟨t134, e135, hf⟩ := lt_some hf
  refine ev_zast h132 h133 d12_plan_248 (ev_nmS e135 ?_)
  obtain ⟨y136, e137, hf⟩ := lt_some hf
  refine ev_iinc (lv2 := [(6, .int y136), (0, .ref v0), (1, .int v1), (5, .int v5)]) (i := 6) (q := 3) (v := y136) (n := 1) rfl (by rw [ci_1]; exact e137.symm) (by decide) rfl d12_plan_249 ?_
  refine ev_goto (tgt := 188) (by decide) d12_plan_252 ?_
  exact Ev.sub [1, 2, 3, 0] rfl (hK188 _ _ _ _ _ _ _ hf)
def f12_plan_p247 (K142 : St → Nat → Int32 → Int32 → Option (Int32 × St)) (K188 : St → Nat → Int32 → Int32 → Int32 → Option (Int32 × St)) (σ : St) (v0 : Nat) (v1 : Int32) (v5 : Int32) (v6 : Int32) (x0 : Int32) (x1 : Nat) : Option (Int32 × St) :=
  f12_plan_p248 K142 K188 σ v0 v1 v5 v6 (0 : Int32) x0 x1
set_option maxRecDepth 20000 in
theorem s12_plan_p247 {K142 : St → Nat → Int32 → Int32 → Option (Int32 × St)} (hK142 : ∀ (σ : St) (v0 : Nat) (v1 : Int32) (v5 : Int32) (r : Int32) (τ : St), K142 σ v0 v1 v5 = some (r, τ) → Ev 17 m12_plan 142 [(0, .ref v0), (1, .int v1), (5, .int v5)] [] σ (some (.int r)) τ) {K188 : St → Nat → Int32 → Int32 → Int32 → Option (Int32 × St)} (hK188 : ∀ (σ : St) (v0 : Nat) (v1 : Int32) (v5 : Int32) (v6 : Int32) (r : Int32) (τ : St), K188 σ v0 v1 v5 v6 = some (r, τ) → Ev 17 m12_plan 188 [(0, .ref v0), (1, .int v1), (5, .int v5), (6, .int v6)] [] σ (some (.int r)) τ) : ∀ (σ : St) (v0 : Nat) (v1 : Int32) (v5 : Int32) (v6 : Int32) (x0 : Int32) (x1 : Nat) (r : Int32) (τ : St), f12_plan_p247 K142 K188 σ v0 v1 v5 v6 x0 x1 = some (r, τ) → Ev 17 m12_plan 247 [(0, .ref v0), (1, .int v1), (5, .int v5), (6, .int v6)] [.int x0, .ref x1] σ (some (.int r)) τ := by
  intro σ v0 v1 v5 v6 x0 x1 r τ hf
  unfold f12_plan_p247 at hf
  refine ev_iconst ci_0 d12_plan_247 ?_
  exact Ev.sub [0, 1, 2, 3] rfl (s12_plan_p248 hK142 hK188 _ _ _ _ _ _ _ _ _ _ hf)
def f12_plan_p188 (K142 : St → Nat → Int32 → Int32 → Option (Int32 × St)) : Nat → St → Nat → Int32 → Int32 → Int32 → Option (Int32 × St)
  | 0, _, _, _, _, _ => none
  | n + 1, σ, v0, v1, v5, v6 =>
  (if v6 < (72 : Int32) then
  gd (ob σ v0 12) (
  lt (sR σ v0 66) fun b97 => (
  gd (nz b97) (
  bd (f12_depth σ v0 v6 (sI σ v0 69)) fun r100 t101 => (
  lt (sR t101 v0 6) fun b104 => (
  gd (nz b104) (
  gd (ob t101 b104 14) (
  gd (inb t101 b104 v5) (
  (if r100 < (sI t101 b104 (ix v5)) then
  f12_plan_p247 K142 (f12_plan_p188 K142 n) t101 v0 v1 v5 v6 (((72 : Int32) * v5) + v6) b97
  else
  bd (f12_isBarred t101 v0 v5 v6 v1 (sI t101 v0 14)) fun r110 t111 => (
  (if r110 = (0 : Int32) then
  f12_plan_p248 K142 (f12_plan_p188 K142 n) t111 v0 v1 v5 v6 (1 : Int32) (((72 : Int32) * v5) + v6) b97
  else
  f12_plan_p247 K142 (f12_plan_p188 K142 n) t111 v0 v1 v5 v6 (((72 : Int32) * v5) + v6) b97)))))))))))
  else
  f12_plan_p255 K142 σ v0 v1 v5)
set_option maxRecDepth 20000 in
theorem s12_plan_p188 {K142 : St → Nat → Int32 → Int32 → Option (Int32 × St)} (hK142 : ∀ (σ : St) (v0 : Nat) (v1 : Int32) (v5 : Int32) (r : Int32) (τ : St), K142 σ v0 v1 v5 = some (r, τ) → Ev 17 m12_plan 142 [(0, .ref v0), (1, .int v1), (5, .int v5)] [] σ (some (.int r)) τ) : ∀ (n : Nat) (σ : St) (v0 : Nat) (v1 : Int32) (v5 : Int32) (v6 : Int32) (r : Int32) (τ : St), f12_plan_p188 K142 n σ v0 v1 v5 v6 = some (r, τ) → Ev 17 m12_plan 188 [(0, .ref v0), (1, .int v1), (5, .int v5), (6, .int v6)] [] σ (some (.int r)) τ := by
  intro n
  induction n with
  | zero =>
    intro σ v0 v1 v5 v6 r τ hf
    cases hf
  | succ n ih =>
    intro σ v0 v1 v5 v6 r τ hf
    rw [f12_plan_p188] at hf
    refine ev_iload (i := 6) (q := 3) rfl d12_plan_188 ?_
    refine ev_bipush cb_72 d12_plan_190 ?_
    rcases ite_some hf with ⟨c95, hf⟩ | ⟨c95, hf⟩
    · refine ev_icmp_ge_P (tgt := 255) c95 (by decide) d12_plan_192 ?_
      refine ev_aload_n (j := 0) (i := 0) (q := 0) rfl rfl d12_plan_195 ?_
      obtain ⟨h96, hf⟩ := gd_some hf
      obtain ⟨b97, e98, hf⟩ := lt_some hf
      obtain ⟨h99, hf⟩ := gd_some hf
      refine ev_getRb cls12 (j := 66) (by decide) rfl w1317 h96 e98 (nz_ne h99) d12_plan_196 ?_
      refine ev_bipush cb_72 d12_plan_199 ?_
      refine ev_iload (i := 5) (q := 2) rfl d12_plan_201 ?_
      refine ev_imul d12_plan_203 ?_
      refine ev_iload (i := 6) (q := 3) rfl d12_plan_204 ?_
      refine ev_iadd d12_plan_206 ?_
      refine ev_aload_n (j := 0) (i := 0) (q := 0) rfl rfl d12_plan_207 ?_
      refine ev_iload (i := 6) (q := 3) rfl d12_plan_208 ?_
      refine ev_aload_n (j := 0) (i := 0) (q := 0) rfl rfl d12_plan_210 ?_
      refine ev_getI cls12 (j := 69) (by decide) rfl w1320 h96 d12_plan_211 ?_
      obtain ⟨r100, t101, k102, hf⟩ := bd_some hf
      have q103 := s12_depth _ _ _ _ _ _ k102
      refine ev_callV (vs := [.int v6, .int (sI σ v0 69)]) (sk := [.int (((72 : Int32) * v5) + v6), .ref b97]) cls12 h96 q103 (by decide) (Nat.le_of_ble_eq_true rfl) w1556 w1558 ws58 w19 w1559 k12_depth rfl (Nat.le_of_ble_eq_true rfl) d12_plan_214 ?_
      refine ev_aload_n (j := 0) (i := 0) (q := 0) rfl rfl d12_plan_217 ?_
      obtain ⟨b104, e105, hf⟩ := lt_some hf
      obtain ⟨h106, hf⟩ := gd_some hf
      refine ev_getRb cls12 (j := 6) (by decide) rfl w1257 (mono_ob q103.1 h96) e105 (nz_ne h106) d12_plan_218 ?_
      refine ev_iload (i := 5) (q := 2) rfl d12_plan_221 ?_
      obtain ⟨h107, hf⟩ := gd_some hf
      obtain ⟨h108, hf⟩ := gd_some hf
      refine ev_iald h107 h108 d12_plan_223 ?_
      rcases ite_some hf with ⟨c109, hf⟩ | ⟨c109, hf⟩
      · refine ev_icmp_lt_P (tgt := 247) c109 (by decide) d12_plan_224 ?_
        exact Ev.sub [0, 1, 2, 3] rfl (s12_plan_p247 hK142 ih _ _ _ _ _ _ _ _ _ hf)
      · refine ev_icmp_lt_Q (tgt := 247) c109 (by decide) d12_plan_224 ?_
        refine ev_aload_n (j := 0) (i := 0) (q := 0) rfl rfl d12_plan_227 ?_
        refine ev_iload (i := 5) (q := 2) rfl d12_plan_228 ?_
        refine ev_iload (i := 6) (q := 3) rfl d12_plan_230 ?_
        refine ev_iload_n (j := 1) (i := 1) (q := 1) rfl rfl d12_plan_232 ?_
        refine ev_aload_n (j := 0) (i := 0) (q := 0) rfl rfl d12_plan_233 ?_
        refine ev_getI cls12 (j := 14) (by decide) rfl w1265 (mono_ob q103.1 h96) d12_plan_234 ?_
        obtain ⟨r110, t111, k112, hf⟩ := bd_some hf
        have q113 := s12_isBarred _ _ _ _ _ _ _ _ k112
        refine ev_callV (vs := [.int v5, .int v6, .int v1, .int (sI t101 v0 14)]) (sk := [.int (((72 : Int32) * v5) + v6), .ref b97]) cls12 (mono_ob q103.1 h96) q113 (by decide) (Nat.le_of_ble_eq_true rfl) w1847 w1849 ws102 w19 w1850 k12_isBarred rfl (Nat.le_of_ble_eq_true rfl) d12_plan_237 ?_
        rcases ite_some hf with ⟨c114, hf⟩ | ⟨c114, hf⟩
        · refine ev_if_ne_P (tgt := 247) c114 (by decide) d12_plan_240 ?_
          refine ev_iconst ci_1 d12_plan_243 ?_
          refine ev_goto (tgt := 248) (by decide) d12_plan_244 ?_
          exact Ev.sub [0, 1, 2, 3] rfl (s12_plan_p248 hK142 ih _ _ _ _ _ _ _ _ _ _ hf)
        · refine ev_if_ne_Q (tgt := 247) c114 (by decide) d12_plan_240 ?_
          exact Ev.sub [0, 1, 2, 3] rfl (s12_plan_p247 hK142 ih _ _ _ _ _ _ _ _ _ hf)
    · refine ev_icmp_ge_Q (tgt := 255) c95 (by decide) d12_plan_192 ?_
      exact Ev.sub [0, 1, 2] rfl (s12_plan_p255 hK142 _ _ _ _ _ _ hf)
def f12_plan_p317 (σ : St) (v0 : Nat) (x0 : Int32) (x1 : Nat) : Option (Int32 × St) :=
  gd (ob σ x1 12) (
  gd (isB x0) (
  lt (wI σ x1 61 x0) fun t140 => (
  gd (ob t140 v0 12) (
  some (sI t140 v0 73, t140)))))
set_option maxRecDepth 20000 in
theorem s12_plan_p317 : ∀ (σ : St) (v0 : Nat) (x0 : Int32) (x1 : Nat) (r : Int32) (τ : St), f12_plan_p317 σ v0 x0 x1 = some (r, τ) → Ev 17 m12_plan 317 [(0, .ref v0)] [.int x0, .ref x1] σ (some (.int r)) τ := by
  intro σ v0 x0 x1 r τ hf
  unfold f12_plan_p317 at hf
  obtain ⟨h138, hf⟩ := gd_some hf
  obtain ⟨h139, hf⟩ := gd_some hf
  obtain ⟨t140, e141, hf⟩ := lt_some hf
  refine ev_putI cls12 (j := 61) (by decide) rfl rfl w1312 h138 (narB2 h139) d12_plan_317 (ev_nmS e141 ?_)
  refine ev_aload_n (j := 0) (i := 0) (q := 0) rfl rfl d12_plan_320 ?_
  obtain ⟨h142, hf⟩ := gd_some hf
  refine ev_getI cls12 (j := 73) (by decide) rfl w1324 h142 d12_plan_321 ?_
  obtain ⟨rfl, rfl⟩ := ret_some hf
  exact ev_iret rfl d12_plan_324
def f12_plan_p274 : Nat → St → Nat → Int32 → Option (Int32 × St)
  | 0, _, _, _ => none
  | n + 1, σ, v0, v5 =>
  gd (ob σ v0 12) (
  (if v5 < (sI σ v0 5) then
  lt (sR σ v0 9) fun b117 => (
  gd (nz b117) (
  lt (sR σ v0 64) fun b120 => (
  gd (nz b120) (
  gd (ob σ b120 14) (
  gd (inb σ b120 v5) (
  gd (ob σ b117 14) (
  gd (inb σ b117 v5) (
  lt (wI σ b117 (ix v5) (sI σ b120 (ix v5))) fun t127 => (
  lt (v5 + (1 : Int32)) fun y129 => (
  (f12_plan_p274 n) t127 v0 y129))))))))))
  else
  (if (sI σ v0 73) = (-1 : Int32) then
  f12_plan_p317 σ v0 (0 : Int32) v0
  else
  f12_plan_p317 σ v0 (1 : Int32) v0)))
set_option maxRecDepth 20000 in
theorem s12_plan_p274 : ∀ (n : Nat) (σ : St) (v0 : Nat) (v5 : Int32) (r : Int32) (τ : St), f12_plan_p274 n σ v0 v5 = some (r, τ) → Ev 17 m12_plan 274 [(0, .ref v0), (5, .int v5)] [] σ (some (.int r)) τ := by
  intro n
  induction n with
  | zero =>
    intro σ v0 v5 r τ hf
    cases hf
  | succ n ih =>
    intro σ v0 v5 r τ hf
    rw [f12_plan_p274] at hf
    refine ev_iload (i := 5) (q := 1) rfl d12_plan_274 ?_
    refine ev_aload_n (j := 0) (i := 0) (q := 0) rfl rfl d12_plan_276 ?_
    obtain ⟨h115, hf⟩ := gd_some hf
    refine ev_getI cls12 (j := 5) (by decide) rfl w1256 h115 d12_plan_277 ?_
    rcases ite_some hf with ⟨c116, hf⟩ | ⟨c116, hf⟩
    · refine ev_icmp_ge_P (tgt := 303) c116 (by decide) d12_plan_280 ?_
      refine ev_aload_n (j := 0) (i := 0) (q := 0) rfl rfl d12_plan_283 ?_
      obtain ⟨b117, e118, hf⟩ := lt_some hf
      obtain ⟨h119, hf⟩ := gd_some hf
      refine ev_getRb cls12 (j := 9) (by decide) rfl w1260 h115 e118 (nz_ne h119) d12_plan_284 ?_
      refine ev_iload (i := 5) (q := 1) rfl d12_plan_287 ?_
      refine ev_aload_n (j := 0) (i := 0) (q := 0) rfl rfl d12_plan_289 ?_
      obtain ⟨b120, e121, hf⟩ := lt_some hf
      obtain ⟨h122, hf⟩ := gd_some hf
      refine ev_getRb cls12 (j := 64) (by decide) rfl w1315 h115 e121 (nz_ne h122) d12_plan_290 ?_
      refine ev_iload (i := 5) (q := 1) rfl d12_plan_293 ?_
      obtain ⟨h123, hf⟩ := gd_some hf
      obtain ⟨h124, hf⟩ := gd_some hf
      refine ev_iald h123 h124 d12_plan_295 ?_
      obtain ⟨h125, hf⟩ := gd_some hf
      obtain ⟨h126, hf⟩ := gd_some hf
      obtain ⟨t127, e128, hf⟩ := lt_some hf
      refine ev_iast h125 h126 d12_plan_296 (ev_nmS e128 ?_)
      obtain ⟨y129, e130, hf⟩ := lt_some hf
      refine ev_iinc (lv2 := [(5, .int y129), (0, .ref v0)]) (i := 5) (q := 1) (v := y129) (n := 1) rfl (by rw [ci_1]; exact e130.symm) (by decide) rfl d12_plan_297 ?_
      refine ev_goto (tgt := 274) (by decide) d12_plan_300 ?_
      exact Ev.sub [1, 0] rfl (ih _ _ _ _ _ hf)
    · refine ev_icmp_ge_Q (tgt := 303) c116 (by decide) d12_plan_280 ?_
      refine ev_aload_n (j := 0) (i := 0) (q := 0) rfl rfl d12_plan_303 ?_
      refine ev_aload_n (j := 0) (i := 0) (q := 0) rfl rfl d12_plan_304 ?_
      refine ev_getI cls12 (j := 73) (by decide) rfl w1324 h115 d12_plan_305 ?_
      refine ev_iconst ci_m1 d12_plan_308 ?_
      rcases ite_some hf with ⟨c131, hf⟩ | ⟨c131, hf⟩
      · refine ev_icmp_eq_P (tgt := 316) c131 (by decide) d12_plan_309 ?_
        refine ev_iconst ci_0 d12_plan_316 ?_
        exact Ev.sub [0] rfl (s12_plan_p317 _ _ _ _ _ _ hf)
      · refine ev_icmp_eq_Q (tgt := 316) c131 (by decide) d12_plan_309 ?_
        refine ev_iconst ci_1 d12_plan_312 ?_
        refine ev_goto (tgt := 317) (by decide) d12_plan_313 ?_
        exact Ev.sub [0] rfl (s12_plan_p317 _ _ _ _ _ _ hf)
def f12_plan_p142 : Nat → St → Nat → Int32 → Int32 → Option (Int32 × St)
  | 0, _, _, _, _ => none
  | n + 1, σ, v0, v1, v5 =>
  gd (ob σ v0 12) (
  (if v5 < (sI σ v0 5) then
  lt (sR σ v0 64) fun b63 => (
  gd (nz b63) (
  lt (sR σ v0 9) fun b66 => (
  gd (nz b66) (
  gd (ob σ b66 14) (
  gd (inb σ b66 v5) (
  gd (ob σ b63 14) (
  gd (inb σ b63 v5) (
  lt (wI σ b63 (ix v5) (sI σ b66 (ix v5))) fun t73 => (
  bd (f12_isIn t73 v0 v5) fun r75 t76 => (
  (if r75 = (0 : Int32) then
  f12_plan_p255 (f12_plan_p142 n) t76 v0 v1 v5
  else
  lt (sR t76 v0 9) fun b80 => (
  gd (nz b80) (
  gd (ob t76 b80 14) (
  gd (inb t76 b80 v5) (
  lt (wI t76 b80 (ix v5) (-1 : Int32)) fun t85 => (
  f12_plan_p188 (f12_plan_p142 n) FU t85 v0 v1 v5 (0 : Int32)))))))))))))))))
  else
  lt (wI σ v0 73 (-1 : Int32)) fun t87 => (
  bd (f12_tries 10 t87 v0 (0 : Int32)) fun r89 t90 => (
  f12_plan_p274 FU t90 v0 (0 : Int32)))))
set_option maxRecDepth 20000 in
theorem s12_plan_p142 : ∀ (n : Nat) (σ : St) (v0 : Nat) (v1 : Int32) (v5 : Int32) (r : Int32) (τ : St), f12_plan_p142 n σ v0 v1 v5 = some (r, τ) → Ev 17 m12_plan 142 [(0, .ref v0), (1, .int v1), (5, .int v5)] [] σ (some (.int r)) τ := by
  intro n
  induction n with
  | zero =>
    intro σ v0 v1 v5 r τ hf
    cases hf
  | succ n ih =>
    intro σ v0 v1 v5 r τ hf
    rw [f12_plan_p142] at hf
    refine ev_iload (i := 5) (q := 2) rfl d12_plan_142 ?_
    refine ev_aload_n (j := 0) (i := 0) (q := 0) rfl rfl d12_plan_144 ?_
    obtain ⟨h61, hf⟩ := gd_some hf
    refine ev_getI cls12 (j := 5) (by decide) rfl w1256 h61 d12_plan_145 ?_
    rcases ite_some hf with ⟨c62, hf⟩ | ⟨c62, hf⟩
    · refine ev_icmp_ge_P (tgt := 261) c62 (by decide) d12_plan_148 ?_
      refine ev_aload_n (j := 0) (i := 0) (q := 0) rfl rfl d12_plan_151 ?_
      obtain ⟨b63, e64, hf⟩ := lt_some hf
      obtain ⟨h65, hf⟩ := gd_some hf
      refine ev_getRb cls12 (j := 64) (by decide) rfl w1315 h61 e64 (nz_ne h65) d12_plan_152 ?_
      refine ev_iload (i := 5) (q := 2) rfl d12_plan_155 ?_
      refine ev_aload_n (j := 0) (i := 0) (q := 0) rfl rfl d12_plan_157 ?_
      obtain ⟨b66, e67, hf⟩ := lt_some hf
      obtain ⟨h68, hf⟩ := gd_some hf
      refine ev_getRb cls12 (j := 9) (by decide) rfl w1260 h61 e67 (nz_ne h68) d12_plan_158 ?_
      refine ev_iload (i := 5) (q := 2) rfl d12_plan_161 ?_
      obtain ⟨h69, hf⟩ := gd_some hf
      obtain ⟨h70, hf⟩ := gd_some hf
      refine ev_iald h69 h70 d12_plan_163 ?_
      obtain ⟨h71, hf⟩ := gd_some hf
      obtain ⟨h72, hf⟩ := gd_some hf
      obtain ⟨t73, e74, hf⟩ := lt_some hf
      refine ev_iast h71 h72 d12_plan_164 (ev_nmS e74 ?_)
      refine ev_aload_n (j := 0) (i := 0) (q := 0) rfl rfl d12_plan_165 ?_
      refine ev_iload (i := 5) (q := 2) rfl d12_plan_166 ?_
      obtain ⟨r75, t76, k77, hf⟩ := bd_some hf
      have q78 := s12_isIn _ _ _ _ _ k77
      refine ev_callV (vs := [.int v5]) (sk := []) cls12 (mono_ob (mono_eI e74) h61) q78 (by decide) (Nat.le_of_ble_eq_true rfl) w1868 w1870 ws106 w19 w1871 k12_isIn rfl (Nat.le_of_ble_eq_true rfl) d12_plan_168 ?_
      rcases ite_some hf with ⟨c79, hf⟩ | ⟨c79, hf⟩
      · refine ev_if_ne_P (tgt := 177) c79 (by decide) d12_plan_171 ?_
        refine ev_goto (tgt := 255) (by decide) d12_plan_174 ?_
        exact Ev.sub [0, 1, 2] rfl (s12_plan_p255 ih _ _ _ _ _ _ hf)
      · refine ev_if_ne_Q (tgt := 177) c79 (by decide) d12_plan_171 ?_
        refine ev_aload_n (j := 0) (i := 0) (q := 0) rfl rfl d12_plan_177 ?_
        obtain ⟨b80, e81, hf⟩ := lt_some hf
        obtain ⟨h82, hf⟩ := gd_some hf
        refine ev_getRb cls12 (j := 9) (by decide) rfl w1260 (mono_ob q78.1 (mono_ob (mono_eI e74) h61)) e81 (nz_ne h82) d12_plan_178 ?_
        refine ev_iload (i := 5) (q := 2) rfl d12_plan_181 ?_
        refine ev_iconst ci_m1 d12_plan_183 ?_
        obtain ⟨h83, hf⟩ := gd_some hf
        obtain ⟨h84, hf⟩ := gd_some hf
        obtain ⟨t85, e86, hf⟩ := lt_some hf
        refine ev_iast h83 h84 d12_plan_184 (ev_nmS e86 ?_)
        refine ev_iconst ci_0 d12_plan_185 ?_
        refine ev_istore (lv2 := [(6, .int (0 : Int32)), (0, .ref v0), (1, .int v1), (5, .int v5)]) (i := 6) (by decide) rfl d12_plan_186 ?_
        exact Ev.sub [1, 2, 3, 0] rfl (s12_plan_p188 ih FU _ _ _ _ _ _ _ hf)
    · refine ev_icmp_ge_Q (tgt := 261) c62 (by decide) d12_plan_148 ?_
      refine ev_aload_n (j := 0) (i := 0) (q := 0) rfl rfl d12_plan_261 ?_
      refine ev_iconst ci_m1 d12_plan_262 ?_
      obtain ⟨t87, e88, hf⟩ := lt_some hf
      refine ev_putI cls12 (j := 73) (by decide) rfl rfl w1324 h61 (fun _ => ⟨rfl, rfl⟩) d12_plan_263 (ev_nmS e88 ?_)
      refine ev_aload_n (j := 0) (i := 0) (q := 0) rfl rfl d12_plan_266 ?_
      refine ev_iconst ci_0 d12_plan_267 ?_
      obtain ⟨r89, t90, k91, hf⟩ := bd_some hf
      have q92 := s12_tries 10 _ _ _ _ _ k91
      refine ev_callV (vs := [.int (0 : Int32)]) (sk := []) cls12 (mono_ob (mono_eI e88) h61) q92 (by omega) (Nat.le_of_ble_eq_true rfl) w1872 w1874 ws107 w19 w1875 k12_tries rfl (Nat.le_of_ble_eq_true rfl) d12_plan_268 ?_
      refine ev_iconst ci_0 d12_plan_271 ?_
      refine ev_istore (lv2 := [(5, .int (0 : Int32)), (0, .ref v0), (1, .int v1)]) (i := 5) (by decide) rfl d12_plan_272 ?_
      exact Ev.sub [1, 0] rfl (s12_plan_p274 FU _ _ _ _ _ hf)
def f12_plan_p108 : Nat → St → Nat → Int32 → Int32 → Int32 → Option (Int32 × St)
  | 0, _, _, _, _, _ => none
  | n + 1, σ, v0, v1, v4, v5 =>
  (if v5 ≤ v4 then
  gd (ob σ v0 12) (
  lt (sR σ v0 67) fun b48 => (
  gd (nz b48) (
  bd (f12_wayOf σ v0 v5 v1 (sI σ v0 14)) fun r51 t52 => (
  gd (ob t52 b48 14) (
  gd (inb t52 b48 v5) (
  lt (wI t52 b48 (ix v5) r51) fun t57 => (
  lt (v5 + (1 : Int32)) fun y59 => (
  (f12_plan_p108 n) t57 v0 v1 v4 y59))))))))
  else
  f12_plan_p142 FU σ v0 v1 (0 : Int32))
set_option maxRecDepth 20000 in
theorem s12_plan_p108 : ∀ (n : Nat) (σ : St) (v0 : Nat) (v1 : Int32) (v4 : Int32) (v5 : Int32) (r : Int32) (τ : St), f12_plan_p108 n σ v0 v1 v4 v5 = some (r, τ) → Ev 17 m12_plan 108 [(0, .ref v0), (1, .int v1), (4, .int v4), (5, .int v5)] [] σ (some (.int r)) τ := by
  intro n
  induction n with
  | zero =>
    intro σ v0 v1 v4 v5 r τ hf
    cases hf
  | succ n ih =>
    intro σ v0 v1 v4 v5 r τ hf
    rw [f12_plan_p108] at hf
    refine ev_iload (i := 5) (q := 3) rfl d12_plan_108 ?_
    refine ev_iload (i := 4) (q := 2) rfl d12_plan_110 ?_
    rcases ite_some hf with ⟨c46, hf⟩ | ⟨c46, hf⟩
    · refine ev_icmp_gt_P (tgt := 139) c46 (by decide) d12_plan_112 ?_
      refine ev_aload_n (j := 0) (i := 0) (q := 0) rfl rfl d12_plan_115 ?_
      obtain ⟨h47, hf⟩ := gd_some hf
      obtain ⟨b48, e49, hf⟩ := lt_some hf
      obtain ⟨h50, hf⟩ := gd_some hf
      refine ev_getRb cls12 (j := 67) (by decide) rfl w1318 h47 e49 (nz_ne h50) d12_plan_116 ?_
      refine ev_iload (i := 5) (q := 3) rfl d12_plan_119 ?_
      refine ev_aload_n (j := 0) (i := 0) (q := 0) rfl rfl d12_plan_121 ?_
      refine ev_iload (i := 5) (q := 3) rfl d12_plan_122 ?_
      refine ev_iload_n (j := 1) (i := 1) (q := 1) rfl rfl d12_plan_124 ?_
      refine ev_aload_n (j := 0) (i := 0) (q := 0) rfl rfl d12_plan_125 ?_
      refine ev_getI cls12 (j := 14) (by decide) rfl w1265 h47 d12_plan_126 ?_
      obtain ⟨r51, t52, k53, hf⟩ := bd_some hf
      have q54 := s12_wayOf _ _ _ _ _ _ _ k53
      refine ev_callV (vs := [.int v5, .int v1, .int (sI σ v0 14)]) (sk := [.int v5, .ref b48]) cls12 h47 q54 (by decide) (Nat.le_of_ble_eq_true rfl) w1803 w1805 ws96 w19 w1806 k12_wayOf rfl (Nat.le_of_ble_eq_true rfl) d12_plan_129 ?_
      obtain ⟨h55, hf⟩ := gd_some hf
      obtain ⟨h56, hf⟩ := gd_some hf
      obtain ⟨t57, e58, hf⟩ := lt_some hf
      refine ev_iast h55 h56 d12_plan_132 (ev_nmS e58 ?_)
      obtain ⟨y59, e60, hf⟩ := lt_some hf
      refine ev_iinc (lv2 := [(5, .int y59), (0, .ref v0), (1, .int v1), (4, .int v4)]) (i := 5) (q := 3) (v := y59) (n := 1) rfl (by rw [ci_1]; exact e60.symm) (by decide) rfl d12_plan_133 ?_
      refine ev_goto (tgt := 108) (by decide) d12_plan_136 ?_
      exact Ev.sub [1, 2, 3, 0] rfl (ih _ _ _ _ _ _ _ hf)
    · refine ev_icmp_gt_Q (tgt := 139) c46 (by decide) d12_plan_112 ?_
      refine ev_iconst ci_0 d12_plan_139 ?_
      refine ev_istore (lv2 := [(5, .int (0 : Int32)), (0, .ref v0), (1, .int v1), (4, .int v4)]) (i := 5) (by decide) rfl d12_plan_140 ?_
      exact Ev.sub [1, 2, 0] rfl (s12_plan_p142 FU _ _ _ _ _ _ hf)
def f12_plan (σ : St) (v0 : Nat) (v1 : Int32) (v2 : Int32) (v3 : Int32) (v4 : Int32) : Option (Int32 × St) :=
  gd (ob σ v0 12) (
  lt (wI σ v0 0 (0 : Int32)) fun t2 => (
  bd (f12_within t2 v1 (sI t2 v0 14) (999 : Int32)) fun r4 t5 => (
  (if r4 = (0 : Int32) then
  some ((-1 : Int32), t5)
  else
  bd (f12_arePlanned t5 v0 v2) fun r9 t10 => (
  (if r9 = (0 : Int32) then
  some ((-1 : Int32), t10)
  else
  bd (f12_within t10 v3 (0 : Int32) (11 : Int32)) fun r14 t15 => (
  (if r14 = (0 : Int32) then
  some ((-1 : Int32), t15)
  else
  bd (f12_within t15 v4 v3 (11 : Int32)) fun r19 t20 => (
  (if r19 = (0 : Int32) then
  some ((-1 : Int32), t20)
  else
  (if (v4 - v3) ≤ (3 : Int32) then
  lt (wI t20 v0 62 v2) fun t25 => (
  lt (wI t25 v0 68 v1) fun t27 => (
  bd (f12_heightAt t27 v0 v1 (sI t27 v0 14)) fun r29 t30 => (
  lt (wI t30 v0 69 r29) fun t33 => (
  bd (f12_iceAt t33 v0 v1 (sI t33 v0 14)) fun r35 t36 => (
  gd (isB r35) (
  lt (wI t36 v0 70 r35) fun t40 => (
  lt (wI t40 v0 71 v3) fun t42 => (
  lt (wI t42 v0 72 v4) fun t44 => (
  f12_plan_p108 FU t44 v0 v1 v4 v3)))))))))
  else
  some ((-1 : Int32), t20))))))))))))
set_option maxRecDepth 50000 in
theorem s12_plan : ∀ (σ : St) (v0 : Nat) (v1 : Int32) (v2 : Int32) (v3 : Int32) (v4 : Int32) (r : Int32) (τ : St), f12_plan σ v0 v1 v2 v3 v4 = some (r, τ) → Call 17 m12_plan [.ref v0, .int v1, .int v2, .int v3, .int v4] σ (some (.int r)) τ := by
  intro σ v0 v1 v2 v3 v4 r τ hf
  unfold f12_plan at hf
  refine Call.of (by decide +kernel) rfl (Nat.le_of_ble_eq_true rfl) ?_
  refine ev_aload_n (j := 0) (i := 0) (q := 0) rfl rfl d12_plan_0 ?_
  refine ev_iconst ci_0 d12_plan_1 ?_
  obtain ⟨h1, hf⟩ := gd_some hf
  obtain ⟨t2, e3, hf⟩ := lt_some hf
  refine ev_putI cls12 (j := 0) (by decide) rfl rfl w1251 h1 (fun _ => ⟨rfl, rfl⟩) d12_plan_2 (ev_nmS e3 ?_)
  refine ev_iload_n (j := 1) (i := 1) (q := 1) rfl rfl d12_plan_5 ?_
  refine ev_aload_n (j := 0) (i := 0) (q := 0) rfl rfl d12_plan_6 ?_
  refine ev_getI cls12 (j := 14) (by decide) rfl w1265 (mono_ob (mono_eI e3) h1) d12_plan_7 ?_
  refine ev_sipush cs_999 d12_plan_10 ?_
  obtain ⟨r4, t5, k6, hf⟩ := bd_some hf
  have q7 := s12_within _ _ _ _ _ _ k6
  refine ev_callS (vs := [.int v1, .int (sI t2 v0 14), .int (999 : Int32)]) (sk := []) q7 (by decide) (Nat.le_of_ble_eq_true rfl) w1497 w1498 w19 w1499 k12_within rfl (Nat.le_of_ble_eq_true rfl) d12_plan_13 ?_
  rcases ite_some hf with ⟨c8, hf⟩ | ⟨c8, hf⟩
  · refine ev_if_eq_P (tgt := 56) c8 (by decide) d12_plan_16 ?_
    refine ev_iconst ci_m1 d12_plan_56 ?_
    obtain ⟨rfl, rfl⟩ := ret_some hf
    exact ev_iret rfl d12_plan_57
  · refine ev_if_eq_Q (tgt := 56) c8 (by decide) d12_plan_16 ?_
    refine ev_aload_n (j := 0) (i := 0) (q := 0) rfl rfl d12_plan_19 ?_
    refine ev_iload_n (j := 2) (i := 2) (q := 2) rfl rfl d12_plan_20 ?_
    obtain ⟨r9, t10, k11, hf⟩ := bd_some hf
    have q12 := s12_arePlanned _ _ _ _ _ k11
    refine ev_callV (vs := [.int v2]) (sk := []) cls12 (mono_ob q7.1 (mono_ob (mono_eI e3) h1)) q12 (by decide) (Nat.le_of_ble_eq_true rfl) w1864 w1866 ws105 w19 w1867 k12_arePlanned rfl (Nat.le_of_ble_eq_true rfl) d12_plan_21 ?_
    rcases ite_some hf with ⟨c13, hf⟩ | ⟨c13, hf⟩
    · refine ev_if_eq_P (tgt := 56) c13 (by decide) d12_plan_24 ?_
      refine ev_iconst ci_m1 d12_plan_56 ?_
      obtain ⟨rfl, rfl⟩ := ret_some hf
      exact ev_iret rfl d12_plan_57
    · refine ev_if_eq_Q (tgt := 56) c13 (by decide) d12_plan_24 ?_
      refine ev_iload_n (j := 3) (i := 3) (q := 3) rfl rfl d12_plan_27 ?_
      refine ev_iconst ci_0 d12_plan_28 ?_
      refine ev_bipush cb_11 d12_plan_29 ?_
      obtain ⟨r14, t15, k16, hf⟩ := bd_some hf
      have q17 := s12_within _ _ _ _ _ _ k16
      refine ev_callS (vs := [.int v3, .int (0 : Int32), .int (11 : Int32)]) (sk := []) q17 (by decide) (Nat.le_of_ble_eq_true rfl) w1497 w1498 w19 w1499 k12_within rfl (Nat.le_of_ble_eq_true rfl) d12_plan_31 ?_
      rcases ite_some hf with ⟨c18, hf⟩ | ⟨c18, hf⟩
      · refine ev_if_eq_P (tgt := 56) c18 (by decide) d12_plan_34 ?_
        refine ev_iconst ci_m1 d12_plan_56 ?_
        obtain ⟨rfl, rfl⟩ := ret_some hf
        exact ev_iret rfl d12_plan_57
      · refine ev_if_eq_Q (tgt := 56) c18 (by decide) d12_plan_34 ?_
        refine ev_iload (i := 4) (q := 4) rfl d12_plan_37 ?_
        refine ev_iload_n (j := 3) (i := 3) (q := 3) rfl rfl d12_plan_39 ?_
        refine ev_bipush cb_11 d12_plan_40 ?_
        obtain ⟨r19, t20, k21, hf⟩ := bd_some hf
        have q22 := s12_within _ _ _ _ _ _ k21
        refine ev_callS (vs := [.int v4, .int v3, .int (11 : Int32)]) (sk := []) q22 (by decide) (Nat.le_of_ble_eq_true rfl) w1497 w1498 w19 w1499 k12_within rfl (Nat.le_of_ble_eq_true rfl) d12_plan_42 ?_
        rcases ite_some hf with ⟨c23, hf⟩ | ⟨c23, hf⟩
        · refine ev_if_eq_P (tgt := 56) c23 (by decide) d12_plan_45 ?_
          refine ev_iconst ci_m1 d12_plan_56 ?_
          obtain ⟨rfl, rfl⟩ := ret_some hf
          exact ev_iret rfl d12_plan_57
        · refine ev_if_eq_Q (tgt := 56) c23 (by decide) d12_plan_45 ?_
          refine ev_iload (i := 4) (q := 4) rfl d12_plan_48 ?_
          refine ev_iload_n (j := 3) (i := 3) (q := 3) rfl rfl d12_plan_50 ?_
          refine ev_isub d12_plan_51 ?_
          refine ev_iconst ci_3 d12_plan_52 ?_
          rcases ite_some hf with ⟨c24, hf⟩ | ⟨c24, hf⟩
          · refine ev_icmp_le_P (tgt := 58) c24 (by decide) d12_plan_53 ?_
            refine ev_aload_n (j := 0) (i := 0) (q := 0) rfl rfl d12_plan_58 ?_
            refine ev_iload_n (j := 2) (i := 2) (q := 2) rfl rfl d12_plan_59 ?_
            obtain ⟨t25, e26, hf⟩ := lt_some hf
            refine ev_putI cls12 (j := 62) (by decide) rfl rfl w1313 (mono_ob q22.1 (mono_ob q17.1 (mono_ob q12.1 (mono_ob q7.1 (mono_ob (mono_eI e3) h1))))) (fun _ => ⟨rfl, rfl⟩) d12_plan_60 (ev_nmS e26 ?_)
            refine ev_aload_n (j := 0) (i := 0) (q := 0) rfl rfl d12_plan_63 ?_
            refine ev_iload_n (j := 1) (i := 1) (q := 1) rfl rfl d12_plan_64 ?_
            obtain ⟨t27, e28, hf⟩ := lt_some hf
            refine ev_putI cls12 (j := 68) (by decide) rfl rfl w1319 (mono_ob (mono_eI e26) (mono_ob q22.1 (mono_ob q17.1 (mono_ob q12.1 (mono_ob q7.1 (mono_ob (mono_eI e3) h1)))))) (fun _ => ⟨rfl, rfl⟩) d12_plan_65 (ev_nmS e28 ?_)
            refine ev_aload_n (j := 0) (i := 0) (q := 0) rfl rfl d12_plan_68 ?_
            refine ev_aload_n (j := 0) (i := 0) (q := 0) rfl rfl d12_plan_69 ?_
            refine ev_iload_n (j := 1) (i := 1) (q := 1) rfl rfl d12_plan_70 ?_
            refine ev_aload_n (j := 0) (i := 0) (q := 0) rfl rfl d12_plan_71 ?_
            refine ev_getI cls12 (j := 14) (by decide) rfl w1265 (mono_ob (mono_eI e28) (mono_ob (mono_eI e26) (mono_ob q22.1 (mono_ob q17.1 (mono_ob q12.1 (mono_ob q7.1 (mono_ob (mono_eI e3) h1))))))) d12_plan_72 ?_
            obtain ⟨r29, t30, k31, hf⟩ := bd_some hf
            have q32 := s12_heightAt _ _ _ _ _ _ k31
            refine ev_callV (vs := [.int v1, .int (sI t27 v0 14)]) (sk := [.ref v0]) cls12 (mono_ob (mono_eI e28) (mono_ob (mono_eI e26) (mono_ob q22.1 (mono_ob q17.1 (mono_ob q12.1 (mono_ob q7.1 (mono_ob (mono_eI e3) h1))))))) q32 (by decide) (Nat.le_of_ble_eq_true rfl) w1595 w1597 ws62 w19 w1598 k12_heightAt rfl (Nat.le_of_ble_eq_true rfl) d12_plan_75 ?_
            obtain ⟨t33, e34, hf⟩ := lt_some hf
            refine ev_putI cls12 (j := 69) (by decide) rfl rfl w1320 (mono_ob q32.1 (mono_ob (mono_eI e28) (mono_ob (mono_eI e26) (mono_ob q22.1 (mono_ob q17.1 (mono_ob q12.1 (mono_ob q7.1 (mono_ob (mono_eI e3) h1)))))))) (fun _ => ⟨rfl, rfl⟩) d12_plan_78 (ev_nmS e34 ?_)
            refine ev_aload_n (j := 0) (i := 0) (q := 0) rfl rfl d12_plan_81 ?_
            refine ev_aload_n (j := 0) (i := 0) (q := 0) rfl rfl d12_plan_82 ?_
            refine ev_iload_n (j := 1) (i := 1) (q := 1) rfl rfl d12_plan_83 ?_
            refine ev_aload_n (j := 0) (i := 0) (q := 0) rfl rfl d12_plan_84 ?_
            refine ev_getI cls12 (j := 14) (by decide) rfl w1265 (mono_ob (mono_eI e34) (mono_ob q32.1 (mono_ob (mono_eI e28) (mono_ob (mono_eI e26) (mono_ob q22.1 (mono_ob q17.1 (mono_ob q12.1 (mono_ob q7.1 (mono_ob (mono_eI e3) h1))))))))) d12_plan_85 ?_
            obtain ⟨r35, t36, k37, hf⟩ := bd_some hf
            have q38 := s12_iceAt _ _ _ _ _ _ k37
            refine ev_callV (vs := [.int v1, .int (sI t33 v0 14)]) (sk := [.ref v0]) cls12 (mono_ob (mono_eI e34) (mono_ob q32.1 (mono_ob (mono_eI e28) (mono_ob (mono_eI e26) (mono_ob q22.1 (mono_ob q17.1 (mono_ob q12.1 (mono_ob q7.1 (mono_ob (mono_eI e3) h1))))))))) q38 (by decide) (Nat.le_of_ble_eq_true rfl) w1603 w1605 ws63 w19 w1606 k12_iceAt rfl (Nat.le_of_ble_eq_true rfl) d12_plan_88 ?_
            obtain ⟨h39, hf⟩ := gd_some hf
            obtain ⟨t40, e41, hf⟩ := lt_some hf
            refine ev_putI cls12 (j := 70) (by decide) rfl rfl w1321 (mono_ob q38.1 (mono_ob (mono_eI e34) (mono_ob q32.1 (mono_ob (mono_eI e28) (mono_ob (mono_eI e26) (mono_ob q22.1 (mono_ob q17.1 (mono_ob q12.1 (mono_ob q7.1 (mono_ob (mono_eI e3) h1)))))))))) (narB2 h39) d12_plan_91 (ev_nmS e41 ?_)
            refine ev_aload_n (j := 0) (i := 0) (q := 0) rfl rfl d12_plan_94 ?_
            refine ev_iload_n (j := 3) (i := 3) (q := 3) rfl rfl d12_plan_95 ?_
            obtain ⟨t42, e43, hf⟩ := lt_some hf
            refine ev_putI cls12 (j := 71) (by decide) rfl rfl w1322 (mono_ob (mono_eI e41) (mono_ob q38.1 (mono_ob (mono_eI e34) (mono_ob q32.1 (mono_ob (mono_eI e28) (mono_ob (mono_eI e26) (mono_ob q22.1 (mono_ob q17.1 (mono_ob q12.1 (mono_ob q7.1 (mono_ob (mono_eI e3) h1))))))))))) (fun _ => ⟨rfl, rfl⟩) d12_plan_96 (ev_nmS e43 ?_)
            refine ev_aload_n (j := 0) (i := 0) (q := 0) rfl rfl d12_plan_99 ?_
            refine ev_iload (i := 4) (q := 4) rfl d12_plan_100 ?_
            obtain ⟨t44, e45, hf⟩ := lt_some hf
            refine ev_putI cls12 (j := 72) (by decide) rfl rfl w1323 (mono_ob (mono_eI e43) (mono_ob (mono_eI e41) (mono_ob q38.1 (mono_ob (mono_eI e34) (mono_ob q32.1 (mono_ob (mono_eI e28) (mono_ob (mono_eI e26) (mono_ob q22.1 (mono_ob q17.1 (mono_ob q12.1 (mono_ob q7.1 (mono_ob (mono_eI e3) h1)))))))))))) (fun _ => ⟨rfl, rfl⟩) d12_plan_102 (ev_nmS e45 ?_)
            refine ev_iload_n (j := 3) (i := 3) (q := 3) rfl rfl d12_plan_105 ?_
            refine ev_istore (lv2 := [(5, .int v3), (0, .ref v0), (1, .int v1), (2, .int v2), (3, .int v3), (4, .int v4)]) (i := 5) (by decide) rfl d12_plan_106 ?_
            exact Ev.sub [1, 2, 5, 0] rfl (s12_plan_p108 FU _ _ _ _ _ _ _ hf)
          · refine ev_icmp_le_Q (tgt := 58) c24 (by decide) d12_plan_53 ?_
            refine ev_iconst ci_m1 d12_plan_56 ?_
            obtain ⟨rfl, rfl⟩ := ret_some hf
            exact ev_iret rfl d12_plan_57
abbrev m12_planned : MD := ("MillBoatsModel", ⟨"MillBoatsModel", "planned", "(I)I"⟩, prog_14_method_96_code, 2, (some Jvm.ClassFile.FieldType.int))
theorem k12_planned : okY m12_planned.2.1 1 := ⟨by decide +kernel, by decide +kernel, by decide +kernel⟩
def f12_planned (σ : St) (v0 : Nat) (v1 : Int32) : Option (Int32 × St) :=
  gd (ob σ v0 12) (
  lt (wI σ v0 0 (0 : Int32)) fun t2 => (
  (if (sI t2 v0 61) = (0 : Int32) then
  some ((-2 : Int32), t2)
  else
  bd (f12_isMill t2 v0 v1) fun r5 t6 => (
  (if r5 = (0 : Int32) then
  some ((-2 : Int32), t6)
  else
  bd (f12_isIn t6 v0 v1) fun r10 t11 => (
  (if r10 = (0 : Int32) then
  some ((-2 : Int32), t11)
  else
  lt (sR t11 v0 63) fun b15 => (
  gd (nz b15) (
  gd (ob t11 b15 14) (
  gd (inb t11 b15 v1) (
  some (sI t11 b15 (ix v1), t11))))))))))))
set_option maxRecDepth 50000 in
theorem s12_planned : ∀ (σ : St) (v0 : Nat) (v1 : Int32) (r : Int32) (τ : St), f12_planned σ v0 v1 = some (r, τ) → Call 3 m12_planned [.ref v0, .int v1] σ (some (.int r)) τ := by
  intro σ v0 v1 r τ hf
  unfold f12_planned at hf
  refine Call.of (by decide +kernel) rfl (Nat.le_of_ble_eq_true rfl) ?_
  refine ev_aload_n (j := 0) (i := 0) (q := 0) rfl rfl d12_planned_0 ?_
  refine ev_iconst ci_0 d12_planned_1 ?_
  obtain ⟨h1, hf⟩ := gd_some hf
  obtain ⟨t2, e3, hf⟩ := lt_some hf
  refine ev_putI cls12 (j := 0) (by decide) rfl rfl w1251 h1 (fun _ => ⟨rfl, rfl⟩) d12_planned_2 (ev_nmS e3 ?_)
  refine ev_aload_n (j := 0) (i := 0) (q := 0) rfl rfl d12_planned_5 ?_
  refine ev_getI cls12 (j := 61) (by decide) rfl w1312 (mono_ob (mono_eI e3) h1) d12_planned_6 ?_
  rcases ite_some hf with ⟨c4, hf⟩ | ⟨c4, hf⟩
  · refine ev_if_eq_P (tgt := 37) c4 (by decide) d12_planned_9 ?_
    refine ev_bipush cb_m2 d12_planned_37 ?_
    obtain ⟨rfl, rfl⟩ := ret_some hf
    exact ev_iret rfl d12_planned_39
  · refine ev_if_eq_Q (tgt := 37) c4 (by decide) d12_planned_9 ?_
    refine ev_aload_n (j := 0) (i := 0) (q := 0) rfl rfl d12_planned_12 ?_
    refine ev_iload_n (j := 1) (i := 1) (q := 1) rfl rfl d12_planned_13 ?_
    obtain ⟨r5, t6, k7, hf⟩ := bd_some hf
    have q8 := s12_isMill _ _ _ _ _ k7
    refine ev_callV (vs := [.int v1]) (sk := []) cls12 (mono_ob (mono_eI e3) h1) q8 (by decide) (Nat.le_of_ble_eq_true rfl) w1520 w1522 ws52 w19 w1523 k12_isMill rfl (Nat.le_of_ble_eq_true rfl) d12_planned_14 ?_
    rcases ite_some hf with ⟨c9, hf⟩ | ⟨c9, hf⟩
    · refine ev_if_eq_P (tgt := 37) c9 (by decide) d12_planned_17 ?_
      refine ev_bipush cb_m2 d12_planned_37 ?_
      obtain ⟨rfl, rfl⟩ := ret_some hf
      exact ev_iret rfl d12_planned_39
    · refine ev_if_eq_Q (tgt := 37) c9 (by decide) d12_planned_17 ?_
      refine ev_aload_n (j := 0) (i := 0) (q := 0) rfl rfl d12_planned_20 ?_
      refine ev_iload_n (j := 1) (i := 1) (q := 1) rfl rfl d12_planned_21 ?_
      obtain ⟨r10, t11, k12, hf⟩ := bd_some hf
      have q13 := s12_isIn _ _ _ _ _ k12
      refine ev_callV (vs := [.int v1]) (sk := []) cls12 (mono_ob q8.1 (mono_ob (mono_eI e3) h1)) q13 (by decide) (Nat.le_of_ble_eq_true rfl) w1868 w1870 ws106 w19 w1871 k12_isIn rfl (Nat.le_of_ble_eq_true rfl) d12_planned_22 ?_
      rcases ite_some hf with ⟨c14, hf⟩ | ⟨c14, hf⟩
      · refine ev_if_eq_P (tgt := 37) c14 (by decide) d12_planned_25 ?_
        refine ev_bipush cb_m2 d12_planned_37 ?_
        obtain ⟨rfl, rfl⟩ := ret_some hf
        exact ev_iret rfl d12_planned_39
      · refine ev_if_eq_Q (tgt := 37) c14 (by decide) d12_planned_25 ?_
        refine ev_aload_n (j := 0) (i := 0) (q := 0) rfl rfl d12_planned_28 ?_
        obtain ⟨b15, e16, hf⟩ := lt_some hf
        obtain ⟨h17, hf⟩ := gd_some hf
        refine ev_getRb cls12 (j := 63) (by decide) rfl w1314 (mono_ob q13.1 (mono_ob q8.1 (mono_ob (mono_eI e3) h1))) e16 (nz_ne h17) d12_planned_29 ?_
        refine ev_iload_n (j := 1) (i := 1) (q := 1) rfl rfl d12_planned_32 ?_
        obtain ⟨h18, hf⟩ := gd_some hf
        obtain ⟨h19, hf⟩ := gd_some hf
        refine ev_iald h18 h19 d12_planned_33 ?_
        refine ev_goto (tgt := 39) (by decide) d12_planned_34 ?_
        obtain ⟨rfl, rfl⟩ := ret_some hf
        exact ev_iret rfl d12_planned_39
abbrev m12_isFree : MD := ("MillBoatsModel", ⟨"MillBoatsModel", "isFree", "(III)Z"⟩, prog_14_method_97_code, 5, (some Jvm.ClassFile.FieldType.boolean))
theorem k12_isFree : okY m12_isFree.2.1 3 := ⟨by decide +kernel, by decide +kernel, by decide +kernel⟩
def f12_isFree_p19 (σ : St) (v0 : Nat) (v1 : Int32) (v2 : Int32) (v3 : Int32) : Option (Int32 × St) :=
  gd (ob σ v0 12) (
  bd (f12_depth σ v0 v2 v3) fun r9 t10 => (
  lt (sR t10 v0 6) fun b13 => (
  gd (nz b13) (
  gd (ob t10 b13 14) (
  gd (inb t10 b13 v1) (
  (if r9 < (sI t10 b13 (ix v1)) then
  some ((0 : Int32), t10)
  else
  some ((1 : Int32), t10))))))))
set_option maxRecDepth 20000 in
theorem s12_isFree_p19 : ∀ (σ : St) (v0 : Nat) (v1 : Int32) (v2 : Int32) (v3 : Int32) (r : Int32) (τ : St), f12_isFree_p19 σ v0 v1 v2 v3 = some (r, τ) → Ev 3 m12_isFree 19 [(0, .ref v0), (1, .int v1), (2, .int v2), (3, .int v3)] [] σ (some (.int r)) τ := by
  intro σ v0 v1 v2 v3 r τ hf
  unfold f12_isFree_p19 at hf
  refine ev_aload_n (j := 0) (i := 0) (q := 0) rfl rfl d12_isFree_19 ?_
  refine ev_iload_n (j := 2) (i := 2) (q := 2) rfl rfl d12_isFree_20 ?_
  refine ev_iload_n (j := 3) (i := 3) (q := 3) rfl rfl d12_isFree_21 ?_
  obtain ⟨h8, hf⟩ := gd_some hf
  obtain ⟨r9, t10, k11, hf⟩ := bd_some hf
  have q12 := s12_depth _ _ _ _ _ _ k11
  refine ev_callV (vs := [.int v2, .int v3]) (sk := []) cls12 h8 q12 (by decide) (Nat.le_of_ble_eq_true rfl) w1556 w1558 ws58 w19 w1559 k12_depth rfl (Nat.le_of_ble_eq_true rfl) d12_isFree_22 ?_
  refine ev_aload_n (j := 0) (i := 0) (q := 0) rfl rfl d12_isFree_25 ?_
  obtain ⟨b13, e14, hf⟩ := lt_some hf
  obtain ⟨h15, hf⟩ := gd_some hf
  refine ev_getRb cls12 (j := 6) (by decide) rfl w1257 (mono_ob q12.1 h8) e14 (nz_ne h15) d12_isFree_26 ?_
  refine ev_iload_n (j := 1) (i := 1) (q := 1) rfl rfl d12_isFree_29 ?_
  obtain ⟨h16, hf⟩ := gd_some hf
  obtain ⟨h17, hf⟩ := gd_some hf
  refine ev_iald h16 h17 d12_isFree_30 ?_
  rcases ite_some hf with ⟨c18, hf⟩ | ⟨c18, hf⟩
  · refine ev_icmp_lt_P (tgt := 38) c18 (by decide) d12_isFree_31 ?_
    refine ev_iconst ci_0 d12_isFree_38 ?_
    obtain ⟨rfl, rfl⟩ := ret_some hf
    exact ev_zret rfl (by decide) d12_isFree_39
  · refine ev_icmp_lt_Q (tgt := 38) c18 (by decide) d12_isFree_31 ?_
    refine ev_iconst ci_1 d12_isFree_34 ?_
    refine ev_goto (tgt := 39) (by decide) d12_isFree_35 ?_
    obtain ⟨rfl, rfl⟩ := ret_some hf
    exact ev_zret rfl (by decide) d12_isFree_39
def f12_isFree (σ : St) (v0 : Nat) (v1 : Int32) (v2 : Int32) (v3 : Int32) : Option (Int32 × St) :=
  gd (ob σ v0 12) (
  bd (f12_millAt σ v0 v2) fun r2 t3 => (
  (if r2 = (-1 : Int32) then
  f12_isFree_p19 t3 v0 v1 v2 v3
  else
  (if r2 = v1 then
  f12_isFree_p19 t3 v0 v1 v2 v3
  else
  some ((0 : Int32), t3)))))
set_option maxRecDepth 50000 in
theorem s12_isFree : ∀ (σ : St) (v0 : Nat) (v1 : Int32) (v2 : Int32) (v3 : Int32) (r : Int32) (τ : St), f12_isFree σ v0 v1 v2 v3 = some (r, τ) → Call 3 m12_isFree [.ref v0, .int v1, .int v2, .int v3] σ (some (.int r)) τ := by
  intro σ v0 v1 v2 v3 r τ hf
  unfold f12_isFree at hf
  refine Call.of (by decide +kernel) rfl (Nat.le_of_ble_eq_true rfl) ?_
  refine ev_aload_n (j := 0) (i := 0) (q := 0) rfl rfl d12_isFree_0 ?_
  refine ev_iload_n (j := 2) (i := 2) (q := 2) rfl rfl d12_isFree_1 ?_
  obtain ⟨h1, hf⟩ := gd_some hf
  obtain ⟨r2, t3, k4, hf⟩ := bd_some hf
  have q5 := s12_millAt _ _ _ _ _ k4
  refine ev_callV (vs := [.int v2]) (sk := []) cls12 h1 q5 (by decide) (Nat.le_of_ble_eq_true rfl) w1524 w1526 ws53 w19 w1527 k12_millAt rfl (Nat.le_of_ble_eq_true rfl) d12_isFree_2 ?_
  refine ev_istore (lv2 := [(4, .int r2), (0, .ref v0), (1, .int v1), (2, .int v2), (3, .int v3)]) (i := 4) (by decide) rfl d12_isFree_5 ?_
  refine ev_iload (i := 4) (q := 0) rfl d12_isFree_7 ?_
  refine ev_iconst ci_m1 d12_isFree_9 ?_
  rcases ite_some hf with ⟨c6, hf⟩ | ⟨c6, hf⟩
  · refine ev_icmp_eq_P (tgt := 19) c6 (by decide) d12_isFree_10 ?_
    exact Ev.sub [1, 2, 3, 4] rfl (s12_isFree_p19 _ _ _ _ _ _ _ hf)
  · refine ev_icmp_eq_Q (tgt := 19) c6 (by decide) d12_isFree_10 ?_
    refine ev_iload (i := 4) (q := 0) rfl d12_isFree_13 ?_
    refine ev_iload_n (j := 1) (i := 1) (q := 2) rfl rfl d12_isFree_15 ?_
    rcases ite_some hf with ⟨c7, hf⟩ | ⟨c7, hf⟩
    · refine ev_icmp_ne_P (tgt := 38) c7 (by decide) d12_isFree_16 ?_
      exact Ev.sub [1, 2, 3, 4] rfl (s12_isFree_p19 _ _ _ _ _ _ _ hf)
    · refine ev_icmp_ne_Q (tgt := 38) c7 (by decide) d12_isFree_16 ?_
      refine ev_iconst ci_0 d12_isFree_38 ?_
      obtain ⟨rfl, rfl⟩ := ret_some hf
      exact ev_zret rfl (by decide) d12_isFree_39
abbrev m12_isShore : MD := ("MillBoatsModel", ⟨"MillBoatsModel", "isShore", "(I)Z"⟩, prog_14_method_98_code, 1, (some Jvm.ClassFile.FieldType.boolean))
theorem k12_isShore : okY m12_isShore.2.1 1 := ⟨by decide +kernel, by decide +kernel, by decide +kernel⟩
def f12_isShore (σ : St) (v0 : Int32) : Option (Int32 × St) :=
  (if (v0 / (12 : Int32)) = (0 : Int32) then
  some ((1 : Int32), σ)
  else
  (if (v0 / (12 : Int32)) = (5 : Int32) then
  some ((1 : Int32), σ)
  else
  some ((0 : Int32), σ)))
set_option maxRecDepth 50000 in
theorem s12_isShore : ∀ (σ : St) (v0 : Int32) (r : Int32) (τ : St), f12_isShore σ v0 = some (r, τ) → Call 2 m12_isShore [.int v0] σ (some (.int r)) τ := by
  intro σ v0 r τ hf
  unfold f12_isShore at hf
  refine Call.of (by decide +kernel) rfl (Nat.le_of_ble_eq_true rfl) ?_
  refine ev_iload_n (j := 0) (i := 0) (q := 0) rfl rfl d12_isShore_0 ?_
  refine ev_bipush cb_12 d12_isShore_1 ?_
  refine ev_idiv (by decide) d12_isShore_3 ?_
  rcases ite_some hf with ⟨c1, hf⟩ | ⟨c1, hf⟩
  · refine ev_if_eq_P (tgt := 15) c1 (by decide) d12_isShore_4 ?_
    refine ev_iconst ci_1 d12_isShore_15 ?_
    refine ev_goto (tgt := 20) (by decide) d12_isShore_16 ?_
    obtain ⟨rfl, rfl⟩ := ret_some hf
    exact ev_zret rfl (by decide) d12_isShore_20
  · refine ev_if_eq_Q (tgt := 15) c1 (by decide) d12_isShore_4 ?_
    refine ev_iload_n (j := 0) (i := 0) (q := 0) rfl rfl d12_isShore_7 ?_
    refine ev_bipush cb_12 d12_isShore_8 ?_
    refine ev_idiv (by decide) d12_isShore_10 ?_
    refine ev_iconst ci_5 d12_isShore_11 ?_
    rcases ite_some hf with ⟨c2, hf⟩ | ⟨c2, hf⟩
    · refine ev_icmp_ne_P (tgt := 19) c2 (by decide) d12_isShore_12 ?_
      refine ev_iconst ci_1 d12_isShore_15 ?_
      refine ev_goto (tgt := 20) (by decide) d12_isShore_16 ?_
      obtain ⟨rfl, rfl⟩ := ret_some hf
      exact ev_zret rfl (by decide) d12_isShore_20
    · refine ev_icmp_ne_Q (tgt := 19) c2 (by decide) d12_isShore_12 ?_
      refine ev_iconst ci_0 d12_isShore_19 ?_
      obtain ⟨rfl, rfl⟩ := ret_some hf
      exact ev_zret rfl (by decide) d12_isShore_20
