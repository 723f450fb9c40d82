theorem d2_makesWay_0 : decode prog_4_method_6_code 0 = .ok (.aload_n 0, 1) := by decide +kernel
theorem d2_makesWay_1 : decode prog_4_method_6_code 1 = .ok (.getfield 15, 3) := by decide +kernel
theorem d2_makesWay_4 : decode prog_4_method_6_code 4 = .ok (.getfield 36, 3) := by decide +kernel
theorem d2_makesWay_7 : decode prog_4_method_6_code 7 = .ok (.iload_n 1, 1) := by decide +kernel
theorem d2_makesWay_8 : decode prog_4_method_6_code 8 = .ok (.iaload, 1) := by decide +kernel
theorem d2_makesWay_9 : decode prog_4_method_6_code 9 = .ok (.istore 5, 2) := by decide +kernel
theorem d2_makesWay_11 : decode prog_4_method_6_code 11 = .ok (.aload_n 0, 1) := by decide +kernel
theorem d2_makesWay_12 : decode prog_4_method_6_code 12 = .ok (.getfield 15, 3) := by decide +kernel
theorem d2_makesWay_15 : decode prog_4_method_6_code 15 = .ok (.iload_n 1, 1) := by decide +kernel
theorem d2_makesWay_16 : decode prog_4_method_6_code 16 = .ok (.aload_n 0, 1) := by decide +kernel
theorem d2_makesWay_17 : decode prog_4_method_6_code 17 = .ok (.getfield 15, 3) := by decide +kernel
theorem d2_makesWay_20 : decode prog_4_method_6_code 20 = .ok (.getfield 36, 3) := by decide +kernel
theorem d2_makesWay_23 : decode prog_4_method_6_code 23 = .ok (.aload_n 0, 1) := by decide +kernel
theorem d2_makesWay_24 : decode prog_4_method_6_code 24 = .ok (.getfield 26, 3) := by decide +kernel
theorem d2_makesWay_27 : decode prog_4_method_6_code 27 = .ok (.aload_n 0, 1) := by decide +kernel
theorem d2_makesWay_28 : decode prog_4_method_6_code 28 = .ok (.getfield 29, 3) := by decide +kernel
theorem d2_makesWay_31 : decode prog_4_method_6_code 31 = .ok (.invokevirtual 39, 3) := by decide +kernel
theorem d2_makesWay_34 : decode prog_4_method_6_code 34 = .ok (.istore 6, 2) := by decide +kernel
theorem d2_makesWay_36 : decode prog_4_method_6_code 36 = .ok (.iload 6, 2) := by decide +kernel
theorem d2_makesWay_38 : decode prog_4_method_6_code 38 = .ok (.iload_n 3, 1) := by decide +kernel
theorem d2_makesWay_39 : decode prog_4_method_6_code 39 = .ok (.iadd, 1) := by decide +kernel
theorem d2_makesWay_40 : decode prog_4_method_6_code 40 = .ok (.aload_n 0, 1) := by decide +kernel
theorem d2_makesWay_41 : decode prog_4_method_6_code 41 = .ok (.getfield 15, 3) := by decide +kernel
theorem d2_makesWay_44 : decode prog_4_method_6_code 44 = .ok (.getfield 43, 3) := by decide +kernel
theorem d2_makesWay_47 : decode prog_4_method_6_code 47 = .ok (.iload_n 1, 1) := by decide +kernel
theorem d2_makesWay_48 : decode prog_4_method_6_code 48 = .ok (.aaload, 1) := by decide +kernel
theorem d2_makesWay_49 : decode prog_4_method_6_code 49 = .ok (.getfield 47, 3) := by decide +kernel
theorem d2_makesWay_52 : decode prog_4_method_6_code 52 = .ok (.if_icmp .le 10, 3) := by decide +kernel
theorem d2_makesWay_55 : decode prog_4_method_6_code 55 = .ok (.iload 4, 2) := by decide +kernel
theorem d2_makesWay_57 : decode prog_4_method_6_code 57 = .ok (.bipush 6, 2) := by decide +kernel
theorem d2_makesWay_59 : decode prog_4_method_6_code 59 = .ok (.if_icmp .lt 5, 3) := by decide +kernel
theorem d2_makesWay_62 : decode prog_4_method_6_code 62 = .ok (.iconst 0, 1) := by decide +kernel
theorem d2_makesWay_63 : decode prog_4_method_6_code 63 = .ok (.ireturn, 1) := by decide +kernel
theorem d2_makesWay_64 : decode prog_4_method_6_code 64 = .ok (.aload_n 0, 1) := by decide +kernel
theorem d2_makesWay_65 : decode prog_4_method_6_code 65 = .ok (.iconst 2, 1) := by decide +kernel
theorem d2_makesWay_66 : decode prog_4_method_6_code 66 = .ok (.iload_n 1, 1) := by decide +kernel
theorem d2_makesWay_67 : decode prog_4_method_6_code 67 = .ok (.iload_n 2, 1) := by decide +kernel
theorem d2_makesWay_68 : decode prog_4_method_6_code 68 = .ok (.iload 5, 2) := by decide +kernel
theorem d2_makesWay_70 : decode prog_4_method_6_code 70 = .ok (.invokevirtual 52, 3) := by decide +kernel
theorem d2_makesWay_73 : decode prog_4_method_6_code 73 = .ok (.aload_n 0, 1) := by decide +kernel
theorem d2_makesWay_74 : decode prog_4_method_6_code 74 = .ok (.iload_n 1, 1) := by decide +kernel
theorem d2_makesWay_75 : decode prog_4_method_6_code 75 = .ok (.iload 6, 2) := by decide +kernel
theorem d2_makesWay_77 : decode prog_4_method_6_code 77 = .ok (.iload 4, 2) := by decide +kernel
theorem d2_makesWay_79 : decode prog_4_method_6_code 79 = .ok (.iconst 1, 1) := by decide +kernel
theorem d2_makesWay_80 : decode prog_4_method_6_code 80 = .ok (.iadd, 1) := by decide +kernel
theorem d2_makesWay_81 : decode prog_4_method_6_code 81 = .ok (.invokevirtual 56, 3) := by decide +kernel
theorem d2_makesWay_84 : decode prog_4_method_6_code 84 = .ok (.aload_n 0, 1) := by decide +kernel
theorem d2_makesWay_85 : decode prog_4_method_6_code 85 = .ok (.getfield 15, 3) := by decide +kernel
theorem d2_makesWay_88 : decode prog_4_method_6_code 88 = .ok (.getfield 36, 3) := by decide +kernel
theorem d2_makesWay_91 : decode prog_4_method_6_code 91 = .ok (.iload_n 1, 1) := by decide +kernel
theorem d2_makesWay_92 : decode prog_4_method_6_code 92 = .ok (.iaload, 1) := by decide +kernel
theorem d2_makesWay_93 : decode prog_4_method_6_code 93 = .ok (.iload 5, 2) := by decide +kernel
theorem d2_makesWay_95 : decode prog_4_method_6_code 95 = .ok (.if_icmp .eq 7, 3) := by decide +kernel
theorem d2_makesWay_98 : decode prog_4_method_6_code 98 = .ok (.iconst 1, 1) := by decide +kernel
theorem d2_makesWay_99 : decode prog_4_method_6_code 99 = .ok (.goto 4, 3) := by decide +kernel
theorem d2_makesWay_102 : decode prog_4_method_6_code 102 = .ok (.iconst 0, 1) := by decide +kernel
theorem d2_makesWay_103 : decode prog_4_method_6_code 103 = .ok (.ireturn, 1) := by decide +kernel
theorem d2_driftOn_0 : decode prog_4_method_5_code 0 = .ok (.iconst 0, 1) := by decide +kernel
theorem d2_driftOn_1 : decode prog_4_method_5_code 1 = .ok (.istore 4, 2) := by decide +kernel
theorem d2_driftOn_3 : decode prog_4_method_5_code 3 = .ok (.iload 4, 2) := by decide +kernel
theorem d2_driftOn_5 : decode prog_4_method_5_code 5 = .ok (.bipush 12, 2) := by decide +kernel
theorem d2_driftOn_7 : decode prog_4_method_5_code 7 = .ok (.if_icmp .ge 144, 3) := by decide +kernel
theorem d2_driftOn_10 : decode prog_4_method_5_code 10 = .ok (.aload_n 0, 1) := by decide +kernel
theorem d2_driftOn_11 : decode prog_4_method_5_code 11 = .ok (.getfield 15, 3) := by decide +kernel
theorem d2_driftOn_14 : decode prog_4_method_5_code 14 = .ok (.iload_n 1, 1) := by decide +kernel
theorem d2_driftOn_15 : decode prog_4_method_5_code 15 = .ok (.invokevirtual 60, 3) := by decide +kernel
theorem d2_driftOn_18 : decode prog_4_method_5_code 18 = .ok (.ifCond .eq 133, 3) := by decide +kernel
theorem d2_driftOn_21 : decode prog_4_method_5_code 21 = .ok (.aload_n 0, 1) := by decide +kernel
theorem d2_driftOn_22 : decode prog_4_method_5_code 22 = .ok (.getfield 15, 3) := by decide +kernel
theorem d2_driftOn_25 : decode prog_4_method_5_code 25 = .ok (.getfield 36, 3) := by decide +kernel
theorem d2_driftOn_28 : decode prog_4_method_5_code 28 = .ok (.iload_n 1, 1) := by decide +kernel
theorem d2_driftOn_29 : decode prog_4_method_5_code 29 = .ok (.iaload, 1) := by decide +kernel
theorem d2_driftOn_30 : decode prog_4_method_5_code 30 = .ok (.istore 5, 2) := by decide +kernel
theorem d2_driftOn_32 : decode prog_4_method_5_code 32 = .ok (.iload 5, 2) := by decide +kernel
theorem d2_driftOn_34 : decode prog_4_method_5_code 34 = .ok (.invokestatic 64, 3) := by decide +kernel
theorem d2_driftOn_37 : decode prog_4_method_5_code 37 = .ok (.bipush 11, 2) := by decide +kernel
theorem d2_driftOn_39 : decode prog_4_method_5_code 39 = .ok (.if_icmp .ne 23, 3) := by decide +kernel
theorem d2_driftOn_42 : decode prog_4_method_5_code 42 = .ok (.aload_n 0, 1) := by decide +kernel
theorem d2_driftOn_43 : decode prog_4_method_5_code 43 = .ok (.getfield 15, 3) := by decide +kernel
theorem d2_driftOn_46 : decode prog_4_method_5_code 46 = .ok (.getfield 36, 3) := by decide +kernel
theorem d2_driftOn_49 : decode prog_4_method_5_code 49 = .ok (.iload_n 1, 1) := by decide +kernel
theorem d2_driftOn_50 : decode prog_4_method_5_code 50 = .ok (.bipush (-2), 2) := by decide +kernel
theorem d2_driftOn_52 : decode prog_4_method_5_code 52 = .ok (.iastore, 1) := by decide +kernel
theorem d2_driftOn_53 : decode prog_4_method_5_code 53 = .ok (.aload_n 0, 1) := by decide +kernel
theorem d2_driftOn_54 : decode prog_4_method_5_code 54 = .ok (.iconst 5, 1) := by decide +kernel
theorem d2_driftOn_55 : decode prog_4_method_5_code 55 = .ok (.iload_n 1, 1) := by decide +kernel
theorem d2_driftOn_56 : decode prog_4_method_5_code 56 = .ok (.iconst (-1), 1) := by decide +kernel
theorem d2_driftOn_57 : decode prog_4_method_5_code 57 = .ok (.iconst (-1), 1) := by decide +kernel
theorem d2_driftOn_58 : decode prog_4_method_5_code 58 = .ok (.invokevirtual 52, 3) := by decide +kernel
theorem d2_driftOn_61 : decode prog_4_method_5_code 61 = .ok (.return_, 1) := by decide +kernel
theorem d2_driftOn_62 : decode prog_4_method_5_code 62 = .ok (.aload_n 0, 1) := by decide +kernel
theorem d2_driftOn_63 : decode prog_4_method_5_code 63 = .ok (.iload_n 1, 1) := by decide +kernel
theorem d2_driftOn_64 : decode prog_4_method_5_code 64 = .ok (.iload 5, 2) := by decide +kernel
theorem d2_driftOn_66 : decode prog_4_method_5_code 66 = .ok (.invokevirtual 68, 3) := by decide +kernel
theorem d2_driftOn_69 : decode prog_4_method_5_code 69 = .ok (.istore 6, 2) := by decide +kernel
theorem d2_driftOn_71 : decode prog_4_method_5_code 71 = .ok (.iload 6, 2) := by decide +kernel
theorem d2_driftOn_73 : decode prog_4_method_5_code 73 = .ok (.iconst (-1), 1) := by decide +kernel
theorem d2_driftOn_74 : decode prog_4_method_5_code 74 = .ok (.if_icmp .ne 13, 3) := by decide +kernel
theorem d2_driftOn_77 : decode prog_4_method_5_code 77 = .ok (.aload_n 0, 1) := by decide +kernel
theorem d2_driftOn_78 : decode prog_4_method_5_code 78 = .ok (.iconst 4, 1) := by decide +kernel
theorem d2_driftOn_79 : decode prog_4_method_5_code 79 = .ok (.iload_n 1, 1) := by decide +kernel
theorem d2_driftOn_80 : decode prog_4_method_5_code 80 = .ok (.iconst (-1), 1) := by decide +kernel
theorem d2_driftOn_81 : decode prog_4_method_5_code 81 = .ok (.iload 5, 2) := by decide +kernel
theorem d2_driftOn_83 : decode prog_4_method_5_code 83 = .ok (.invokevirtual 52, 3) := by decide +kernel
theorem d2_driftOn_86 : decode prog_4_method_5_code 86 = .ok (.return_, 1) := by decide +kernel
theorem d2_driftOn_87 : decode prog_4_method_5_code 87 = .ok (.aload_n 0, 1) := by decide +kernel
theorem d2_driftOn_88 : decode prog_4_method_5_code 88 = .ok (.getfield 15, 3) := by decide +kernel
theorem d2_driftOn_91 : decode prog_4_method_5_code 91 = .ok (.iload 6, 2) := by decide +kernel
theorem d2_driftOn_93 : decode prog_4_method_5_code 93 = .ok (.aload_n 0, 1) := by decide +kernel
theorem d2_driftOn_94 : decode prog_4_method_5_code 94 = .ok (.getfield 15, 3) := by decide +kernel
theorem d2_driftOn_97 : decode prog_4_method_5_code 97 = .ok (.getfield 36, 3) := by decide +kernel
theorem d2_driftOn_100 : decode prog_4_method_5_code 100 = .ok (.invokevirtual 72, 3) := by decide +kernel
theorem d2_driftOn_103 : decode prog_4_method_5_code 103 = .ok (.istore 7, 2) := by decide +kernel
theorem d2_driftOn_105 : decode prog_4_method_5_code 105 = .ok (.iload 7, 2) := by decide +kernel
theorem d2_driftOn_107 : decode prog_4_method_5_code 107 = .ok (.iconst (-1), 1) := by decide +kernel
theorem d2_driftOn_108 : decode prog_4_method_5_code 108 = .ok (.if_icmp .eq 26, 3) := by decide +kernel
theorem d2_driftOn_111 : decode prog_4_method_5_code 111 = .ok (.aload_n 0, 1) := by decide +kernel
theorem d2_driftOn_112 : decode prog_4_method_5_code 112 = .ok (.iload 7, 2) := by decide +kernel
theorem d2_driftOn_114 : decode prog_4_method_5_code 114 = .ok (.iload_n 1, 1) := by decide +kernel
theorem d2_driftOn_115 : decode prog_4_method_5_code 115 = .ok (.iload_n 2, 1) := by decide +kernel
theorem d2_driftOn_116 : decode prog_4_method_5_code 116 = .ok (.iload_n 3, 1) := by decide +kernel
theorem d2_driftOn_117 : decode prog_4_method_5_code 117 = .ok (.invokevirtual 76, 3) := by decide +kernel
theorem d2_driftOn_120 : decode prog_4_method_5_code 120 = .ok (.ifCond .ne 14, 3) := by decide +kernel
theorem d2_driftOn_123 : decode prog_4_method_5_code 123 = .ok (.aload_n 0, 1) := by decide +kernel
theorem d2_driftOn_124 : decode prog_4_method_5_code 124 = .ok (.iconst 3, 1) := by decide +kernel
theorem d2_driftOn_125 : decode prog_4_method_5_code 125 = .ok (.iload_n 1, 1) := by decide +kernel
theorem d2_driftOn_126 : decode prog_4_method_5_code 126 = .ok (.iload 7, 2) := by decide +kernel
theorem d2_driftOn_128 : decode prog_4_method_5_code 128 = .ok (.iload 5, 2) := by decide +kernel
theorem d2_driftOn_130 : decode prog_4_method_5_code 130 = .ok (.invokevirtual 52, 3) := by decide +kernel
theorem d2_driftOn_133 : decode prog_4_method_5_code 133 = .ok (.return_, 1) := by decide +kernel
theorem d2_driftOn_134 : decode prog_4_method_5_code 134 = .ok (.aload_n 0, 1) := by decide +kernel
theorem d2_driftOn_135 : decode prog_4_method_5_code 135 = .ok (.getfield 15, 3) := by decide +kernel
theorem d2_driftOn_138 : decode prog_4_method_5_code 138 = .ok (.getfield 36, 3) := by decide +kernel
theorem d2_driftOn_141 : decode prog_4_method_5_code 141 = .ok (.iload_n 1, 1) := by decide +kernel
theorem d2_driftOn_142 : decode prog_4_method_5_code 142 = .ok (.iload 6, 2) := by decide +kernel
theorem d2_driftOn_144 : decode prog_4_method_5_code 144 = .ok (.iastore, 1) := by decide +kernel
theorem d2_driftOn_145 : decode prog_4_method_5_code 145 = .ok (.iinc 4 1, 3) := by decide +kernel
theorem d2_driftOn_148 : decode prog_4_method_5_code 148 = .ok (.goto (-145), 3) := by decide +kernel
theorem d2_driftOn_151 : decode prog_4_method_5_code 151 = .ok (.return_, 1) := by decide +kernel
theorem d2_breakChains_0 : decode prog_4_method_4_code 0 = .ok (.aload_n 0, 1) := by decide +kernel
theorem d2_breakChains_1 : decode prog_4_method_4_code 1 = .ok (.iload_n 1, 1) := by decide +kernel
theorem d2_breakChains_2 : decode prog_4_method_4_code 2 = .ok (.putfield 23, 3) := by decide +kernel
theorem d2_breakChains_5 : decode prog_4_method_4_code 5 = .ok (.aload_n 0, 1) := by decide +kernel
theorem d2_breakChains_6 : decode prog_4_method_4_code 6 = .ok (.iload_n 2, 1) := by decide +kernel
theorem d2_breakChains_7 : decode prog_4_method_4_code 7 = .ok (.putfield 26, 3) := by decide +kernel
theorem d2_breakChains_10 : decode prog_4_method_4_code 10 = .ok (.aload_n 0, 1) := by decide +kernel
theorem d2_breakChains_11 : decode prog_4_method_4_code 11 = .ok (.iload_n 3, 1) := by decide +kernel
theorem d2_breakChains_12 : decode prog_4_method_4_code 12 = .ok (.putfield 29, 3) := by decide +kernel
theorem d2_breakChains_15 : decode prog_4_method_4_code 15 = .ok (.iconst 0, 1) := by decide +kernel
theorem d2_breakChains_16 : decode prog_4_method_4_code 16 = .ok (.istore 4, 2) := by decide +kernel
theorem d2_breakChains_18 : decode prog_4_method_4_code 18 = .ok (.iload 4, 2) := by decide +kernel
theorem d2_breakChains_20 : decode prog_4_method_4_code 20 = .ok (.aload_n 0, 1) := by decide +kernel
theorem d2_breakChains_21 : decode prog_4_method_4_code 21 = .ok (.getfield 15, 3) := by decide +kernel
theorem d2_breakChains_24 : decode prog_4_method_4_code 24 = .ok (.getfield 33, 3) := by decide +kernel
theorem d2_breakChains_27 : decode prog_4_method_4_code 27 = .ok (.if_icmp .ge 80, 3) := by decide +kernel
theorem d2_breakChains_30 : decode prog_4_method_4_code 30 = .ok (.aload_n 0, 1) := by decide +kernel
theorem d2_breakChains_31 : decode prog_4_method_4_code 31 = .ok (.getfield 15, 3) := by decide +kernel
theorem d2_breakChains_34 : decode prog_4_method_4_code 34 = .ok (.iload 4, 2) := by decide +kernel
theorem d2_breakChains_36 : decode prog_4_method_4_code 36 = .ok (.aload_n 0, 1) := by decide +kernel
theorem d2_breakChains_37 : decode prog_4_method_4_code 37 = .ok (.getfield 15, 3) := by decide +kernel
theorem d2_breakChains_40 : decode prog_4_method_4_code 40 = .ok (.getfield 36, 3) := by decide +kernel
theorem d2_breakChains_43 : decode prog_4_method_4_code 43 = .ok (.aload_n 0, 1) := by decide +kernel
theorem d2_breakChains_44 : decode prog_4_method_4_code 44 = .ok (.getfield 26, 3) := by decide +kernel
theorem d2_breakChains_47 : decode prog_4_method_4_code 47 = .ok (.aload_n 0, 1) := by decide +kernel
theorem d2_breakChains_48 : decode prog_4_method_4_code 48 = .ok (.getfield 29, 3) := by decide +kernel
theorem d2_breakChains_51 : decode prog_4_method_4_code 51 = .ok (.invokevirtual 39, 3) := by decide +kernel
theorem d2_breakChains_54 : decode prog_4_method_4_code 54 = .ok (.istore 5, 2) := by decide +kernel
theorem d2_breakChains_56 : decode prog_4_method_4_code 56 = .ok (.iload 5, 2) := by decide +kernel
theorem d2_breakChains_58 : decode prog_4_method_4_code 58 = .ok (.aload_n 0, 1) := by decide +kernel
theorem d2_breakChains_59 : decode prog_4_method_4_code 59 = .ok (.getfield 15, 3) := by decide +kernel
theorem d2_breakChains_62 : decode prog_4_method_4_code 62 = .ok (.getfield 43, 3) := by decide +kernel
theorem d2_breakChains_65 : decode prog_4_method_4_code 65 = .ok (.iload 4, 2) := by decide +kernel
theorem d2_breakChains_67 : decode prog_4_method_4_code 67 = .ok (.aaload, 1) := by decide +kernel
theorem d2_breakChains_68 : decode prog_4_method_4_code 68 = .ok (.getfield 47, 3) := by decide +kernel
theorem d2_breakChains_71 : decode prog_4_method_4_code 71 = .ok (.if_icmp .le 30, 3) := by decide +kernel
theorem d2_breakChains_74 : decode prog_4_method_4_code 74 = .ok (.aload_n 0, 1) := by decide +kernel
theorem d2_breakChains_75 : decode prog_4_method_4_code 75 = .ok (.iconst 1, 1) := by decide +kernel
theorem d2_breakChains_76 : decode prog_4_method_4_code 76 = .ok (.iload 4, 2) := by decide +kernel
theorem d2_breakChains_78 : decode prog_4_method_4_code 78 = .ok (.iconst (-1), 1) := by decide +kernel
theorem d2_breakChains_79 : decode prog_4_method_4_code 79 = .ok (.aload_n 0, 1) := by decide +kernel
theorem d2_breakChains_80 : decode prog_4_method_4_code 80 = .ok (.getfield 15, 3) := by decide +kernel
theorem d2_breakChains_83 : decode prog_4_method_4_code 83 = .ok (.getfield 36, 3) := by decide +kernel
theorem d2_breakChains_86 : decode prog_4_method_4_code 86 = .ok (.iload 4, 2) := by decide +kernel
theorem d2_breakChains_88 : decode prog_4_method_4_code 88 = .ok (.iaload, 1) := by decide +kernel
theorem d2_breakChains_89 : decode prog_4_method_4_code 89 = .ok (.invokevirtual 52, 3) := by decide +kernel
theorem d2_breakChains_92 : decode prog_4_method_4_code 92 = .ok (.aload_n 0, 1) := by decide +kernel
theorem d2_breakChains_93 : decode prog_4_method_4_code 93 = .ok (.iload 4, 2) := by decide +kernel
theorem d2_breakChains_95 : decode prog_4_method_4_code 95 = .ok (.iload 5, 2) := by decide +kernel
theorem d2_breakChains_97 : decode prog_4_method_4_code 97 = .ok (.iconst 0, 1) := by decide +kernel
theorem d2_breakChains_98 : decode prog_4_method_4_code 98 = .ok (.invokevirtual 56, 3) := by decide +kernel
theorem d2_breakChains_101 : decode prog_4_method_4_code 101 = .ok (.iinc 4 1, 3) := by decide +kernel
theorem d2_breakChains_104 : decode prog_4_method_4_code 104 = .ok (.goto (-86), 3) := by decide +kernel
theorem d2_breakChains_107 : decode prog_4_method_4_code 107 = .ok (.return_, 1) := by decide +kernel
theorem d3_init_0 : decode prog_5_method_1_code 0 = .ok (.aload_n 0, 1) := by decide +kernel
theorem d3_init_1 : decode prog_5_method_1_code 1 = .ok (.invokespecial 3, 3) := by decide +kernel
theorem d3_init_4 : decode prog_5_method_1_code 4 = .ok (.aload_n 0, 1) := by decide +kernel
theorem d3_init_5 : decode prog_5_method_1_code 5 = .ok (.iconst 2, 1) := by decide +kernel
theorem d3_init_6 : decode prog_5_method_1_code 6 = .ok (.newarray .int, 2) := by decide +kernel
theorem d3_init_8 : decode prog_5_method_1_code 8 = .ok (.putfield 9, 3) := by decide +kernel
theorem d3_init_11 : decode prog_5_method_1_code 11 = .ok (.aload_n 0, 1) := by decide +kernel
theorem d3_init_12 : decode prog_5_method_1_code 12 = .ok (.iconst 2, 1) := by decide +kernel
theorem d3_init_13 : decode prog_5_method_1_code 13 = .ok (.newarray .int, 2) := by decide +kernel
theorem d3_init_15 : decode prog_5_method_1_code 15 = .ok (.putfield 15, 3) := by decide +kernel
theorem d3_init_18 : decode prog_5_method_1_code 18 = .ok (.aload_n 0, 1) := by decide +kernel
theorem d3_init_19 : decode prog_5_method_1_code 19 = .ok (.bipush 60, 2) := by decide +kernel
theorem d3_init_21 : decode prog_5_method_1_code 21 = .ok (.newarray .int, 2) := by decide +kernel
theorem d3_init_23 : decode prog_5_method_1_code 23 = .ok (.putfield 18, 3) := by decide +kernel
theorem d3_init_26 : decode prog_5_method_1_code 26 = .ok (.aload_n 0, 1) := by decide +kernel
theorem d3_init_27 : decode prog_5_method_1_code 27 = .ok (.bipush 60, 2) := by decide +kernel
theorem d3_init_29 : decode prog_5_method_1_code 29 = .ok (.newarray .int, 2) := by decide +kernel
theorem d3_init_31 : decode prog_5_method_1_code 31 = .ok (.putfield 21, 3) := by decide +kernel
theorem d3_init_34 : decode prog_5_method_1_code 34 = .ok (.aload_n 0, 1) := by decide +kernel
theorem d3_init_35 : decode prog_5_method_1_code 35 = .ok (.bipush 60, 2) := by decide +kernel
theorem d3_init_37 : decode prog_5_method_1_code 37 = .ok (.newarray .int, 2) := by decide +kernel
theorem d3_init_39 : decode prog_5_method_1_code 39 = .ok (.putfield 24, 3) := by decide +kernel
theorem d3_init_42 : decode prog_5_method_1_code 42 = .ok (.aload_n 0, 1) := by decide +kernel
theorem d3_init_43 : decode prog_5_method_1_code 43 = .ok (.bipush 60, 2) := by decide +kernel
theorem d3_init_45 : decode prog_5_method_1_code 45 = .ok (.newarray .int, 2) := by decide +kernel
theorem d3_init_47 : decode prog_5_method_1_code 47 = .ok (.putfield 27, 3) := by decide +kernel
theorem d3_init_50 : decode prog_5_method_1_code 50 = .ok (.aload_n 0, 1) := by decide +kernel
theorem d3_init_51 : decode prog_5_method_1_code 51 = .ok (.bipush 60, 2) := by decide +kernel
theorem d3_init_53 : decode prog_5_method_1_code 53 = .ok (.newarray .int, 2) := by decide +kernel
theorem d3_init_55 : decode prog_5_method_1_code 55 = .ok (.putfield 30, 3) := by decide +kernel
theorem d3_init_58 : decode prog_5_method_1_code 58 = .ok (.aload_n 0, 1) := by decide +kernel
theorem d3_init_59 : decode prog_5_method_1_code 59 = .ok (.aload_n 1, 1) := by decide +kernel
theorem d3_init_60 : decode prog_5_method_1_code 60 = .ok (.putfield 33, 3) := by decide +kernel
theorem d3_init_63 : decode prog_5_method_1_code 63 = .ok (.aload_n 0, 1) := by decide +kernel
theorem d3_init_64 : decode prog_5_method_1_code 64 = .ok (.aload_n 2, 1) := by decide +kernel
theorem d3_init_65 : decode prog_5_method_1_code 65 = .ok (.putfield 37, 3) := by decide +kernel
theorem d3_init_68 : decode prog_5_method_1_code 68 = .ok (.return_, 1) := by decide +kernel
theorem d3_take_0 : decode prog_5_method_2_code 0 = .ok (.aload_n 0, 1) := by decide +kernel
theorem d3_take_1 : decode prog_5_method_2_code 1 = .ok (.getfield 41, 3) := by decide +kernel
theorem d3_take_4 : decode prog_5_method_2_code 4 = .ok (.bipush 60, 2) := by decide +kernel
theorem d3_take_6 : decode prog_5_method_2_code 6 = .ok (.if_icmp .lt 5, 3) := by decide +kernel
theorem d3_take_9 : decode prog_5_method_2_code 9 = .ok (.iconst (-1), 1) := by decide +kernel
theorem d3_take_10 : decode prog_5_method_2_code 10 = .ok (.ireturn, 1) := by decide +kernel
theorem d3_take_11 : decode prog_5_method_2_code 11 = .ok (.aload_n 0, 1) := by decide +kernel
theorem d3_take_12 : decode prog_5_method_2_code 12 = .ok (.getfield 18, 3) := by decide +kernel
theorem d3_take_15 : decode prog_5_method_2_code 15 = .ok (.aload_n 0, 1) := by decide +kernel
theorem d3_take_16 : decode prog_5_method_2_code 16 = .ok (.getfield 41, 3) := by decide +kernel
theorem d3_take_19 : decode prog_5_method_2_code 19 = .ok (.iload_n 1, 1) := by decide +kernel
theorem d3_take_20 : decode prog_5_method_2_code 20 = .ok (.iastore, 1) := by decide +kernel
theorem d3_take_21 : decode prog_5_method_2_code 21 = .ok (.aload_n 0, 1) := by decide +kernel
theorem d3_take_22 : decode prog_5_method_2_code 22 = .ok (.getfield 21, 3) := by decide +kernel
theorem d3_take_25 : decode prog_5_method_2_code 25 = .ok (.aload_n 0, 1) := by decide +kernel
theorem d3_take_26 : decode prog_5_method_2_code 26 = .ok (.getfield 41, 3) := by decide +kernel
theorem d3_take_29 : decode prog_5_method_2_code 29 = .ok (.iload_n 2, 1) := by decide +kernel
theorem d3_take_30 : decode prog_5_method_2_code 30 = .ok (.iastore, 1) := by decide +kernel
theorem d3_take_31 : decode prog_5_method_2_code 31 = .ok (.aload_n 0, 1) := by decide +kernel
theorem d3_take_32 : decode prog_5_method_2_code 32 = .ok (.getfield 24, 3) := by decide +kernel
theorem d3_take_35 : decode prog_5_method_2_code 35 = .ok (.aload_n 0, 1) := by decide +kernel
theorem d3_take_36 : decode prog_5_method_2_code 36 = .ok (.getfield 41, 3) := by decide +kernel
theorem d3_take_39 : decode prog_5_method_2_code 39 = .ok (.iload_n 2, 1) := by decide +kernel
theorem d3_take_40 : decode prog_5_method_2_code 40 = .ok (.iastore, 1) := by decide +kernel
theorem d3_take_41 : decode prog_5_method_2_code 41 = .ok (.aload_n 0, 1) := by decide +kernel
theorem d3_take_42 : decode prog_5_method_2_code 42 = .ok (.getfield 30, 3) := by decide +kernel
theorem d3_take_45 : decode prog_5_method_2_code 45 = .ok (.aload_n 0, 1) := by decide +kernel
theorem d3_take_46 : decode prog_5_method_2_code 46 = .ok (.getfield 41, 3) := by decide +kernel
theorem d3_take_49 : decode prog_5_method_2_code 49 = .ok (.iconst (-1), 1) := by decide +kernel
theorem d3_take_50 : decode prog_5_method_2_code 50 = .ok (.iastore, 1) := by decide +kernel
theorem d3_take_51 : decode prog_5_method_2_code 51 = .ok (.aload_n 0, 1) := by decide +kernel
theorem d3_take_52 : decode prog_5_method_2_code 52 = .ok (.dup, 1) := by decide +kernel
theorem d3_take_53 : decode prog_5_method_2_code 53 = .ok (.getfield 41, 3) := by decide +kernel
theorem d3_take_56 : decode prog_5_method_2_code 56 = .ok (.iconst 1, 1) := by decide +kernel
theorem d3_take_57 : decode prog_5_method_2_code 57 = .ok (.iadd, 1) := by decide +kernel
theorem d3_take_58 : decode prog_5_method_2_code 58 = .ok (.putfield 41, 3) := by decide +kernel
theorem d3_take_61 : decode prog_5_method_2_code 61 = .ok (.aload_n 0, 1) := by decide +kernel
theorem d3_take_62 : decode prog_5_method_2_code 62 = .ok (.getfield 41, 3) := by decide +kernel
theorem d3_take_65 : decode prog_5_method_2_code 65 = .ok (.iconst 1, 1) := by decide +kernel
theorem d3_take_66 : decode prog_5_method_2_code 66 = .ok (.isub, 1) := by decide +kernel
theorem d3_take_67 : decode prog_5_method_2_code 67 = .ok (.ireturn, 1) := by decide +kernel
theorem d3_told_0 : decode prog_5_method_3_code 0 = .ok (.iload_n 1, 1) := by decide +kernel
theorem d3_told_1 : decode prog_5_method_3_code 1 = .ok (.ifCond .lt 11, 3) := by decide +kernel
theorem d3_told_4 : decode prog_5_method_3_code 4 = .ok (.iload_n 1, 1) := by decide +kernel
theorem d3_told_5 : decode prog_5_method_3_code 5 = .ok (.aload_n 0, 1) := by decide +kernel
theorem d3_told_6 : decode prog_5_method_3_code 6 = .ok (.getfield 41, 3) := by decide +kernel
theorem d3_told_9 : decode prog_5_method_3_code 9 = .ok (.if_icmp .lt 5, 3) := by decide +kernel
theorem d3_told_12 : decode prog_5_method_3_code 12 = .ok (.iconst (-1), 1) := by decide +kernel
theorem d3_told_13 : decode prog_5_method_3_code 13 = .ok (.ireturn, 1) := by decide +kernel
theorem d3_told_14 : decode prog_5_method_3_code 14 = .ok (.iload_n 2, 1) := by decide +kernel
theorem d3_told_15 : decode prog_5_method_3_code 15 = .ok (.tableswitch 68 0 4 #[33, 40, 47, 54, 61], 33) := by decide +kernel
theorem d3_told_48 : decode prog_5_method_3_code 48 = .ok (.aload_n 0, 1) := by decide +kernel
theorem d3_told_49 : decode prog_5_method_3_code 49 = .ok (.getfield 18, 3) := by decide +kernel
theorem d3_told_52 : decode prog_5_method_3_code 52 = .ok (.iload_n 1, 1) := by decide +kernel
theorem d3_told_53 : decode prog_5_method_3_code 53 = .ok (.iaload, 1) := by decide +kernel
theorem d3_told_54 : decode prog_5_method_3_code 54 = .ok (.ireturn, 1) := by decide +kernel
theorem d3_told_55 : decode prog_5_method_3_code 55 = .ok (.aload_n 0, 1) := by decide +kernel
theorem d3_told_56 : decode prog_5_method_3_code 56 = .ok (.getfield 21, 3) := by decide +kernel
theorem d3_told_59 : decode prog_5_method_3_code 59 = .ok (.iload_n 1, 1) := by decide +kernel
theorem d3_told_60 : decode prog_5_method_3_code 60 = .ok (.iaload, 1) := by decide +kernel
theorem d3_told_61 : decode prog_5_method_3_code 61 = .ok (.ireturn, 1) := by decide +kernel
theorem d3_told_62 : decode prog_5_method_3_code 62 = .ok (.aload_n 0, 1) := by decide +kernel
theorem d3_told_63 : decode prog_5_method_3_code 63 = .ok (.getfield 24, 3) := by decide +kernel
theorem d3_told_66 : decode prog_5_method_3_code 66 = .ok (.iload_n 1, 1) := by decide +kernel
theorem d3_told_67 : decode prog_5_method_3_code 67 = .ok (.iaload, 1) := by decide +kernel
theorem d3_told_68 : decode prog_5_method_3_code 68 = .ok (.ireturn, 1) := by decide +kernel
theorem d3_told_69 : decode prog_5_method_3_code 69 = .ok (.aload_n 0, 1) := by decide +kernel
theorem d3_told_70 : decode prog_5_method_3_code 70 = .ok (.getfield 27, 3) := by decide +kernel
theorem d3_told_73 : decode prog_5_method_3_code 73 = .ok (.iload_n 1, 1) := by decide +kernel
theorem d3_told_74 : decode prog_5_method_3_code 74 = .ok (.iaload, 1) := by decide +kernel
theorem d3_told_75 : decode prog_5_method_3_code 75 = .ok (.ireturn, 1) := by decide +kernel
theorem d3_told_76 : decode prog_5_method_3_code 76 = .ok (.aload_n 0, 1) := by decide +kernel
theorem d3_told_77 : decode prog_5_method_3_code 77 = .ok (.getfield 30, 3) := by decide +kernel
theorem d3_told_80 : decode prog_5_method_3_code 80 = .ok (.iload_n 1, 1) := by decide +kernel
theorem d3_told_81 : decode prog_5_method_3_code 81 = .ok (.iaload, 1) := by decide +kernel
theorem d3_told_82 : decode prog_5_method_3_code 82 = .ok (.ireturn, 1) := by decide +kernel
theorem d3_told_83 : decode prog_5_method_3_code 83 = .ok (.iconst (-1), 1) := by decide +kernel
theorem d3_told_84 : decode prog_5_method_3_code 84 = .ok (.ireturn, 1) := by decide +kernel
theorem d3_sacksLeft_0 : decode prog_5_method_4_code 0 = .ok (.iconst 0, 1) := by decide +kernel
theorem d3_sacksLeft_1 : decode prog_5_method_4_code 1 = .ok (.istore_n 1, 1) := by decide +kernel
theorem d3_sacksLeft_2 : decode prog_5_method_4_code 2 = .ok (.iconst 0, 1) := by decide +kernel
theorem d3_sacksLeft_3 : decode prog_5_method_4_code 3 = .ok (.istore_n 2, 1) := by decide +kernel
theorem d3_sacksLeft_4 : decode prog_5_method_4_code 4 = .ok (.iload_n 2, 1) := by decide +kernel
theorem d3_sacksLeft_5 : decode prog_5_method_4_code 5 = .ok (.aload_n 0, 1) := by decide +kernel
theorem d3_sacksLeft_6 : decode prog_5_method_4_code 6 = .ok (.getfield 41, 3) := by decide +kernel
theorem d3_sacksLeft_9 : decode prog_5_method_4_code 9 = .ok (.if_icmp .ge 18, 3) := by decide +kernel
theorem d3_sacksLeft_12 : decode prog_5_method_4_code 12 = .ok (.iload_n 1, 1) := by decide +kernel
theorem d3_sacksLeft_13 : decode prog_5_method_4_code 13 = .ok (.aload_n 0, 1) := by decide +kernel
theorem d3_sacksLeft_14 : decode prog_5_method_4_code 14 = .ok (.getfield 24, 3) := by decide +kernel
theorem d3_sacksLeft_17 : decode prog_5_method_4_code 17 = .ok (.iload_n 2, 1) := by decide +kernel
theorem d3_sacksLeft_18 : decode prog_5_method_4_code 18 = .ok (.iaload, 1) := by decide +kernel
theorem d3_sacksLeft_19 : decode prog_5_method_4_code 19 = .ok (.iadd, 1) := by decide +kernel
theorem d3_sacksLeft_20 : decode prog_5_method_4_code 20 = .ok (.istore_n 1, 1) := by decide +kernel
theorem d3_sacksLeft_21 : decode prog_5_method_4_code 21 = .ok (.iinc 2 1, 3) := by decide +kernel
theorem d3_sacksLeft_24 : decode prog_5_method_4_code 24 = .ok (.goto (-20), 3) := by decide +kernel
theorem d3_sacksLeft_27 : decode prog_5_method_4_code 27 = .ok (.iload_n 1, 1) := by decide +kernel
theorem d3_sacksLeft_28 : decode prog_5_method_4_code 28 = .ok (.ireturn, 1) := by decide +kernel
theorem d4_giveBoat_0 : decode prog_6_method_6_code 0 = .ok (.aload_n 0, 1) := by decide +kernel
theorem d4_giveBoat_1 : decode prog_6_method_6_code 1 = .ok (.getfield 16, 3) := by decide +kernel
theorem d4_giveBoat_4 : decode prog_6_method_6_code 4 = .ok (.iload_n 3, 1) := by decide +kernel
theorem d4_giveBoat_5 : decode prog_6_method_6_code 5 = .ok (.iload 4, 2) := by decide +kernel
theorem d4_giveBoat_7 : decode prog_6_method_6_code 7 = .ok (.iconst 5, 1) := by decide +kernel
theorem d4_giveBoat_8 : decode prog_6_method_6_code 8 = .ok (.invokevirtual 68, 3) := by decide +kernel
theorem d4_giveBoat_11 : decode prog_6_method_6_code 11 = .ok (.istore 5, 2) := by decide +kernel
theorem d4_giveBoat_13 : decode prog_6_method_6_code 13 = .ok (.aload_n 0, 1) := by decide +kernel
theorem d4_giveBoat_14 : decode prog_6_method_6_code 14 = .ok (.getfield 47, 3) := by decide +kernel
theorem d4_giveBoat_17 : decode prog_6_method_6_code 17 = .ok (.getfield 72, 3) := by decide +kernel
theorem d4_giveBoat_20 : decode prog_6_method_6_code 20 = .ok (.iload_n 1, 1) := by decide +kernel
theorem d4_giveBoat_21 : decode prog_6_method_6_code 21 = .ok (.aaload, 1) := by decide +kernel
theorem d4_giveBoat_22 : decode prog_6_method_6_code 22 = .ok (.astore 6, 2) := by decide +kernel
theorem d4_giveBoat_24 : decode prog_6_method_6_code 24 = .ok (.aload_n 0, 1) := by decide +kernel
theorem d4_giveBoat_25 : decode prog_6_method_6_code 25 = .ok (.getfield 40, 3) := by decide +kernel
theorem d4_giveBoat_28 : decode prog_6_method_6_code 28 = .ok (.iconst 0, 1) := by decide +kernel
theorem d4_giveBoat_29 : decode prog_6_method_6_code 29 = .ok (.iload_n 2, 1) := by decide +kernel
theorem d4_giveBoat_30 : decode prog_6_method_6_code 30 = .ok (.invokestatic 78, 3) := by decide +kernel
theorem d4_giveBoat_33 : decode prog_6_method_6_code 33 = .ok (.iastore, 1) := by decide +kernel
theorem d4_giveBoat_34 : decode prog_6_method_6_code 34 = .ok (.aload_n 0, 1) := by decide +kernel
theorem d4_giveBoat_35 : decode prog_6_method_6_code 35 = .ok (.getfield 40, 3) := by decide +kernel
theorem d4_giveBoat_38 : decode prog_6_method_6_code 38 = .ok (.iconst 1, 1) := by decide +kernel
theorem d4_giveBoat_39 : decode prog_6_method_6_code 39 = .ok (.iload_n 2, 1) := by decide +kernel
theorem d4_giveBoat_40 : decode prog_6_method_6_code 40 = .ok (.invokestatic 82, 3) := by decide +kernel
theorem d4_giveBoat_43 : decode prog_6_method_6_code 43 = .ok (.iastore, 1) := by decide +kernel
theorem d4_giveBoat_44 : decode prog_6_method_6_code 44 = .ok (.aload_n 0, 1) := by decide +kernel
theorem d4_giveBoat_45 : decode prog_6_method_6_code 45 = .ok (.getfield 40, 3) := by decide +kernel
theorem d4_giveBoat_48 : decode prog_6_method_6_code 48 = .ok (.iconst 2, 1) := by decide +kernel
theorem d4_giveBoat_49 : decode prog_6_method_6_code 49 = .ok (.iload 5, 2) := by decide +kernel
theorem d4_giveBoat_51 : decode prog_6_method_6_code 51 = .ok (.iastore, 1) := by decide +kernel
theorem d4_giveBoat_52 : decode prog_6_method_6_code 52 = .ok (.aload_n 0, 1) := by decide +kernel
theorem d4_giveBoat_53 : decode prog_6_method_6_code 53 = .ok (.getfield 40, 3) := by decide +kernel
theorem d4_giveBoat_56 : decode prog_6_method_6_code 56 = .ok (.iconst 3, 1) := by decide +kernel
theorem d4_giveBoat_57 : decode prog_6_method_6_code 57 = .ok (.aload_n 0, 1) := by decide +kernel
theorem d4_giveBoat_58 : decode prog_6_method_6_code 58 = .ok (.getfield 47, 3) := by decide +kernel
theorem d4_giveBoat_61 : decode prog_6_method_6_code 61 = .ok (.iload_n 2, 1) := by decide +kernel
theorem d4_giveBoat_62 : decode prog_6_method_6_code 62 = .ok (.iload 5, 2) := by decide +kernel
theorem d4_giveBoat_64 : decode prog_6_method_6_code 64 = .ok (.invokevirtual 85, 3) := by decide +kernel
theorem d4_giveBoat_67 : decode prog_6_method_6_code 67 = .ok (.iastore, 1) := by decide +kernel
theorem d4_giveBoat_68 : decode prog_6_method_6_code 68 = .ok (.aload_n 0, 1) := by decide +kernel
theorem d4_giveBoat_69 : decode prog_6_method_6_code 69 = .ok (.getfield 40, 3) := by decide +kernel
theorem d4_giveBoat_72 : decode prog_6_method_6_code 72 = .ok (.iconst 4, 1) := by decide +kernel
theorem d4_giveBoat_73 : decode prog_6_method_6_code 73 = .ok (.iload_n 3, 1) := by decide +kernel
theorem d4_giveBoat_74 : decode prog_6_method_6_code 74 = .ok (.iastore, 1) := by decide +kernel
theorem d4_giveBoat_75 : decode prog_6_method_6_code 75 = .ok (.aload_n 0, 1) := by decide +kernel
theorem d4_giveBoat_76 : decode prog_6_method_6_code 76 = .ok (.getfield 40, 3) := by decide +kernel
theorem d4_giveBoat_79 : decode prog_6_method_6_code 79 = .ok (.iconst 5, 1) := by decide +kernel
theorem d4_giveBoat_80 : decode prog_6_method_6_code 80 = .ok (.iload_n 1, 1) := by decide +kernel
theorem d4_giveBoat_81 : decode prog_6_method_6_code 81 = .ok (.iastore, 1) := by decide +kernel
theorem d4_giveBoat_82 : decode prog_6_method_6_code 82 = .ok (.aload_n 0, 1) := by decide +kernel
theorem d4_giveBoat_83 : decode prog_6_method_6_code 83 = .ok (.getfield 40, 3) := by decide +kernel
theorem d4_giveBoat_86 : decode prog_6_method_6_code 86 = .ok (.bipush 6, 2) := by decide +kernel
theorem d4_giveBoat_88 : decode prog_6_method_6_code 88 = .ok (.aload 6, 2) := by decide +kernel
theorem d4_giveBoat_90 : decode prog_6_method_6_code 90 = .ok (.getfield 89, 3) := by decide +kernel
theorem d4_giveBoat_93 : decode prog_6_method_6_code 93 = .ok (.iastore, 1) := by decide +kernel
theorem d4_giveBoat_94 : decode prog_6_method_6_code 94 = .ok (.aload_n 0, 1) := by decide +kernel
theorem d4_giveBoat_95 : decode prog_6_method_6_code 95 = .ok (.getfield 40, 3) := by decide +kernel
theorem d4_giveBoat_98 : decode prog_6_method_6_code 98 = .ok (.bipush 7, 2) := by decide +kernel
theorem d4_giveBoat_100 : decode prog_6_method_6_code 100 = .ok (.aload 6, 2) := by decide +kernel
theorem d4_giveBoat_102 : decode prog_6_method_6_code 102 = .ok (.getfield 94, 3) := by decide +kernel
theorem d4_giveBoat_105 : decode prog_6_method_6_code 105 = .ok (.iastore, 1) := by decide +kernel
theorem d4_giveBoat_106 : decode prog_6_method_6_code 106 = .ok (.aload_n 0, 1) := by decide +kernel
theorem d4_giveBoat_107 : decode prog_6_method_6_code 107 = .ok (.getfield 40, 3) := by decide +kernel
theorem d4_giveBoat_110 : decode prog_6_method_6_code 110 = .ok (.bipush 8, 2) := by decide +kernel
theorem d4_giveBoat_112 : decode prog_6_method_6_code 112 = .ok (.iconst 0, 1) := by decide +kernel
theorem d4_giveBoat_113 : decode prog_6_method_6_code 113 = .ok (.iastore, 1) := by decide +kernel
theorem d4_giveBoat_114 : decode prog_6_method_6_code 114 = .ok (.return_, 1) := by decide +kernel
theorem d4_inForce_0 : decode prog_6_method_5_code 0 = .ok (.aload_n 0, 1) := by decide +kernel
theorem d4_inForce_1 : decode prog_6_method_5_code 1 = .ok (.getfield 23, 3) := by decide +kernel
theorem d4_inForce_4 : decode prog_6_method_5_code 4 = .ok (.iload_n 1, 1) := by decide +kernel
theorem d4_inForce_5 : decode prog_6_method_5_code 5 = .ok (.aaload, 1) := by decide +kernel
theorem d4_inForce_6 : decode prog_6_method_5_code 6 = .ok (.iload_n 2, 1) := by decide +kernel
theorem d4_inForce_7 : decode prog_6_method_5_code 7 = .ok (.iload_n 3, 1) := by decide +kernel
theorem d4_inForce_8 : decode prog_6_method_5_code 8 = .ok (.iconst (-1), 1) := by decide +kernel
theorem d4_inForce_9 : decode prog_6_method_5_code 9 = .ok (.invokevirtual 68, 3) := by decide +kernel
theorem d4_inForce_12 : decode prog_6_method_5_code 12 = .ok (.istore 4, 2) := by decide +kernel
theorem d4_inForce_14 : decode prog_6_method_5_code 14 = .ok (.iload 4, 2) := by decide +kernel
theorem d4_inForce_16 : decode prog_6_method_5_code 16 = .ok (.ifCond .lt 13, 3) := by decide +kernel
theorem d4_inForce_19 : decode prog_6_method_5_code 19 = .ok (.iload 4, 2) := by decide +kernel
theorem d4_inForce_21 : decode prog_6_method_5_code 21 = .ok (.aload_n 0, 1) := by decide +kernel
theorem d4_inForce_22 : decode prog_6_method_5_code 22 = .ok (.getfield 29, 3) := by decide +kernel
theorem d4_inForce_25 : decode prog_6_method_5_code 25 = .ok (.arraylength, 1) := by decide +kernel
theorem d4_inForce_26 : decode prog_6_method_5_code 26 = .ok (.if_icmp .lt 7, 3) := by decide +kernel
theorem d4_inForce_29 : decode prog_6_method_5_code 29 = .ok (.aconst_null, 1) := by decide +kernel
theorem d4_inForce_30 : decode prog_6_method_5_code 30 = .ok (.goto 10, 3) := by decide +kernel
theorem d4_inForce_33 : decode prog_6_method_5_code 33 = .ok (.aload_n 0, 1) := by decide +kernel
theorem d4_inForce_34 : decode prog_6_method_5_code 34 = .ok (.getfield 29, 3) := by decide +kernel
theorem d4_inForce_37 : decode prog_6_method_5_code 37 = .ok (.iload 4, 2) := by decide +kernel
theorem d4_inForce_39 : decode prog_6_method_5_code 39 = .ok (.aaload, 1) := by decide +kernel
theorem d4_inForce_40 : decode prog_6_method_5_code 40 = .ok (.areturn, 1) := by decide +kernel
theorem d4_joined_0 : decode prog_6_method_16_code 0 = .ok (.iload_n 0, 1) := by decide +kernel
theorem d4_joined_1 : decode prog_6_method_16_code 1 = .ok (.tableswitch 111 (-8) (-1) #[107, 111, 96, 85, 74, 65, 56, 47], 47) := by decide +kernel
theorem d4_joined_48 : decode prog_6_method_16_code 48 = .ok (.iload_n 1, 1) := by decide +kernel
theorem d4_joined_49 : decode prog_6_method_16_code 49 = .ok (.i2l, 1) := by decide +kernel
theorem d4_joined_50 : decode prog_6_method_16_code 50 = .ok (.iload_n 2, 1) := by decide +kernel
theorem d4_joined_51 : decode prog_6_method_16_code 51 = .ok (.i2l, 1) := by decide +kernel
theorem d4_joined_52 : decode prog_6_method_16_code 52 = .ok (.ladd, 1) := by decide +kernel
theorem d4_joined_53 : decode prog_6_method_16_code 53 = .ok (.lstore_n 3, 1) := by decide +kernel
theorem d4_joined_54 : decode prog_6_method_16_code 54 = .ok (.goto 62, 3) := by decide +kernel
theorem d4_joined_57 : decode prog_6_method_16_code 57 = .ok (.iload_n 1, 1) := by decide +kernel
theorem d4_joined_58 : decode prog_6_method_16_code 58 = .ok (.i2l, 1) := by decide +kernel
theorem d4_joined_59 : decode prog_6_method_16_code 59 = .ok (.iload_n 2, 1) := by decide +kernel
theorem d4_joined_60 : decode prog_6_method_16_code 60 = .ok (.i2l, 1) := by decide +kernel
theorem d4_joined_61 : decode prog_6_method_16_code 61 = .ok (.lsub, 1) := by decide +kernel
theorem d4_joined_62 : decode prog_6_method_16_code 62 = .ok (.lstore_n 3, 1) := by decide +kernel
theorem d4_joined_63 : decode prog_6_method_16_code 63 = .ok (.goto 53, 3) := by decide +kernel
theorem d4_joined_66 : decode prog_6_method_16_code 66 = .ok (.iload_n 1, 1) := by decide +kernel
theorem d4_joined_67 : decode prog_6_method_16_code 67 = .ok (.i2l, 1) := by decide +kernel
theorem d4_joined_68 : decode prog_6_method_16_code 68 = .ok (.iload_n 2, 1) := by decide +kernel
theorem d4_joined_69 : decode prog_6_method_16_code 69 = .ok (.i2l, 1) := by decide +kernel
theorem d4_joined_70 : decode prog_6_method_16_code 70 = .ok (.lmul, 1) := by decide +kernel
theorem d4_joined_71 : decode prog_6_method_16_code 71 = .ok (.lstore_n 3, 1) := by decide +kernel
theorem d4_joined_72 : decode prog_6_method_16_code 72 = .ok (.goto 44, 3) := by decide +kernel
theorem d4_joined_75 : decode prog_6_method_16_code 75 = .ok (.iload_n 1, 1) := by decide +kernel
theorem d4_joined_76 : decode prog_6_method_16_code 76 = .ok (.iload_n 2, 1) := by decide +kernel
theorem d4_joined_77 : decode prog_6_method_16_code 77 = .ok (.if_icmp .ge 7, 3) := by decide +kernel
theorem d4_joined_80 : decode prog_6_method_16_code 80 = .ok (.iconst 1, 1) := by decide +kernel
theorem d4_joined_81 : decode prog_6_method_16_code 81 = .ok (.goto 4, 3) := by decide +kernel
theorem d4_joined_84 : decode prog_6_method_16_code 84 = .ok (.iconst 0, 1) := by decide +kernel
theorem d4_joined_85 : decode prog_6_method_16_code 85 = .ok (.ireturn, 1) := by decide +kernel
theorem d4_joined_86 : decode prog_6_method_16_code 86 = .ok (.iload_n 1, 1) := by decide +kernel
theorem d4_joined_87 : decode prog_6_method_16_code 87 = .ok (.iload_n 2, 1) := by decide +kernel
theorem d4_joined_88 : decode prog_6_method_16_code 88 = .ok (.if_icmp .le 7, 3) := by decide +kernel
theorem d4_joined_91 : decode prog_6_method_16_code 91 = .ok (.iconst 1, 1) := by decide +kernel
theorem d4_joined_92 : decode prog_6_method_16_code 92 = .ok (.goto 4, 3) := by decide +kernel
theorem d4_joined_95 : decode prog_6_method_16_code 95 = .ok (.iconst 0, 1) := by decide +kernel
theorem d4_joined_96 : decode prog_6_method_16_code 96 = .ok (.ireturn, 1) := by decide +kernel
theorem d4_joined_97 : decode prog_6_method_16_code 97 = .ok (.iload_n 1, 1) := by decide +kernel
theorem d4_joined_98 : decode prog_6_method_16_code 98 = .ok (.iload_n 2, 1) := by decide +kernel
theorem d4_joined_99 : decode prog_6_method_16_code 99 = .ok (.if_icmp .ne 7, 3) := by decide +kernel
theorem d4_joined_102 : decode prog_6_method_16_code 102 = .ok (.iconst 1, 1) := by decide +kernel
theorem d4_joined_103 : decode prog_6_method_16_code 103 = .ok (.goto 4, 3) := by decide +kernel
theorem d4_joined_106 : decode prog_6_method_16_code 106 = .ok (.iconst 0, 1) := by decide +kernel
theorem d4_joined_107 : decode prog_6_method_16_code 107 = .ok (.ireturn, 1) := by decide +kernel
theorem d4_joined_108 : decode prog_6_method_16_code 108 = .ok (.iload_n 1, 1) := by decide +kernel
theorem d4_joined_109 : decode prog_6_method_16_code 109 = .ok (.iload_n 2, 1) := by decide +kernel
theorem d4_joined_110 : decode prog_6_method_16_code 110 = .ok (.iand, 1) := by decide +kernel
theorem d4_joined_111 : decode prog_6_method_16_code 111 = .ok (.ireturn, 1) := by decide +kernel
theorem d4_joined_112 : decode prog_6_method_16_code 112 = .ok (.iload_n 1, 1) := by decide +kernel
theorem d4_joined_113 : decode prog_6_method_16_code 113 = .ok (.iload_n 2, 1) := by decide +kernel
theorem d4_joined_114 : decode prog_6_method_16_code 114 = .ok (.ior, 1) := by decide +kernel
theorem d4_joined_115 : decode prog_6_method_16_code 115 = .ok (.ireturn, 1) := by decide +kernel
theorem d4_joined_116 : decode prog_6_method_16_code 116 = .ok (.lload_n 3, 1) := by decide +kernel
theorem d4_joined_117 : decode prog_6_method_16_code 117 = .ok (.ldc2_w 156, 3) := by decide +kernel
theorem d4_joined_120 : decode prog_6_method_16_code 120 = .ok (.lcmp, 1) := by decide +kernel
theorem d4_joined_121 : decode prog_6_method_16_code 121 = .ok (.ifCond .le 8, 3) := by decide +kernel
theorem d4_joined_124 : decode prog_6_method_16_code 124 = .ok (.ldc 158, 2) := by decide +kernel
theorem d4_joined_126 : decode prog_6_method_16_code 126 = .ok (.goto 18, 3) := by decide +kernel
theorem d4_joined_129 : decode prog_6_method_16_code 129 = .ok (.lload_n 3, 1) := by decide +kernel
theorem d4_joined_130 : decode prog_6_method_16_code 130 = .ok (.ldc2_w 159, 3) := by decide +kernel
theorem d4_joined_133 : decode prog_6_method_16_code 133 = .ok (.lcmp, 1) := by decide +kernel
theorem d4_joined_134 : decode prog_6_method_16_code 134 = .ok (.ifCond .ge 8, 3) := by decide +kernel
theorem d4_joined_137 : decode prog_6_method_16_code 137 = .ok (.ldc 161, 2) := by decide +kernel
theorem d4_joined_139 : decode prog_6_method_16_code 139 = .ok (.goto 5, 3) := by decide +kernel
theorem d4_joined_142 : decode prog_6_method_16_code 142 = .ok (.lload_n 3, 1) := by decide +kernel
theorem d4_joined_143 : decode prog_6_method_16_code 143 = .ok (.l2i, 1) := by decide +kernel
theorem d4_joined_144 : decode prog_6_method_16_code 144 = .ok (.ireturn, 1) := by decide +kernel
theorem d4_named_0 : decode prog_6_method_15_code 0 = .ok (.iload_n 1, 1) := by decide +kernel
theorem d4_named_1 : decode prog_6_method_15_code 1 = .ok (.ifCond .lt 21, 3) := by decide +kernel
theorem d4_named_4 : decode prog_6_method_15_code 4 = .ok (.iload_n 1, 1) := by decide +kernel
theorem d4_named_5 : decode prog_6_method_15_code 5 = .ok (.aload_n 0, 1) := by decide +kernel
theorem d4_named_6 : decode prog_6_method_15_code 6 = .ok (.getfield 40, 3) := by decide +kernel
theorem d4_named_9 : decode prog_6_method_15_code 9 = .ok (.arraylength, 1) := by decide +kernel
theorem d4_named_10 : decode prog_6_method_15_code 10 = .ok (.if_icmp .ge 12, 3) := by decide +kernel
theorem d4_named_13 : decode prog_6_method_15_code 13 = .ok (.aload_n 0, 1) := by decide +kernel
theorem d4_named_14 : decode prog_6_method_15_code 14 = .ok (.getfield 40, 3) := by decide +kernel
theorem d4_named_17 : decode prog_6_method_15_code 17 = .ok (.iload_n 1, 1) := by decide +kernel
theorem d4_named_18 : decode prog_6_method_15_code 18 = .ok (.iaload, 1) := by decide +kernel
theorem d4_named_19 : decode prog_6_method_15_code 19 = .ok (.goto 4, 3) := by decide +kernel
theorem d4_named_22 : decode prog_6_method_15_code 22 = .ok (.iconst 0, 1) := by decide +kernel
theorem d4_named_23 : decode prog_6_method_15_code 23 = .ok (.ireturn, 1) := by decide +kernel
theorem d4_workOut_0 : decode prog_6_method_14_code 0 = .ok (.iconst 0, 1) := by decide +kernel
theorem d4_workOut_1 : decode prog_6_method_14_code 1 = .ok (.istore_n 3, 1) := by decide +kernel
theorem d4_workOut_2 : decode prog_6_method_14_code 2 = .ok (.iload_n 2, 1) := by decide +kernel
theorem d4_workOut_3 : decode prog_6_method_14_code 3 = .ok (.ifCond .le 14, 3) := by decide +kernel
theorem d4_workOut_6 : decode prog_6_method_14_code 6 = .ok (.aload_n 1, 1) := by decide +kernel
theorem d4_workOut_7 : decode prog_6_method_14_code 7 = .ok (.getfield 141, 3) := by decide +kernel
theorem d4_workOut_10 : decode prog_6_method_14_code 10 = .ok (.iload_n 2, 1) := by decide +kernel
theorem d4_workOut_11 : decode prog_6_method_14_code 11 = .ok (.iconst 1, 1) := by decide +kernel
theorem d4_workOut_12 : decode prog_6_method_14_code 12 = .ok (.isub, 1) := by decide +kernel
theorem d4_workOut_13 : decode prog_6_method_14_code 13 = .ok (.iaload, 1) := by decide +kernel
theorem d4_workOut_14 : decode prog_6_method_14_code 14 = .ok (.goto 4, 3) := by decide +kernel
theorem d4_workOut_17 : decode prog_6_method_14_code 17 = .ok (.iconst 0, 1) := by decide +kernel
theorem d4_workOut_18 : decode prog_6_method_14_code 18 = .ok (.istore 4, 2) := by decide +kernel
theorem d4_workOut_20 : decode prog_6_method_14_code 20 = .ok (.aload_n 1, 1) := by decide +kernel
theorem d4_workOut_21 : decode prog_6_method_14_code 21 = .ok (.getfield 141, 3) := by decide +kernel
theorem d4_workOut_24 : decode prog_6_method_14_code 24 = .ok (.iload_n 2, 1) := by decide +kernel
theorem d4_workOut_25 : decode prog_6_method_14_code 25 = .ok (.iaload, 1) := by decide +kernel
theorem d4_workOut_26 : decode prog_6_method_14_code 26 = .ok (.aload_n 1, 1) := by decide +kernel
theorem d4_workOut_27 : decode prog_6_method_14_code 27 = .ok (.getfield 144, 3) := by decide +kernel
theorem d4_workOut_30 : decode prog_6_method_14_code 30 = .ok (.arraylength, 1) := by decide +kernel
theorem d4_workOut_31 : decode prog_6_method_14_code 31 = .ok (.invokestatic 147, 3) := by decide +kernel
theorem d4_workOut_34 : decode prog_6_method_14_code 34 = .ok (.istore 5, 2) := by decide +kernel
theorem d4_workOut_36 : decode prog_6_method_14_code 36 = .ok (.iload 4, 2) := by decide +kernel
theorem d4_workOut_38 : decode prog_6_method_14_code 38 = .ok (.istore 6, 2) := by decide +kernel
theorem d4_workOut_40 : decode prog_6_method_14_code 40 = .ok (.iload 6, 2) := by decide +kernel
theorem d4_workOut_42 : decode prog_6_method_14_code 42 = .ok (.iload 5, 2) := by decide +kernel
theorem d4_workOut_44 : decode prog_6_method_14_code 44 = .ok (.if_icmp .ge 137, 3) := by decide +kernel
theorem d4_workOut_47 : decode prog_6_method_14_code 47 = .ok (.aload_n 1, 1) := by decide +kernel
theorem d4_workOut_48 : decode prog_6_method_14_code 48 = .ok (.getfield 144, 3) := by decide +kernel
theorem d4_workOut_51 : decode prog_6_method_14_code 51 = .ok (.iload 6, 2) := by decide +kernel
theorem d4_workOut_53 : decode prog_6_method_14_code 53 = .ok (.iaload, 1) := by decide +kernel
theorem d4_workOut_54 : decode prog_6_method_14_code 54 = .ok (.istore 7, 2) := by decide +kernel
theorem d4_workOut_56 : decode prog_6_method_14_code 56 = .ok (.iload 7, 2) := by decide +kernel
theorem d4_workOut_58 : decode prog_6_method_14_code 58 = .ok (.ifCond .lt 47, 3) := by decide +kernel
theorem d4_workOut_61 : decode prog_6_method_14_code 61 = .ok (.iload_n 3, 1) := by decide +kernel
theorem d4_workOut_62 : decode prog_6_method_14_code 62 = .ok (.aload_n 0, 1) := by decide +kernel
theorem d4_workOut_63 : decode prog_6_method_14_code 63 = .ok (.getfield 44, 3) := by decide +kernel
theorem d4_workOut_66 : decode prog_6_method_14_code 66 = .ok (.arraylength, 1) := by decide +kernel
theorem d4_workOut_67 : decode prog_6_method_14_code 67 = .ok (.if_icmp .ge 108, 3) := by decide +kernel
theorem d4_workOut_70 : decode prog_6_method_14_code 70 = .ok (.aload_n 0, 1) := by decide +kernel
theorem d4_workOut_71 : decode prog_6_method_14_code 71 = .ok (.getfield 44, 3) := by decide +kernel
theorem d4_workOut_74 : decode prog_6_method_14_code 74 = .ok (.iload_n 3, 1) := by decide +kernel
theorem d4_workOut_75 : decode prog_6_method_14_code 75 = .ok (.iload 7, 2) := by decide +kernel
theorem d4_workOut_77 : decode prog_6_method_14_code 77 = .ok (.sipush 10000, 3) := by decide +kernel
theorem d4_workOut_80 : decode prog_6_method_14_code 80 = .ok (.if_icmp .ge 8, 3) := by decide +kernel
theorem d4_workOut_83 : decode prog_6_method_14_code 83 = .ok (.iload 7, 2) := by decide +kernel
theorem d4_workOut_85 : decode prog_6_method_14_code 85 = .ok (.goto 13, 3) := by decide +kernel
theorem d4_workOut_88 : decode prog_6_method_14_code 88 = .ok (.aload_n 0, 1) := by decide +kernel
theorem d4_workOut_89 : decode prog_6_method_14_code 89 = .ok (.iload 7, 2) := by decide +kernel
theorem d4_workOut_91 : decode prog_6_method_14_code 91 = .ok (.sipush 10000, 3) := by decide +kernel
theorem d4_workOut_94 : decode prog_6_method_14_code 94 = .ok (.isub, 1) := by decide +kernel
theorem d4_workOut_95 : decode prog_6_method_14_code 95 = .ok (.invokevirtual 150, 3) := by decide +kernel
theorem d4_workOut_98 : decode prog_6_method_14_code 98 = .ok (.iastore, 1) := by decide +kernel
theorem d4_workOut_99 : decode prog_6_method_14_code 99 = .ok (.iinc 3 1, 3) := by decide +kernel
theorem d4_workOut_102 : decode prog_6_method_14_code 102 = .ok (.goto 73, 3) := by decide +kernel
theorem d4_workOut_105 : decode prog_6_method_14_code 105 = .ok (.iload 7, 2) := by decide +kernel
theorem d4_workOut_107 : decode prog_6_method_14_code 107 = .ok (.bipush (-7), 2) := by decide +kernel
theorem d4_workOut_109 : decode prog_6_method_14_code 109 = .ok (.if_icmp .ne 29, 3) := by decide +kernel
theorem d4_workOut_112 : decode prog_6_method_14_code 112 = .ok (.iload_n 3, 1) := by decide +kernel
theorem d4_workOut_113 : decode prog_6_method_14_code 113 = .ok (.iconst 1, 1) := by decide +kernel
theorem d4_workOut_114 : decode prog_6_method_14_code 114 = .ok (.if_icmp .lt 61, 3) := by decide +kernel
theorem d4_workOut_117 : decode prog_6_method_14_code 117 = .ok (.aload_n 0, 1) := by decide +kernel
theorem d4_workOut_118 : decode prog_6_method_14_code 118 = .ok (.getfield 44, 3) := by decide +kernel
theorem d4_workOut_121 : decode prog_6_method_14_code 121 = .ok (.iload_n 3, 1) := by decide +kernel
theorem d4_workOut_122 : decode prog_6_method_14_code 122 = .ok (.iconst 1, 1) := by decide +kernel
theorem d4_workOut_123 : decode prog_6_method_14_code 123 = .ok (.isub, 1) := by decide +kernel
theorem d4_workOut_124 : decode prog_6_method_14_code 124 = .ok (.iconst 1, 1) := by decide +kernel
theorem d4_workOut_125 : decode prog_6_method_14_code 125 = .ok (.aload_n 0, 1) := by decide +kernel
theorem d4_workOut_126 : decode prog_6_method_14_code 126 = .ok (.getfield 44, 3) := by decide +kernel
theorem d4_workOut_129 : decode prog_6_method_14_code 129 = .ok (.iload_n 3, 1) := by decide +kernel
theorem d4_workOut_130 : decode prog_6_method_14_code 130 = .ok (.iconst 1, 1) := by decide +kernel
theorem d4_workOut_131 : decode prog_6_method_14_code 131 = .ok (.isub, 1) := by decide +kernel
theorem d4_workOut_132 : decode prog_6_method_14_code 132 = .ok (.iaload, 1) := by decide +kernel
theorem d4_workOut_133 : decode prog_6_method_14_code 133 = .ok (.isub, 1) := by decide +kernel
theorem d4_workOut_134 : decode prog_6_method_14_code 134 = .ok (.iastore, 1) := by decide +kernel
theorem d4_workOut_135 : decode prog_6_method_14_code 135 = .ok (.goto 40, 3) := by decide +kernel
theorem d4_workOut_138 : decode prog_6_method_14_code 138 = .ok (.iload_n 3, 1) := by decide +kernel
theorem d4_workOut_139 : decode prog_6_method_14_code 139 = .ok (.iconst 2, 1) := by decide +kernel
theorem d4_workOut_140 : decode prog_6_method_14_code 140 = .ok (.if_icmp .lt 35, 3) := by decide +kernel
theorem d4_workOut_143 : decode prog_6_method_14_code 143 = .ok (.aload_n 0, 1) := by decide +kernel
theorem d4_workOut_144 : decode prog_6_method_14_code 144 = .ok (.getfield 44, 3) := by decide +kernel
theorem d4_workOut_147 : decode prog_6_method_14_code 147 = .ok (.iload_n 3, 1) := by decide +kernel
theorem d4_workOut_148 : decode prog_6_method_14_code 148 = .ok (.iconst 2, 1) := by decide +kernel
theorem d4_workOut_149 : decode prog_6_method_14_code 149 = .ok (.isub, 1) := by decide +kernel
theorem d4_workOut_150 : decode prog_6_method_14_code 150 = .ok (.iload 7, 2) := by decide +kernel
theorem d4_workOut_152 : decode prog_6_method_14_code 152 = .ok (.aload_n 0, 1) := by decide +kernel
theorem d4_workOut_153 : decode prog_6_method_14_code 153 = .ok (.getfield 44, 3) := by decide +kernel
theorem d4_workOut_156 : decode prog_6_method_14_code 156 = .ok (.iload_n 3, 1) := by decide +kernel
theorem d4_workOut_157 : decode prog_6_method_14_code 157 = .ok (.iconst 2, 1) := by decide +kernel
theorem d4_workOut_158 : decode prog_6_method_14_code 158 = .ok (.isub, 1) := by decide +kernel
theorem d4_workOut_159 : decode prog_6_method_14_code 159 = .ok (.iaload, 1) := by decide +kernel
theorem d4_workOut_160 : decode prog_6_method_14_code 160 = .ok (.aload_n 0, 1) := by decide +kernel
theorem d4_workOut_161 : decode prog_6_method_14_code 161 = .ok (.getfield 44, 3) := by decide +kernel
theorem d4_workOut_164 : decode prog_6_method_14_code 164 = .ok (.iload_n 3, 1) := by decide +kernel
theorem d4_workOut_165 : decode prog_6_method_14_code 165 = .ok (.iconst 1, 1) := by decide +kernel
theorem d4_workOut_166 : decode prog_6_method_14_code 166 = .ok (.isub, 1) := by decide +kernel
theorem d4_workOut_167 : decode prog_6_method_14_code 167 = .ok (.iaload, 1) := by decide +kernel
theorem d4_workOut_168 : decode prog_6_method_14_code 168 = .ok (.invokestatic 153, 3) := by decide +kernel
theorem d4_workOut_171 : decode prog_6_method_14_code 171 = .ok (.iastore, 1) := by decide +kernel
theorem d4_workOut_172 : decode prog_6_method_14_code 172 = .ok (.iinc 3 (-1), 3) := by decide +kernel
theorem d4_workOut_175 : decode prog_6_method_14_code 175 = .ok (.iinc 6 1, 3) := by decide +kernel
theorem d4_workOut_178 : decode prog_6_method_14_code 178 = .ok (.goto (-138), 3) := by decide +kernel
theorem d4_workOut_181 : decode prog_6_method_14_code 181 = .ok (.aload_n 0, 1) := by decide +kernel
theorem d4_workOut_182 : decode prog_6_method_14_code 182 = .ok (.getfield 44, 3) := by decide +kernel
theorem d4_workOut_185 : decode prog_6_method_14_code 185 = .ok (.iconst 0, 1) := by decide +kernel
theorem d4_workOut_186 : decode prog_6_method_14_code 186 = .ok (.iaload, 1) := by decide +kernel
theorem d4_workOut_187 : decode prog_6_method_14_code 187 = .ok (.ireturn, 1) := by decide +kernel
abbrev m2_makesWay : MD := ("MillBoats$Drift", ⟨"MillBoats$Drift", "makesWay", "(IIII)Z"⟩, prog_4_method_6_code, 7, (some Jvm.ClassFile.FieldType.boolean))
theorem k2_makesWay : okY m2_makesWay.2.1 4 := ⟨by decide +kernel, by decide +kernel, by decide +kernel⟩
abbrev m2_driftOn : MD := ("MillBoats$Drift", ⟨"MillBoats$Drift", "driftOn", "(III)V"⟩, prog_4_method_5_code, 8, (none : Option Jvm.ClassFile.FieldType))
theorem k2_driftOn : okY m2_driftOn.2.1 3 := ⟨by decide +kernel, by decide +kernel, by decide +kernel⟩
def f2_makesWay (F : St → Nat → Int32 → Int32 → Int32 → Option (Unit × St)) (σ : St) (v0 : Nat) (v1 : Int32) (v2 : Int32) (v3 : Int32) (v4 : Int32) : Option (Int32 × St) :=
  gd (ob σ v0 2) (
  lt (sR σ v0 0) fun b2 => (
  gd (nz b2) (
  gd (ob σ b2 8) (
  lt (sR σ b2 3) fun b6 => (
  gd (nz b6) (
  gd (ob σ b6 14) (
  gd (inb σ b6 v1) (
  lt (sI σ b6 (ix v1)) fun y11 => (
  bd (f8_pullBorne σ b2 v1 b6 (sI σ v0 4) (sI σ v0 5)) fun r13 t14 => (
  lt (sR t14 v0 0) fun b17 => (
  gd (nz b17) (
  gd (ob t14 b17 8) (
  lt (sR t14 b17 2) fun b21 => (
  gd (nz b21) (
  gd (ob t14 b21 17) (
  gd (inb t14 b21 v1) (
  lt (sR t14 b21 (ix v1)) fun b26 => (
  gd (nz b26) (
  gd (ob t14 b26 0) (
  (if (r13 + v3) ≤ (sI t14 b26 2) then
  some ((0 : Int32), t14)
  else
  (if v4 < (6 : Int32) then
  bd (f2_tell t14 v0 (2 : Int32) v1 v2 y11) fun r32 t33 => (
  bd (F t33 v0 v1 r13 (v4 + (1 : Int32))) fun r36 t37 => (
  lt (sR t37 v0 0) fun b40 => (
  gd (nz b40) (
  gd (ob t37 b40 8) (
  lt (sR t37 b40 3) fun b44 => (
  gd (nz b44) (
  gd (ob t37 b44 14) (
  gd (inb t37 b44 v1) (
  (if (sI t37 b44 (ix v1)) = y11 then
  some ((0 : Int32), t37)
  else
  some ((1 : Int32), t37)))))))))))
  else
  some ((0 : Int32), t14)))))))))))))))))))))))
set_option maxRecDepth 50000 in
theorem s2_makesWay {F : St → Nat → Int32 → Int32 → Int32 → Option (Unit × St)} {dF : Nat} (hB : 6 ≤ dF) (hF : ∀ (σ : St) (a0 : Nat) (a1 : Int32) (a2 : Int32) (a3 : Int32) (r : Unit) (τ : St), F σ a0 a1 a2 a3 = some (r, τ) → Call dF m2_driftOn [.ref a0, .int a1, .int a2, .int a3] σ none τ) : ∀ (σ : St) (v0 : Nat) (v1 : Int32) (v2 : Int32) (v3 : Int32) (v4 : Int32) (r : Int32) (τ : St), f2_makesWay F σ v0 v1 v2 v3 v4 = some (r, τ) → Call (dF + 1) m2_makesWay [.ref v0, .int v1, .int v2, .int v3, .int v4] σ (some (.int r)) τ := by
  intro σ v0 v1 v2 v3 v4 r τ hf
  unfold f2_makesWay at hf
  refine Call.of (by decide +kernel) rfl (Nat.le_of_ble_eq_true rfl) ?_
  refine ev_aload_n (j := 0) (i := 0) (q := 0) rfl rfl d2_makesWay_0 ?_
  obtain ⟨h1, hf⟩ := gd_some hf
  obtain ⟨b2, e3, hf⟩ := lt_some hf
  obtain ⟨h4, hf⟩ := gd_some hf
  refine ev_getRb cls2 (j := 0) (by decide) rfl w350 h1 e3 (nz_ne h4) d2_makesWay_1 ?_
  obtain ⟨h5, hf⟩ := gd_some hf
  obtain ⟨b6, e7, hf⟩ := lt_some hf
  obtain ⟨h8, hf⟩ := gd_some hf
  refine ev_getRNb cls8 (j := 3) (by decide) rfl w116 h5 e7 (nz_ne h8) d2_makesWay_4 ?_
  refine ev_iload_n (j := 1) (i := 1) (q := 1) rfl rfl d2_makesWay_7 ?_
  obtain ⟨h9, hf⟩ := gd_some hf
  obtain ⟨h10, hf⟩ := gd_some hf
  refine ev_iald h9 h10 d2_makesWay_8 ?_
  obtain ⟨y11, e12, hf⟩ := lt_some hf
  refine ev_nmI e12 ?_
  refine ev_istore (lv2 := [(5, .int y11), (0, .ref v0), (1, .int v1), (2, .int v2), (3, .int v3), (4, .int v4)]) (i := 5) (by decide) rfl d2_makesWay_9 ?_
  refine ev_aload_n (j := 0) (i := 0) (q := 1) rfl rfl d2_makesWay_11 ?_
  refine ev_getRb cls2 (j := 0) (by decide) rfl w350 h1 e3 (nz_ne h4) d2_makesWay_12 ?_
  refine ev_iload_n (j := 1) (i := 1) (q := 2) rfl rfl d2_makesWay_15 ?_
  refine ev_aload_n (j := 0) (i := 0) (q := 1) rfl rfl d2_makesWay_16 ?_
  refine ev_getRb cls2 (j := 0) (by decide) rfl w350 h1 e3 (nz_ne h4) d2_makesWay_17 ?_
  refine ev_getRNb cls8 (j := 3) (by decide) rfl w116 h5 e7 (nz_ne h8) d2_makesWay_20 ?_
  refine ev_aload_n (j := 0) (i := 0) (q := 1) rfl rfl d2_makesWay_23 ?_
  refine ev_getI cls2 (j := 4) (by decide) rfl w355 h1 d2_makesWay_24 ?_
  refine ev_aload_n (j := 0) (i := 0) (q := 1) rfl rfl d2_makesWay_27 ?_
  refine ev_getI cls2 (j := 5) (by decide) rfl w356 h1 d2_makesWay_28 ?_
  obtain ⟨r13, t14, k15, hf⟩ := bd_some hf
  have q16 := s8_pullBorne _ _ _ _ _ _ _ _ k15
  refine ev_callV (vs := [.int v1, .ref b6, .int (sI σ v0 4), .int (sI σ v0 5)]) (sk := []) cls8 h5 q16 (by omega) (Nat.le_of_ble_eq_true rfl) w956 w643 w644 w2 w645 k8_pullBorne rfl (Nat.le_of_ble_eq_true rfl) d2_makesWay_31 ?_
  refine ev_istore (lv2 := [(6, .int r13), (5, .int y11), (0, .ref v0), (1, .int v1), (2, .int v2), (3, .int v3), (4, .int v4)]) (i := 6) (by decide) rfl d2_makesWay_34 ?_
  refine ev_iload (i := 6) (q := 0) rfl d2_makesWay_36 ?_
  refine ev_iload_n (j := 3) (i := 3) (q := 5) rfl rfl d2_makesWay_38 ?_
  refine ev_iadd d2_makesWay_39 ?_
  refine ev_aload_n (j := 0) (i := 0) (q := 2) rfl rfl d2_makesWay_40 ?_
  obtain ⟨b17, e18, hf⟩ := lt_some hf
  obtain ⟨h19, hf⟩ := gd_some hf
  refine ev_getRb cls2 (j := 0) (by decide) rfl w350 (mono_ob q16.1 h1) e18 (nz_ne h19) d2_makesWay_41 ?_
  obtain ⟨h20, hf⟩ := gd_some hf
  obtain ⟨b21, e22, hf⟩ := lt_some hf
  obtain ⟨h23, hf⟩ := gd_some hf
  refine ev_getRNb cls8 (j := 2) (by decide) rfl w109 h20 e22 (nz_ne h23) d2_makesWay_44 ?_
  refine ev_iload_n (j := 1) (i := 1) (q := 3) rfl rfl d2_makesWay_47 ?_
  obtain ⟨h24, hf⟩ := gd_some hf
  obtain ⟨h25, hf⟩ := gd_some hf
  obtain ⟨b26, e27, hf⟩ := lt_some hf
  obtain ⟨h28, hf⟩ := gd_some hf
  refine ev_qaldb (kd := 17) (by decide) (by decide) rfl h24 h25 e27 (nz_ne h28) d2_makesWay_48 ?_
  obtain ⟨h29, hf⟩ := gd_some hf
  refine ev_getIN cls0 (j := 2) (by decide) rfl w72 h29 d2_makesWay_49 ?_
  rcases ite_some hf with ⟨c30, hf⟩ | ⟨c30, hf⟩
  · refine ev_icmp_le_P (tgt := 62) c30 (by decide) d2_makesWay_52 ?_
    refine ev_iconst ci_0 d2_makesWay_62 ?_
    obtain ⟨rfl, rfl⟩ := ret_some hf
    exact ev_zret rfl (by decide) d2_makesWay_63
  · refine ev_icmp_le_Q (tgt := 62) c30 (by decide) d2_makesWay_52 ?_
    refine ev_iload (i := 4) (q := 6) rfl d2_makesWay_55 ?_
    refine ev_bipush cb_6 d2_makesWay_57 ?_
    rcases ite_some hf with ⟨c31, hf⟩ | ⟨c31, hf⟩
    · refine ev_icmp_lt_P (tgt := 64) c31 (by decide) d2_makesWay_59 ?_
      refine ev_aload_n (j := 0) (i := 0) (q := 2) rfl rfl d2_makesWay_64 ?_
      refine ev_iconst ci_2 d2_makesWay_65 ?_
      refine ev_iload_n (j := 1) (i := 1) (q := 3) rfl rfl d2_makesWay_66 ?_
      refine ev_iload_n (j := 2) (i := 2) (q := 4) rfl rfl d2_makesWay_67 ?_
      refine ev_iload (i := 5) (q := 1) rfl d2_makesWay_68 ?_
      obtain ⟨r32, t33, k34, hf⟩ := bd_some hf
      have q35 := s2_tell _ _ _ _ _ _ _ _ k34
      refine ev_callV (vs := [.int (2 : Int32), .int v1, .int v2, .int y11]) (sk := []) cls2 (mono_ob q16.1 h1) q35 (by omega) (Nat.le_of_ble_eq_true rfl) w957 w959 ws33 w15 w960 k2_tell rfl (Nat.le_of_ble_eq_true rfl) d2_makesWay_70 ?_
      refine ev_aload_n (j := 0) (i := 0) (q := 2) rfl rfl d2_makesWay_73 ?_
      refine ev_iload_n (j := 1) (i := 1) (q := 3) rfl rfl d2_makesWay_74 ?_
      refine ev_iload (i := 6) (q := 0) rfl d2_makesWay_75 ?_
      refine ev_iload (i := 4) (q := 6) rfl d2_makesWay_77 ?_
      refine ev_iconst ci_1 d2_makesWay_79 ?_
      refine ev_iadd d2_makesWay_80 ?_
      obtain ⟨r36, t37, k38, hf⟩ := bd_some hf
      have q39 := hF _ _ _ _ _ _ _ k38
      refine ev_callV (vs := [.int v1, .int r13, .int (v4 + (1 : Int32))]) (sk := []) cls2 (mono_ob q35.1 (mono_ob q16.1 h1)) q39 (by omega) (Nat.le_of_ble_eq_true rfl) w961 w963 ws34 w15 w964 k2_driftOn rfl (Nat.le_of_ble_eq_true rfl) d2_makesWay_81 ?_
      refine ev_aload_n (j := 0) (i := 0) (q := 2) rfl rfl d2_makesWay_84 ?_
      obtain ⟨b40, e41, hf⟩ := lt_some hf
      obtain ⟨h42, hf⟩ := gd_some hf
      refine ev_getRb cls2 (j := 0) (by decide) rfl w350 (mono_ob q39.1 (mono_ob q35.1 (mono_ob q16.1 h1))) e41 (nz_ne h42) d2_makesWay_85 ?_
      obtain ⟨h43, hf⟩ := gd_some hf
      obtain ⟨b44, e45, hf⟩ := lt_some hf
      obtain ⟨h46, hf⟩ := gd_some hf
      refine ev_getRNb cls8 (j := 3) (by decide) rfl w116 h43 e45 (nz_ne h46) d2_makesWay_88 ?_
      refine ev_iload_n (j := 1) (i := 1) (q := 3) rfl rfl d2_makesWay_91 ?_
      obtain ⟨h47, hf⟩ := gd_some hf
      obtain ⟨h48, hf⟩ := gd_some hf
      refine ev_iald h47 h48 d2_makesWay_92 ?_
      refine ev_iload (i := 5) (q := 1) rfl d2_makesWay_93 ?_
      rcases ite_some hf with ⟨c49, hf⟩ | ⟨c49, hf⟩
      · refine ev_icmp_eq_P (tgt := 102) c49 (by decide) d2_makesWay_95 ?_
        refine ev_iconst ci_0 d2_makesWay_102 ?_
        obtain ⟨rfl, rfl⟩ := ret_some hf
        exact ev_zret rfl (by decide) d2_makesWay_103
      · refine ev_icmp_eq_Q (tgt := 102) c49 (by decide) d2_makesWay_95 ?_
        refine ev_iconst ci_1 d2_makesWay_98 ?_
        refine ev_goto (tgt := 103) (by decide) d2_makesWay_99 ?_
        obtain ⟨rfl, rfl⟩ := ret_some hf
        exact ev_zret rfl (by decide) d2_makesWay_103
    · refine ev_icmp_lt_Q (tgt := 64) c31 (by decide) d2_makesWay_59 ?_
      refine ev_iconst ci_0 d2_makesWay_62 ?_
      obtain ⟨rfl, rfl⟩ := ret_some hf
      exact ev_zret rfl (by decide) d2_makesWay_63
def f2_driftOn_p134 (F : St → Nat → Int32 → Int32 → Int32 → Option (Unit × St)) (K3 : St → Nat → Int32 → Int32 → Int32 → Int32 → Option (Unit × St)) (σ : St) (v0 : Nat) (v1 : Int32) (v2 : Int32) (v3 : Int32) (v4 : Int32) (v6 : Int32) : Option (Unit × St) :=
  gd (ob σ v0 2) (
  lt (sR σ v0 0) fun b74 => (
  gd (nz b74) (
  gd (ob σ b74 8) (
  lt (sR σ b74 3) fun b78 => (
  gd (nz b78) (
  gd (ob σ b78 14) (
  gd (inb σ b78 v1) (
  lt (wI σ b78 (ix v1) v6) fun t83 => (
  lt (v4 + (1 : Int32)) fun y85 => (
  K3 t83 v0 v1 v2 v3 y85))))))))))
set_option maxRecDepth 20000 in
theorem s2_driftOn_p134 {F : St → Nat → Int32 → Int32 → Int32 → Option (Unit × St)} {dF : Nat} (hB : 6 ≤ dF) (hF : ∀ (σ : St) (a0 : Nat) (a1 : Int32) (a2 : Int32) (a3 : Int32) (r : Unit) (τ : St), F σ a0 a1 a2 a3 = some (r, τ) → Call dF m2_driftOn [.ref a0, .int a1, .int a2, .int a3] σ none τ) {K3 : St → Nat → Int32 → Int32 → Int32 → Int32 → Option (Unit × St)} (hK3 : ∀ (σ : St) (v0 : Nat) (v1 : Int32) (v2 : Int32) (v3 : Int32) (v4 : Int32) (r : Unit) (τ : St), K3 σ v0 v1 v2 v3 v4 = some (r, τ) → Ev (dF + 2) m2_driftOn 3 [(0, .ref v0), (1, .int v1), (2, .int v2), (3, .int v3), (4, .int v4)] [] σ none τ) : ∀ (σ : St) (v0 : Nat) (v1 : Int32) (v2 : Int32) (v3 : Int32) (v4 : Int32) (v6 : Int32) (r : Unit) (τ : St), f2_driftOn_p134 F K3 σ v0 v1 v2 v3 v4 v6 = some (r, τ) → Ev (dF + 2) m2_driftOn 134 [(0, .ref v0), (1, .int v1), (2, .int v2), (3, .int v3), (4, .int v4), (6, .int v6)] [] σ none τ := by
  intro σ v0 v1 v2 v3 v4 v6 r τ hf
  unfold f2_driftOn_p134 at hf
  refine ev_aload_n (j := 0) (i := 0) (q := 0) rfl rfl d2_driftOn_134 ?_
  obtain ⟨h73, hf⟩ := gd_some hf
  obtain ⟨b74, e75, hf⟩ := lt_some hf
  obtain ⟨h76, hf⟩ := gd_some hf
  refine ev_getRb cls2 (j := 0) (by decide) rfl w350 h73 e75 (nz_ne h76) d2_driftOn_135 ?_
  obtain ⟨h77, hf⟩ := gd_some hf
  obtain ⟨b78, e79, hf⟩ := lt_some hf
  obtain ⟨h80, hf⟩ := gd_some hf
  refine ev_getRNb cls8 (j := 3) (by decide) rfl w116 h77 e79 (nz_ne h80) d2_driftOn_138 ?_
  refine ev_iload_n (j := 1) (i := 1) (q := 1) rfl rfl d2_driftOn_141 ?_
  refine ev_iload (i := 6) (q := 5) rfl d2_driftOn_142 ?_
  obtain ⟨h81, hf⟩ := gd_some hf
  obtain ⟨h82, hf⟩ := gd_some hf
  obtain ⟨t83, e84, hf⟩ := lt_some hf
  refine ev_iast h81 h82 d2_driftOn_144 (ev_nmS e84 ?_)
  obtain ⟨y85, e86, hf⟩ := lt_some hf
  refine ev_iinc (lv2 := [(4, .int y85), (0, .ref v0), (1, .int v1), (2, .int v2), (3, .int v3), (6, .int v6)]) (i := 4) (q := 4) (v := y85) (n := 1) rfl (by rw [ci_1]; exact e86.symm) (by decide) rfl d2_driftOn_145 ?_
  refine ev_goto (tgt := 3) (by decide) d2_driftOn_148 ?_
  exact Ev.sub [1, 2, 3, 4, 0] rfl (hK3 _ _ _ _ _ _ _ _ hf)
def f2_driftOn_p3 (F : St → Nat → Int32 → Int32 → Int32 → Option (Unit × St)) : Nat → St → Nat → Int32 → Int32 → Int32 → Int32 → Option (Unit × St)
  | 0, _, _, _, _, _, _ => none
  | n + 1, σ, v0, v1, v2, v3, v4 =>
  (if v4 < (12 : Int32) then
  gd (ob σ v0 2) (
  lt (sR σ v0 0) fun b3 => (
  gd (nz b3) (
  gd (ob σ b3 8) (
  bd (f8_liesAtBerth σ b3 v1) fun r7 t8 => (
  (if r7 = (0 : Int32) then
  some ((), t8)
  else
  lt (sR t8 v0 0) fun b12 => (
  gd (nz b12) (
  gd (ob t8 b12 8) (
  lt (sR t8 b12 3) fun b16 => (
  gd (nz b16) (
  gd (ob t8 b16 14) (
  gd (inb t8 b16 v1) (
  lt (sI t8 b16 (ix v1)) fun y21 => (
  bd (f11_stretchOf t8 y21) fun r23 t24 => (
  (if r23 = (11 : Int32) then
  lt (sR t24 v0 0) fun b28 => (
  gd (nz b28) (
  gd (ob t24 b28 8) (
  lt (sR t24 b28 3) fun b32 => (
  gd (nz b32) (
  gd (ob t24 b32 14) (
  gd (inb t24 b32 v1) (
  lt (wI t24 b32 (ix v1) (-2 : Int32)) fun t37 => (
  bd (f2_tell t37 v0 (5 : Int32) v1 (-1 : Int32) (-1 : Int32)) fun r39 t40 => (
  some ((), t40))))))))))
  else
  bd (f2_nextBerth t24 v0 v1 y21) fun r43 t44 => (
  (if r43 = (-1 : Int32) then
  bd (f2_tell t44 v0 (4 : Int32) v1 (-1 : Int32) y21) fun r48 t49 => (
  some ((), t49))
  else
  lt (sR t44 v0 0) fun b52 => (
  gd (nz b52) (
  gd (ob t44 b52 8) (
  lt (sR t44 b52 3) fun b56 => (
  gd (nz b56) (
  bd (f8_lyingAt t44 b52 r43 b56) fun r59 t60 => (
  (if r59 = (-1 : Int32) then
  f2_driftOn_p134 F (f2_driftOn_p3 F n) t60 v0 v1 v2 v3 v4 r43
  else
  bd (f2_makesWay F t60 v0 r59 v1 v2 v3) fun r64 t65 => (
  (if r64 = (0 : Int32) then
  bd (f2_tell t65 v0 (3 : Int32) v1 r59 y21) fun r69 t70 => (
  some ((), t70))
  else
  f2_driftOn_p134 F (f2_driftOn_p3 F n) t65 v0 v1 v2 v3 v4 r43)))))))))))))))))))))))))))
  else
  some ((), σ))
set_option maxRecDepth 20000 in
theorem s2_driftOn_p3 {F : St → Nat → Int32 → Int32 → Int32 → Option (Unit × St)} {dF : Nat} (hB : 6 ≤ dF) (hF : ∀ (σ : St) (a0 : Nat) (a1 : Int32) (a2 : Int32) (a3 : Int32) (r : Unit) (τ : St), F σ a0 a1 a2 a3 = some (r, τ) → Call dF m2_driftOn [.ref a0, .int a1, .int a2, .int a3] σ none τ) : ∀ (n : Nat) (σ : St) (v0 : Nat) (v1 : Int32) (v2 : Int32) (v3 : Int32) (v4 : Int32) (r : Unit) (τ : St), f2_driftOn_p3 F n σ v0 v1 v2 v3 v4 = some (r, τ) → Ev (dF + 2) m2_driftOn 3 [(0, .ref v0), (1, .int v1), (2, .int v2), (3, .int v3), (4, .int v4)] [] σ none τ := by
  intro n
  induction n with
  | zero =>
    intro σ v0 v1 v2 v3 v4 r τ hf
    cases hf
  | succ n ih =>
    intro σ v0 v1 v2 v3 v4 r τ hf
    rw [f2_driftOn_p3] at hf
    refine ev_iload (i := 4) (q := 4) rfl d2_driftOn_3 ?_
    refine ev_bipush cb_12 d2_driftOn_5 ?_
    rcases ite_some hf with ⟨c1, hf⟩ | ⟨c1, hf⟩
    · refine ev_icmp_ge_P (tgt := 151) c1 (by decide) d2_driftOn_7 ?_
      refine ev_aload_n (j := 0) (i := 0) (q := 0) rfl rfl d2_driftOn_10 ?_
      obtain ⟨h2, hf⟩ := gd_some hf
      obtain ⟨b3, e4, hf⟩ := lt_some hf
      obtain ⟨h5, hf⟩ := gd_some hf
      refine ev_getRb cls2 (j := 0) (by decide) rfl w350 h2 e4 (nz_ne h5) d2_driftOn_11 ?_
      refine ev_iload_n (j := 1) (i := 1) (q := 1) rfl rfl d2_driftOn_14 ?_
      obtain ⟨h6, hf⟩ := gd_some hf
      obtain ⟨r7, t8, k9, hf⟩ := bd_some hf
      have q10 := s8_liesAtBerth _ _ _ _ _ k9
      refine ev_callV (vs := [.int v1]) (sk := []) cls8 h6 q10 (by omega) (Nat.le_of_ble_eq_true rfl) w965 w597 w598 w2 w599 k8_liesAtBerth rfl (Nat.le_of_ble_eq_true rfl) d2_driftOn_15 ?_
      rcases ite_some hf with ⟨c11, hf⟩ | ⟨c11, hf⟩
      · refine ev_if_eq_P (tgt := 151) c11 (by decide) d2_driftOn_18 ?_
        obtain ⟨-, rfl⟩ := ret_some hf
        exact ev_vret rfl d2_driftOn_151
      · refine ev_if_eq_Q (tgt := 151) c11 (by decide) d2_driftOn_18 ?_
        refine ev_aload_n (j := 0) (i := 0) (q := 0) rfl rfl d2_driftOn_21 ?_
        obtain ⟨b12, e13, hf⟩ := lt_some hf
        obtain ⟨h14, hf⟩ := gd_some hf
        refine ev_getRb cls2 (j := 0) (by decide) rfl w350 (mono_ob q10.1 h2) e13 (nz_ne h14) d2_driftOn_22 ?_
        obtain ⟨h15, hf⟩ := gd_some hf
        obtain ⟨b16, e17, hf⟩ := lt_some hf
        obtain ⟨h18, hf⟩ := gd_some hf
        refine ev_getRNb cls8 (j := 3) (by decide) rfl w116 h15 e17 (nz_ne h18) d2_driftOn_25 ?_
        refine ev_iload_n (j := 1) (i := 1) (q := 1) rfl rfl d2_driftOn_28 ?_
        obtain ⟨h19, hf⟩ := gd_some hf
        obtain ⟨h20, hf⟩ := gd_some hf
        refine ev_iald h19 h20 d2_driftOn_29 ?_
        obtain ⟨y21, e22, hf⟩ := lt_some hf
        refine ev_nmI e22 ?_
        refine ev_istore (lv2 := [(5, .int y21), (0, .ref v0), (1, .int v1), (2, .int v2), (3, .int v3), (4, .int v4)]) (i := 5) (by decide) rfl d2_driftOn_30 ?_
        refine ev_iload (i := 5) (q := 0) rfl d2_driftOn_32 ?_
        obtain ⟨r23, t24, k25, hf⟩ := bd_some hf
        have q26 := s11_stretchOf _ _ _ _ k25
        refine ev_callSN (vs := [.int y21]) (sk := []) q26 (by omega) (Nat.le_of_ble_eq_true rfl) w966 w867 w1 w868 k11_stretchOf rfl (Nat.le_of_ble_eq_true rfl) d2_driftOn_34 ?_
        refine ev_bipush cb_11 d2_driftOn_37 ?_
        rcases ite_some hf with ⟨c27, hf⟩ | ⟨c27, hf⟩
        · refine ev_icmp_ne_P (tgt := 62) c27 (by decide) d2_driftOn_39 ?_
          refine ev_aload_n (j := 0) (i := 0) (q := 1) rfl rfl d2_driftOn_42 ?_
          obtain ⟨b28, e29, hf⟩ := lt_some hf
          obtain ⟨h30, hf⟩ := gd_some hf
          refine ev_getRb cls2 (j := 0) (by decide) rfl w350 (mono_ob q26.1 (mono_ob q10.1 h2)) e29 (nz_ne h30) d2_driftOn_43 ?_
          obtain ⟨h31, hf⟩ := gd_some hf
          obtain ⟨b32, e33, hf⟩ := lt_some hf
          obtain ⟨h34, hf⟩ := gd_some hf
          refine ev_getRNb cls8 (j := 3) (by decide) rfl w116 h31 e33 (nz_ne h34) d2_driftOn_46 ?_
          refine ev_iload_n (j := 1) (i := 1) (q := 2) rfl rfl d2_driftOn_49 ?_
          refine ev_bipush cb_m2 d2_driftOn_50 ?_
          obtain ⟨h35, hf⟩ := gd_some hf
          obtain ⟨h36, hf⟩ := gd_some hf
          obtain ⟨t37, e38, hf⟩ := lt_some hf
          refine ev_iast h35 h36 d2_driftOn_52 (ev_nmS e38 ?_)
          refine ev_aload_n (j := 0) (i := 0) (q := 1) rfl rfl d2_driftOn_53 ?_
          refine ev_iconst ci_5 d2_driftOn_54 ?_
          refine ev_iload_n (j := 1) (i := 1) (q := 2) rfl rfl d2_driftOn_55 ?_
          refine ev_iconst ci_m1 d2_driftOn_56 ?_
          refine ev_iconst ci_m1 d2_driftOn_57 ?_
          obtain ⟨r39, t40, k41, hf⟩ := bd_some hf
          have q42 := s2_tell _ _ _ _ _ _ _ _ k41
          refine ev_callV (vs := [.int (5 : Int32), .int v1, .int (-1 : Int32), .int (-1 : Int32)]) (sk := []) cls2 (mono_ob (mono_eI e38) (mono_ob q26.1 (mono_ob q10.1 h2))) q42 (by omega) (Nat.le_of_ble_eq_true rfl) w957 w959 ws33 w15 w960 k2_tell rfl (Nat.le_of_ble_eq_true rfl) d2_driftOn_58 ?_
          obtain ⟨-, rfl⟩ := ret_some hf
          exact ev_vret rfl d2_driftOn_61
        · refine ev_icmp_ne_Q (tgt := 62) c27 (by decide) d2_driftOn_39 ?_
          refine ev_aload_n (j := 0) (i := 0) (q := 1) rfl rfl d2_driftOn_62 ?_
          refine ev_iload_n (j := 1) (i := 1) (q := 2) rfl rfl d2_driftOn_63 ?_
          refine ev_iload (i := 5) (q := 0) rfl d2_driftOn_64 ?_
          obtain ⟨r43, t44, k45, hf⟩ := bd_some hf
          have q46 := s2_nextBerth _ _ _ _ _ _ k45
          refine ev_callV (vs := [.int v1, .int y21]) (sk := []) cls2 (mono_ob q26.1 (mono_ob q10.1 h2)) q46 (by omega) (Nat.le_of_ble_eq_true rfl) w967 w969 ws35 w15 w970 k2_nextBerth rfl (Nat.le_of_ble_eq_true rfl) d2_driftOn_66 ?_
          refine ev_istore (lv2 := [(6, .int r43), (5, .int y21), (0, .ref v0), (1, .int v1), (2, .int v2), (3, .int v3), (4, .int v4)]) (i := 6) (by decide) rfl d2_driftOn_69 ?_
          refine ev_iload (i := 6) (q := 0) rfl d2_driftOn_71 ?_
          refine ev_iconst ci_m1 d2_driftOn_73 ?_
          rcases ite_some hf with ⟨c47, hf⟩ | ⟨c47, hf⟩
          · refine ev_icmp_ne_P (tgt := 87) c47 (by decide) d2_driftOn_74 ?_
            refine ev_aload_n (j := 0) (i := 0) (q := 2) rfl rfl d2_driftOn_77 ?_
            refine ev_iconst ci_4 d2_driftOn_78 ?_
            refine ev_iload_n (j := 1) (i := 1) (q := 3) rfl rfl d2_driftOn_79 ?_
            refine ev_iconst ci_m1 d2_driftOn_80 ?_
            refine ev_iload (i := 5) (q := 1) rfl d2_driftOn_81 ?_
            obtain ⟨r48, t49, k50, hf⟩ := bd_some hf
            have q51 := s2_tell _ _ _ _ _ _ _ _ k50
            refine ev_callV (vs := [.int (4 : Int32), .int v1, .int (-1 : Int32), .int y21]) (sk := []) cls2 (mono_ob q46.1 (mono_ob q26.1 (mono_ob q10.1 h2))) q51 (by omega) (Nat.le_of_ble_eq_true rfl) w957 w959 ws33 w15 w960 k2_tell rfl (Nat.le_of_ble_eq_true rfl) d2_driftOn_83 ?_
            obtain ⟨-, rfl⟩ := ret_some hf
            exact ev_vret rfl d2_driftOn_86
          · refine ev_icmp_ne_Q (tgt := 87) c47 (by decide) d2_driftOn_74 ?_
            refine ev_aload_n (j := 0) (i := 0) (q := 2) rfl rfl d2_driftOn_87 ?_
            obtain ⟨b52, e53, hf⟩ := lt_some hf
            obtain ⟨h54, hf⟩ := gd_some hf
            refine ev_getRb cls2 (j := 0) (by decide) rfl w350 (mono_ob q46.1 (mono_ob q26.1 (mono_ob q10.1 h2))) e53 (nz_ne h54) d2_driftOn_88 ?_
            refine ev_iload (i := 6) (q := 0) rfl d2_driftOn_91 ?_
            refine ev_aload_n (j := 0) (i := 0) (q := 2) rfl rfl d2_driftOn_93 ?_
            refine ev_getRb cls2 (j := 0) (by decide) rfl w350 (mono_ob q46.1 (mono_ob q26.1 (mono_ob q10.1 h2))) e53 (nz_ne h54) d2_driftOn_94 ?_
            obtain ⟨h55, hf⟩ := gd_some hf
            obtain ⟨b56, e57, hf⟩ := lt_some hf
            obtain ⟨h58, hf⟩ := gd_some hf
            refine ev_getRNb cls8 (j := 3) (by decide) rfl w116 h55 e57 (nz_ne h58) d2_driftOn_97 ?_
            obtain ⟨r59, t60, k61, hf⟩ := bd_some hf
            have q62 := s8_lyingAt _ _ _ _ _ _ k61
            refine ev_callV (vs := [.int r43, .ref b56]) (sk := []) cls8 h55 q62 (by omega) (Nat.le_of_ble_eq_true rfl) w974 w581 w582 w2 w583 k8_lyingAt rfl (Nat.le_of_ble_eq_true rfl) d2_driftOn_100 ?_
            refine ev_istore (lv2 := [(7, .int r59), (6, .int r43), (5, .int y21), (0, .ref v0), (1, .int v1), (2, .int v2), (3, .int v3), (4, .int v4)]) (i := 7) (by decide) rfl d2_driftOn_103 ?_
            refine ev_iload (i := 7) (q := 0) rfl d2_driftOn_105 ?_
            refine ev_iconst ci_m1 d2_driftOn_107 ?_
            rcases ite_some hf with ⟨c63, hf⟩ | ⟨c63, hf⟩
            · refine ev_icmp_eq_P (tgt := 134) c63 (by decide) d2_driftOn_108 ?_
              exact Ev.sub [3, 4, 5, 6, 7, 1] rfl (s2_driftOn_p134 hB hF ih _ _ _ _ _ _ _ _ _ hf)
            · refine ev_icmp_eq_Q (tgt := 134) c63 (by decide) d2_driftOn_108 ?_
              refine ev_aload_n (j := 0) (i := 0) (q := 3) rfl rfl d2_driftOn_111 ?_
              refine ev_iload (i := 7) (q := 0) rfl d2_driftOn_112 ?_
              refine ev_iload_n (j := 1) (i := 1) (q := 4) rfl rfl d2_driftOn_114 ?_
              refine ev_iload_n (j := 2) (i := 2) (q := 5) rfl rfl d2_driftOn_115 ?_
              refine ev_iload_n (j := 3) (i := 3) (q := 6) rfl rfl d2_driftOn_116 ?_
              obtain ⟨r64, t65, k66, hf⟩ := bd_some hf
              have q67 := s2_makesWay hB hF _ _ _ _ _ _ _ _ k66
              refine ev_callV (vs := [.int r59, .int v1, .int v2, .int v3]) (sk := []) cls2 (mono_ob q62.1 (mono_ob q46.1 (mono_ob q26.1 (mono_ob q10.1 h2)))) q67 (by omega) (Nat.le_of_ble_eq_true rfl) w975 w977 ws36 w15 w978 k2_makesWay rfl (Nat.le_of_ble_eq_true rfl) d2_driftOn_117 ?_
              rcases ite_some hf with ⟨c68, hf⟩ | ⟨c68, hf⟩
              · refine ev_if_ne_P (tgt := 134) c68 (by decide) d2_driftOn_120 ?_
                refine ev_aload_n (j := 0) (i := 0) (q := 3) rfl rfl d2_driftOn_123 ?_
                refine ev_iconst ci_3 d2_driftOn_124 ?_
                refine ev_iload_n (j := 1) (i := 1) (q := 4) rfl rfl d2_driftOn_125 ?_
                refine ev_iload (i := 7) (q := 0) rfl d2_driftOn_126 ?_
                refine ev_iload (i := 5) (q := 2) rfl d2_driftOn_128 ?_
                obtain ⟨r69, t70, k71, hf⟩ := bd_some hf
                have q72 := s2_tell _ _ _ _ _ _ _ _ k71
                refine ev_callV (vs := [.int (3 : Int32), .int v1, .int r59, .int y21]) (sk := []) cls2 (mono_ob q67.1 (mono_ob q62.1 (mono_ob q46.1 (mono_ob q26.1 (mono_ob q10.1 h2))))) q72 (by omega) (Nat.le_of_ble_eq_true rfl) w957 w959 ws33 w15 w960 k2_tell rfl (Nat.le_of_ble_eq_true rfl) d2_driftOn_130 ?_
                obtain ⟨-, rfl⟩ := ret_some hf
                exact ev_vret rfl d2_driftOn_133
              · refine ev_if_ne_Q (tgt := 134) c68 (by decide) d2_driftOn_120 ?_
                exact Ev.sub [3, 4, 5, 6, 7, 1] rfl (s2_driftOn_p134 hB hF ih _ _ _ _ _ _ _ _ _ hf)
    · refine ev_icmp_ge_Q (tgt := 151) c1 (by decide) d2_driftOn_7 ?_
      obtain ⟨-, rfl⟩ := ret_some hf
      exact ev_vret rfl d2_driftOn_151
def f2_driftOn_b (F : St → Nat → Int32 → Int32 → Int32 → Option (Unit × St)) (σ : St) (v0 : Nat) (v1 : Int32) (v2 : Int32) (v3 : Int32) : Option (Unit × St) :=
  f2_driftOn_p3 F FU σ v0 v1 v2 v3 (0 : Int32)
set_option maxRecDepth 50000 in
theorem s2_driftOn_b {F : St → Nat → Int32 → Int32 → Int32 → Option (Unit × St)} {dF : Nat} (hB : 6 ≤ dF) (hF : ∀ (σ : St) (a0 : Nat) (a1 : Int32) (a2 : Int32) (a3 : Int32) (r : Unit) (τ : St), F σ a0 a1 a2 a3 = some (r, τ) → Call dF m2_driftOn [.ref a0, .int a1, .int a2, .int a3] σ none τ) : ∀ (σ : St) (v0 : Nat) (v1 : Int32) (v2 : Int32) (v3 : Int32) (r : Unit) (τ : St), f2_driftOn_b F σ v0 v1 v2 v3 = some (r, τ) → Call (dF + 2) m2_driftOn [.ref v0, .int v1, .int v2, .int v3] σ none τ := by
  intro σ v0 v1 v2 v3 r τ hf
  unfold f2_driftOn_b at hf
  refine Call.of (by decide +kernel) rfl (Nat.le_of_ble_eq_true rfl) ?_
  refine ev_iconst ci_0 d2_driftOn_0 ?_
  refine ev_istore (lv2 := [(4, .int (0 : Int32)), (0, .ref v0), (1, .int v1), (2, .int v2), (3, .int v3)]) (i := 4) (by decide) rfl d2_driftOn_1 ?_
  exact Ev.sub [1, 2, 3, 4, 0] rfl (s2_driftOn_p3 hB hF FU _ _ _ _ _ _ _ _ hf)
def f2_driftOn : Nat → St → Nat → Int32 → Int32 → Int32 → Option (Unit × St)
  | 0, _, _, _, _, _ => none
  | n + 1, σ, a0, a1, a2, a3 => f2_driftOn_b (f2_driftOn n) σ a0 a1 a2 a3
theorem s2_driftOn : ∀ (n : Nat) (σ : St) (a0 : Nat) (a1 : Int32) (a2 : Int32) (a3 : Int32) (r : Unit) (τ : St), f2_driftOn n σ a0 a1 a2 a3 = some (r, τ) → Call (6 + 2 * n) m2_driftOn [.ref a0, .int a1, .int a2, .int a3] σ none τ := by
  intro n
  induction n with
  | zero =>
    intro σ a0 a1 a2 a3 r τ hf
    cases hf
  | succ n ih =>
    intro σ a0 a1 a2 a3 r τ hf
    rw [f2_driftOn] at hf
    have := s2_driftOn_b (F := f2_driftOn n) (dF := 6 + 2 * n) (by omega) ih σ a0 a1 a2 a3 r τ hf
    rw [show 6 + 2 * (n + 1) = 6 + 2 * n + 2 by omega]
    exact this
abbrev m2_breakChains : MD := ("MillBoats$Drift", ⟨"MillBoats$Drift", "breakChains", "(IIZ)V"⟩, prog_4_method_4_code, 6, (none : Option Jvm.ClassFile.FieldType))
theorem k2_breakChains : okY m2_breakChains.2.1 3 := ⟨by decide +kernel, by decide +kernel, by decide +kernel⟩
def f2_breakChains_p101 (K18 : St → Nat → Int32 → Option (Unit × St)) (σ : St) (v0 : Nat) (v4 : Int32) : Option (Unit × St) :=
  lt (v4 + (1 : Int32)) fun y49 => (
  K18 σ v0 y49)
set_option maxRecDepth 20000 in
theorem s2_breakChains_p101 {K18 : St → Nat → Int32 → Option (Unit × St)} (hK18 : ∀ (σ : St) (v0 : Nat) (v4 : Int32) (r : Unit) (τ : St), K18 σ v0 v4 = some (r, τ) → Ev 27 m2_breakChains 18 [(0, .ref v0), (4, .int v4)] [] σ none τ) : ∀ (σ : St) (v0 : Nat) (v4 : Int32) (r : Unit) (τ : St), f2_breakChains_p101 K18 σ v0 v4 = some (r, τ) → Ev 27 m2_breakChains 101 [(0, .ref v0), (4, .int v4)] [] σ none τ := by
  intro σ v0 v4 r τ hf
  unfold f2_breakChains_p101 at hf
  obtain ⟨y49, e50, hf⟩ := lt_some hf
  refine ev_iinc (lv2 := [(4, .int y49), (0, .ref v0)]) (i := 4) (q := 1) (v := y49) (n := 1) rfl (by rw [ci_1]; exact e50.symm) (by decide) rfl d2_breakChains_101 ?_
  refine ev_goto (tgt := 18) (by decide) d2_breakChains_104 ?_
  exact Ev.sub [1, 0] rfl (hK18 _ _ _ _ _ hf)
def f2_breakChains_p18 : Nat → St → Nat → Int32 → Option (Unit × St)
  | 0, _, _, _ => none
  | n + 1, σ, v0, v4 =>
  gd (ob σ v0 2) (
  lt (sR σ v0 0) fun b10 => (
  gd (nz b10) (
  gd (ob σ b10 8) (
  (if v4 < (sI σ b10 5) then
  lt (sR σ b10 3) fun b15 => (
  gd (nz b15) (
  bd (f8_pullBorne σ b10 v4 b15 (sI σ v0 4) (sI σ v0 5)) fun r18 t19 => (
  lt (sR t19 v0 0) fun b22 => (
  gd (nz b22) (
  gd (ob t19 b22 8) (
  lt (sR t19 b22 2) fun b26 => (
  gd (nz b26) (
  gd (ob t19 b26 17) (
  gd (inb t19 b26 v4) (
  lt (sR t19 b26 (ix v4)) fun b31 => (
  gd (nz b31) (
  gd (ob t19 b31 0) (
  (if r18 ≤ (sI t19 b31 2) then
  f2_breakChains_p101 (f2_breakChains_p18 n) t19 v0 v4
  else
  lt (sR t19 b22 3) fun b36 => (
  gd (nz b36) (
  gd (ob t19 b36 14) (
  gd (inb t19 b36 v4) (
  bd (f2_tell t19 v0 (1 : Int32) v4 (-1 : Int32) (sI t19 b36 (ix v4))) fun r41 t42 => (
  bd (f2_driftOn 10 t42 v0 v4 r18 (0 : Int32)) fun r45 t46 => (
  f2_breakChains_p101 (f2_breakChains_p18 n) t46 v0 v4))))))))))))))))))))
  else
  some ((), σ))))))
set_option maxRecDepth 20000 in
theorem s2_breakChains_p18 : ∀ (n : Nat) (σ : St) (v0 : Nat) (v4 : Int32) (r : Unit) (τ : St), f2_breakChains_p18 n σ v0 v4 = some (r, τ) → Ev 27 m2_breakChains 18 [(0, .ref v0), (4, .int v4)] [] σ none τ := by
  intro n
  induction n with
  | zero =>
    intro σ v0 v4 r τ hf
    cases hf
  | succ n ih =>
    intro σ v0 v4 r τ hf
    rw [f2_breakChains_p18] at hf
    refine ev_iload (i := 4) (q := 1) rfl d2_breakChains_18 ?_
    refine ev_aload_n (j := 0) (i := 0) (q := 0) rfl rfl d2_breakChains_20 ?_
    obtain ⟨h9, hf⟩ := gd_some hf
    obtain ⟨b10, e11, hf⟩ := lt_some hf
    obtain ⟨h12, hf⟩ := gd_some hf
    refine ev_getRb cls2 (j := 0) (by decide) rfl w350 h9 e11 (nz_ne h12) d2_breakChains_21 ?_
    obtain ⟨h13, hf⟩ := gd_some hf
    refine ev_getIN cls8 (j := 5) (by decide) rfl w122 h13 d2_breakChains_24 ?_
    rcases ite_some hf with ⟨c14, hf⟩ | ⟨c14, hf⟩
    · refine ev_icmp_ge_P (tgt := 107) c14 (by decide) d2_breakChains_27 ?_
      refine ev_aload_n (j := 0) (i := 0) (q := 0) rfl rfl d2_breakChains_30 ?_
      refine ev_getRb cls2 (j := 0) (by decide) rfl w350 h9 e11 (nz_ne h12) d2_breakChains_31 ?_
      refine ev_iload (i := 4) (q := 1) rfl d2_breakChains_34 ?_
      refine ev_aload_n (j := 0) (i := 0) (q := 0) rfl rfl d2_breakChains_36 ?_
      refine ev_getRb cls2 (j := 0) (by decide) rfl w350 h9 e11 (nz_ne h12) d2_breakChains_37 ?_
      obtain ⟨b15, e16, hf⟩ := lt_some hf
      obtain ⟨h17, hf⟩ := gd_some hf
      refine ev_getRNb cls8 (j := 3) (by decide) rfl w116 h13 e16 (nz_ne h17) d2_breakChains_40 ?_
      refine ev_aload_n (j := 0) (i := 0) (q := 0) rfl rfl d2_breakChains_43 ?_
      refine ev_getI cls2 (j := 4) (by decide) rfl w355 h9 d2_breakChains_44 ?_
      refine ev_aload_n (j := 0) (i := 0) (q := 0) rfl rfl d2_breakChains_47 ?_
      refine ev_getI cls2 (j := 5) (by decide) rfl w356 h9 d2_breakChains_48 ?_
      obtain ⟨r18, t19, k20, hf⟩ := bd_some hf
      have q21 := s8_pullBorne _ _ _ _ _ _ _ _ k20
      refine ev_callV (vs := [.int v4, .ref b15, .int (sI σ v0 4), .int (sI σ v0 5)]) (sk := []) cls8 h13 q21 (by decide) (Nat.le_of_ble_eq_true rfl) w956 w643 w644 w2 w645 k8_pullBorne rfl (Nat.le_of_ble_eq_true rfl) d2_breakChains_51 ?_
      refine ev_istore (lv2 := [(5, .int r18), (0, .ref v0), (4, .int v4)]) (i := 5) (by decide) rfl d2_breakChains_54 ?_
      refine ev_iload (i := 5) (q := 0) rfl d2_breakChains_56 ?_
      refine ev_aload_n (j := 0) (i := 0) (q := 1) rfl rfl d2_breakChains_58 ?_
      obtain ⟨b22, e23, hf⟩ := lt_some hf
      obtain ⟨h24, hf⟩ := gd_some hf
      refine ev_getRb cls2 (j := 0) (by decide) rfl w350 (mono_ob q21.1 h9) e23 (nz_ne h24) d2_breakChains_59 ?_
      obtain ⟨h25, hf⟩ := gd_some hf
      obtain ⟨b26, e27, hf⟩ := lt_some hf
      obtain ⟨h28, hf⟩ := gd_some hf
      refine ev_getRNb cls8 (j := 2) (by decide) rfl w109 h25 e27 (nz_ne h28) d2_breakChains_62 ?_
      refine ev_iload (i := 4) (q := 2) rfl d2_breakChains_65 ?_
      obtain ⟨h29, hf⟩ := gd_some hf
      obtain ⟨h30, hf⟩ := gd_some hf
      obtain ⟨b31, e32, hf⟩ := lt_some hf
      obtain ⟨h33, hf⟩ := gd_some hf
      refine ev_qaldb (kd := 17) (by decide) (by decide) rfl h29 h30 e32 (nz_ne h33) d2_breakChains_67 ?_
      obtain ⟨h34, hf⟩ := gd_some hf
      refine ev_getIN cls0 (j := 2) (by decide) rfl w72 h34 d2_breakChains_68 ?_
      rcases ite_some hf with ⟨c35, hf⟩ | ⟨c35, hf⟩
      · refine ev_icmp_le_P (tgt := 101) c35 (by decide) d2_breakChains_71 ?_
        exact Ev.sub [1, 2] rfl (s2_breakChains_p101 ih _ _ _ _ _ hf)
      · refine ev_icmp_le_Q (tgt := 101) c35 (by decide) d2_breakChains_71 ?_
        refine ev_aload_n (j := 0) (i := 0) (q := 1) rfl rfl d2_breakChains_74 ?_
        refine ev_iconst ci_1 d2_breakChains_75 ?_
        refine ev_iload (i := 4) (q := 2) rfl d2_breakChains_76 ?_
        refine ev_iconst ci_m1 d2_breakChains_78 ?_
        refine ev_aload_n (j := 0) (i := 0) (q := 1) rfl rfl d2_breakChains_79 ?_
        refine ev_getRb cls2 (j := 0) (by decide) rfl w350 (mono_ob q21.1 h9) e23 (nz_ne h24) d2_breakChains_80 ?_
        obtain ⟨b36, e37, hf⟩ := lt_some hf
        obtain ⟨h38, hf⟩ := gd_some hf
        refine ev_getRNb cls8 (j := 3) (by decide) rfl w116 h25 e37 (nz_ne h38) d2_breakChains_83 ?_
        refine ev_iload (i := 4) (q := 2) rfl d2_breakChains_86 ?_
        obtain ⟨h39, hf⟩ := gd_some hf
        obtain ⟨h40, hf⟩ := gd_some hf
        refine ev_iald h39 h40 d2_breakChains_88 ?_
        obtain ⟨r41, t42, k43, hf⟩ := bd_some hf
        have q44 := s2_tell _ _ _ _ _ _ _ _ k43
        refine ev_callV (vs := [.int (1 : Int32), .int v4, .int (-1 : Int32), .int (sI t19 b36 (ix v4))]) (sk := []) cls2 (mono_ob q21.1 h9) q44 (by decide) (Nat.le_of_ble_eq_true rfl) w957 w959 ws33 w15 w960 k2_tell rfl (Nat.le_of_ble_eq_true rfl) d2_breakChains_89 ?_
        refine ev_aload_n (j := 0) (i := 0) (q := 1) rfl rfl d2_breakChains_92 ?_
        refine ev_iload (i := 4) (q := 2) rfl d2_breakChains_93 ?_
        refine ev_iload (i := 5) (q := 0) rfl d2_breakChains_95 ?_
        refine ev_iconst ci_0 d2_breakChains_97 ?_
        obtain ⟨r45, t46, k47, hf⟩ := bd_some hf
        have q48 := s2_driftOn 10 _ _ _ _ _ _ _ k47
        refine ev_callV (vs := [.int v4, .int r18, .int (0 : Int32)]) (sk := []) cls2 (mono_ob q44.1 (mono_ob q21.1 h9)) q48 (by omega) (Nat.le_of_ble_eq_true rfl) w961 w963 ws34 w15 w964 k2_driftOn rfl (Nat.le_of_ble_eq_true rfl) d2_breakChains_98 ?_
        exact Ev.sub [1, 2] rfl (s2_breakChains_p101 ih _ _ _ _ _ hf)
    · refine ev_icmp_ge_Q (tgt := 107) c14 (by decide) d2_breakChains_27 ?_
      obtain ⟨-, rfl⟩ := ret_some hf
      exact ev_vret rfl d2_breakChains_107
def f2_breakChains (σ : St) (v0 : Nat) (v1 : Int32) (v2 : Int32) (v3 : Int32) : Option (Unit × St) :=
  gd (ob σ v0 2) (
  lt (wI σ v0 3 v1) fun t2 => (
  lt (wI t2 v0 4 v2) fun t4 => (
  gd (isB v3) (
  lt (wI t4 v0 5 v3) fun t7 => (
  f2_breakChains_p18 FU t7 v0 (0 : Int32))))))
set_option maxRecDepth 50000 in
theorem s2_breakChains : ∀ (σ : St) (v0 : Nat) (v1 : Int32) (v2 : Int32) (v3 : Int32) (r : Unit) (τ : St), f2_breakChains σ v0 v1 v2 v3 = some (r, τ) → Call 27 m2_breakChains [.ref v0, .int v1, .int v2, .int v3] σ none τ := by
  intro σ v0 v1 v2 v3 r τ hf
  unfold f2_breakChains at hf
  refine Call.of (by decide +kernel) rfl (Nat.le_of_ble_eq_true rfl) ?_
  refine ev_aload_n (j := 0) (i := 0) (q := 0) rfl rfl d2_breakChains_0 ?_
  refine ev_iload_n (j := 1) (i := 1) (q := 1) rfl rfl d2_breakChains_1 ?_
  obtain ⟨h1, hf⟩ := gd_some hf
  obtain ⟨t2, e3, hf⟩ := lt_some hf
  refine ev_putI cls2 (j := 3) (by decide) rfl rfl w354 h1 (fun _ => ⟨rfl, rfl⟩) d2_breakChains_2 (ev_nmS e3 ?_)
  refine ev_aload_n (j := 0) (i := 0) (q := 0) rfl rfl d2_breakChains_5 ?_
  refine ev_iload_n (j := 2) (i := 2) (q := 2) rfl rfl d2_breakChains_6 ?_
  obtain ⟨t4, e5, hf⟩ := lt_some hf
  refine ev_putI cls2 (j := 4) (by decide) rfl rfl w355 (mono_ob (mono_eI e3) h1) (fun _ => ⟨rfl, rfl⟩) d2_breakChains_7 (ev_nmS e5 ?_)
  refine ev_aload_n (j := 0) (i := 0) (q := 0) rfl rfl d2_breakChains_10 ?_
  refine ev_iload_n (j := 3) (i := 3) (q := 3) rfl rfl d2_breakChains_11 ?_
  obtain ⟨h6, hf⟩ := gd_some hf
  obtain ⟨t7, e8, hf⟩ := lt_some hf
  refine ev_putI cls2 (j := 5) (by decide) rfl rfl w356 (mono_ob (mono_eI e5) (mono_ob (mono_eI e3) h1)) (narB2 h6) d2_breakChains_12 (ev_nmS e8 ?_)
  refine ev_iconst ci_0 d2_breakChains_15 ?_
  refine ev_istore (lv2 := [(4, .int (0 : Int32)), (0, .ref v0), (1, .int v1), (2, .int v2), (3, .int v3)]) (i := 4) (by decide) rfl d2_breakChains_16 ?_
  exact Ev.sub [1, 0] rfl (s2_breakChains_p18 FU _ _ _ _ _ hf)
abbrev m3_init : MD := ("MillBoats$Grist", ⟨"MillBoats$Grist", "<init>", "(LMillBoats$River;LMillBoats$Law;)V"⟩, prog_5_method_1_code, 3, (none : Option Jvm.ClassFile.FieldType))
theorem k3_init : okY m3_init.2.1 2 := ⟨by decide +kernel, by decide +kernel, by decide +kernel⟩
def f3_init (σ : St) (v0 : Nat) (v1 : Nat) (v2 : Nat) : Option (Unit × St) :=
  lt (sN σ + 1) fun b1 => (
  gd (szOk (2 : Int32)) (
  lt (wN σ 14 (ix (2 : Int32))) fun t4 => (
  gd (ob t4 v0 3) (
  lt (wR t4 v0 2 b1) fun t7 => (
  lt (sN t7 + 1) fun b9 => (
  gd (szOk (2 : Int32)) (
  lt (wN t7 14 (ix (2 : Int32))) fun t12 => (
  lt (wR t12 v0 3 b9) fun t14 => (
  lt (sN t14 + 1) fun b16 => (
  gd (szOk (60 : Int32)) (
  lt (wN t14 14 (ix (60 : Int32))) fun t19 => (
  lt (wR t19 v0 4 b16) fun t21 => (
  lt (sN t21 + 1) fun b23 => (
  gd (szOk (60 : Int32)) (
  lt (wN t21 14 (ix (60 : Int32))) fun t26 => (
  lt (wR t26 v0 5 b23) fun t28 => (
  lt (sN t28 + 1) fun b30 => (
  gd (szOk (60 : Int32)) (
  lt (wN t28 14 (ix (60 : Int32))) fun t33 => (
  lt (wR t33 v0 6 b30) fun t35 => (
  lt (sN t35 + 1) fun b37 => (
  gd (szOk (60 : Int32)) (
  lt (wN t35 14 (ix (60 : Int32))) fun t40 => (
  lt (wR t40 v0 7 b37) fun t42 => (
  lt (sN t42 + 1) fun b44 => (
  gd (szOk (60 : Int32)) (
  lt (wN t42 14 (ix (60 : Int32))) fun t47 => (
  lt (wR t47 v0 8 b44) fun t49 => (
  gd (nz v1) (
  lt (wR t49 v0 0 v1) fun t52 => (
  gd (nz v2) (
  lt (wR t52 v0 1 v2) fun t55 => (
  some ((), t55))))))))))))))))))))))))))))))))))
set_option maxRecDepth 50000 in
theorem s3_init : ∀ (σ : St) (v0 : Nat) (v1 : Nat) (v2 : Nat) (r : Unit) (τ : St), f3_init σ v0 v1 v2 = some (r, τ) → Call 2 m3_init [.ref v0, .ref v1, .ref v2] σ none τ := by
  intro σ v0 v1 v2 r τ hf
  unfold f3_init at hf
  refine Call.of (by decide +kernel) rfl (Nat.le_of_ble_eq_true rfl) ?_
  refine ev_aload_n (j := 0) (i := 0) (q := 0) rfl rfl d3_init_0 ?_
  refine ev_objInit w375 w32 w33 (by decide) (Nat.le_of_ble_eq_true rfl) d3_init_1 ?_
  refine ev_aload_n (j := 0) (i := 0) (q := 0) rfl rfl d3_init_4 ?_
  refine ev_iconst ci_2 d3_init_5 ?_
  obtain ⟨b1, e2, hf⟩ := lt_some hf
  obtain ⟨h3, hf⟩ := gd_some hf
  obtain ⟨t4, e5, hf⟩ := lt_some hf
  refine ev_newa_int w59 h3 d3_init_6 (ev_nmR e2 (ev_nmS e5 ?_))
  obtain ⟨h6, hf⟩ := gd_some hf
  obtain ⟨t7, e8, hf⟩ := lt_some hf
  refine ev_putRF cls3 (j := 2) (by decide) rfl (ne_new e2) rfl w378 rfl rfl h6 (fun _ => ⟨rfl, rfl⟩) d3_init_8 (ev_nmS e8 ?_)
  refine ev_aload_n (j := 0) (i := 0) (q := 0) rfl rfl d3_init_11 ?_
  refine ev_iconst ci_2 d3_init_12 ?_
  obtain ⟨b9, e10, hf⟩ := lt_some hf
  obtain ⟨h11, hf⟩ := gd_some hf
  obtain ⟨t12, e13, hf⟩ := lt_some hf
  refine ev_newa_int w59 h11 d3_init_13 (ev_nmR e10 (ev_nmS e13 ?_))
  obtain ⟨t14, e15, hf⟩ := lt_some hf
  refine ev_putRF cls3 (j := 3) (by decide) rfl (ne_new e10) rfl w380 rfl rfl (mono_ob (mono_eN e13) (mono_ob (mono_eR e8) h6)) (fun _ => ⟨rfl, rfl⟩) d3_init_15 (ev_nmS e15 ?_)
  refine ev_aload_n (j := 0) (i := 0) (q := 0) rfl rfl d3_init_18 ?_
  refine ev_bipush cb_60 d3_init_19 ?_
  obtain ⟨b16, e17, hf⟩ := lt_some hf
  obtain ⟨h18, hf⟩ := gd_some hf
  obtain ⟨t19, e20, hf⟩ := lt_some hf
  refine ev_newa_int w59 h18 d3_init_21 (ev_nmR e17 (ev_nmS e20 ?_))
  obtain ⟨t21, e22, hf⟩ := lt_some hf
  refine ev_putRF cls3 (j := 4) (by decide) rfl (ne_new e17) rfl w381 rfl rfl (mono_ob (mono_eN e20) (mono_ob (mono_eR e15) (mono_ob (mono_eN e13) (mono_ob (mono_eR e8) h6)))) (fun _ => ⟨rfl, rfl⟩) d3_init_23 (ev_nmS e22 ?_)
  refine ev_aload_n (j := 0) (i := 0) (q := 0) rfl rfl d3_init_26 ?_
  refine ev_bipush cb_60 d3_init_27 ?_
  obtain ⟨b23, e24, hf⟩ := lt_some hf
  obtain ⟨h25, hf⟩ := gd_some hf
  obtain ⟨t26, e27, hf⟩ := lt_some hf
  refine ev_newa_int w59 h25 d3_init_29 (ev_nmR e24 (ev_nmS e27 ?_))
  obtain ⟨t28, e29, hf⟩ := lt_some hf
  refine ev_putRF cls3 (j := 5) (by decide) rfl (ne_new e24) rfl w382 rfl rfl (mono_ob (mono_eN e27) (mono_ob (mono_eR e22) (mono_ob (mono_eN e20) (mono_ob (mono_eR e15) (mono_ob (mono_eN e13) (mono_ob (mono_eR e8) h6)))))) (fun _ => ⟨rfl, rfl⟩) d3_init_31 (ev_nmS e29 ?_)
  refine ev_aload_n (j := 0) (i := 0) (q := 0) rfl rfl d3_init_34 ?_
  refine ev_bipush cb_60 d3_init_35 ?_
  obtain ⟨b30, e31, hf⟩ := lt_some hf
  obtain ⟨h32, hf⟩ := gd_some hf
  obtain ⟨t33, e34, hf⟩ := lt_some hf
  refine ev_newa_int w59 h32 d3_init_37 (ev_nmR e31 (ev_nmS e34 ?_))
  obtain ⟨t35, e36, hf⟩ := lt_some hf
  refine ev_putRF cls3 (j := 6) (by decide) rfl (ne_new e31) rfl w383 rfl rfl (mono_ob (mono_eN e34) (mono_ob (mono_eR e29) (mono_ob (mono_eN e27) (mono_ob (mono_eR e22) (mono_ob (mono_eN e20) (mono_ob (mono_eR e15) (mono_ob (mono_eN e13) (mono_ob (mono_eR e8) h6)))))))) (fun _ => ⟨rfl, rfl⟩) d3_init_39 (ev_nmS e36 ?_)
  refine ev_aload_n (j := 0) (i := 0) (q := 0) rfl rfl d3_init_42 ?_
  refine ev_bipush cb_60 d3_init_43 ?_
  obtain ⟨b37, e38, hf⟩ := lt_some hf
  obtain ⟨h39, hf⟩ := gd_some hf
  obtain ⟨t40, e41, hf⟩ := lt_some hf
  refine ev_newa_int w59 h39 d3_init_45 (ev_nmR e38 (ev_nmS e41 ?_))
  obtain ⟨t42, e43, hf⟩ := lt_some hf
  refine ev_putRF cls3 (j := 7) (by decide) rfl (ne_new e38) rfl w384 rfl rfl (mono_ob (mono_eN e41) (mono_ob (mono_eR e36) (mono_ob (mono_eN e34) (mono_ob (mono_eR e29) (mono_ob (mono_eN e27) (mono_ob (mono_eR e22) (mono_ob (mono_eN e20) (mono_ob (mono_eR e15) (mono_ob (mono_eN e13) (mono_ob (mono_eR e8) h6)))))))))) (fun _ => ⟨rfl, rfl⟩) d3_init_47 (ev_nmS e43 ?_)
  refine ev_aload_n (j := 0) (i := 0) (q := 0) rfl rfl d3_init_50 ?_
  refine ev_bipush cb_60 d3_init_51 ?_
  obtain ⟨b44, e45, hf⟩ := lt_some hf
  obtain ⟨h46, hf⟩ := gd_some hf
  obtain ⟨t47, e48, hf⟩ := lt_some hf
  refine ev_newa_int w59 h46 d3_init_53 (ev_nmR e45 (ev_nmS e48 ?_))
  obtain ⟨t49, e50, hf⟩ := lt_some hf
  refine ev_putRF cls3 (j := 8) (by decide) rfl (ne_new e45) rfl w385 rfl rfl (mono_ob (mono_eN e48) (mono_ob (mono_eR e43) (mono_ob (mono_eN e41) (mono_ob (mono_eR e36) (mono_ob (mono_eN e34) (mono_ob (mono_eR e29) (mono_ob (mono_eN e27) (mono_ob (mono_eR e22) (mono_ob (mono_eN e20) (mono_ob (mono_eR e15) (mono_ob (mono_eN e13) (mono_ob (mono_eR e8) h6)))))))))))) (fun _ => ⟨rfl, rfl⟩) d3_init_55 (ev_nmS e50 ?_)
  refine ev_aload_n (j := 0) (i := 0) (q := 0) rfl rfl d3_init_58 ?_
  refine ev_aload_n (j := 1) (i := 1) (q := 1) rfl rfl d3_init_59 ?_
  obtain ⟨h51, hf⟩ := gd_some hf
  obtain ⟨t52, e53, hf⟩ := lt_some hf
  refine ev_putRF cls3 (j := 0) (by decide) rfl (nz_ne h51) rfl w376 rfl rfl (mono_ob (mono_eR e50) (mono_ob (mono_eN e48) (mono_ob (mono_eR e43) (mono_ob (mono_eN e41) (mono_ob (mono_eR e36) (mono_ob (mono_eN e34) (mono_ob (mono_eR e29) (mono_ob (mono_eN e27) (mono_ob (mono_eR e22) (mono_ob (mono_eN e20) (mono_ob (mono_eR e15) (mono_ob (mono_eN e13) (mono_ob (mono_eR e8) h6))))))))))))) (fun _ => ⟨rfl, rfl⟩) d3_init_60 (ev_nmS e53 ?_)
  refine ev_aload_n (j := 0) (i := 0) (q := 0) rfl rfl d3_init_63 ?_
  refine ev_aload_n (j := 2) (i := 2) (q := 2) rfl rfl d3_init_64 ?_
  obtain ⟨h54, hf⟩ := gd_some hf
  obtain ⟨t55, e56, hf⟩ := lt_some hf
  refine ev_putRF cls3 (j := 1) (by decide) rfl (nz_ne h54) rfl w377 rfl rfl (mono_ob (mono_eR e53) (mono_ob (mono_eR e50) (mono_ob (mono_eN e48) (mono_ob (mono_eR e43) (mono_ob (mono_eN e41) (mono_ob (mono_eR e36) (mono_ob (mono_eN e34) (mono_ob (mono_eR e29) (mono_ob (mono_eN e27) (mono_ob (mono_eR e22) (mono_ob (mono_eN e20) (mono_ob (mono_eR e15) (mono_ob (mono_eN e13) (mono_ob (mono_eR e8) h6)))))))))))))) (fun _ => ⟨rfl, rfl⟩) d3_init_65 (ev_nmS e56 ?_)
  obtain ⟨-, rfl⟩ := ret_some hf
  exact ev_vret rfl d3_init_68
abbrev m3_take : MD := ("MillBoats$Grist", ⟨"MillBoats$Grist", "take", "(II)I"⟩, prog_5_method_2_code, 3, (some Jvm.ClassFile.FieldType.int))
theorem k3_take : okY m3_take.2.1 2 := ⟨by decide +kernel, by decide +kernel, by decide +kernel⟩
def f3_take (σ : St) (v0 : Nat) (v1 : Int32) (v2 : Int32) : Option (Int32 × St) :=
  gd (ob σ v0 3) (
  (if (sI σ v0 9) < (60 : Int32) then
  lt (sR σ v0 4) fun b3 => (
  gd (nz b3) (
  gd (ob σ b3 14) (
  gd (inb σ b3 (sI σ v0 9)) (
  lt (wI σ b3 (ix (sI σ v0 9)) v1) fun t8 => (
  lt (sR t8 v0 5) fun b10 => (
  gd (nz b10) (
  gd (ob t8 b10 14) (
  gd (inb t8 b10 (sI t8 v0 9)) (
  lt (wI t8 b10 (ix (sI t8 v0 9)) v2) fun t15 => (
  lt (sR t15 v0 6) fun b17 => (
  gd (nz b17) (
  gd (ob t15 b17 14) (
  gd (inb t15 b17 (sI t15 v0 9)) (
  lt (wI t15 b17 (ix (sI t15 v0 9)) v2) fun t22 => (
  lt (sR t22 v0 8) fun b24 => (
  gd (nz b24) (
  gd (ob t22 b24 14) (
  gd (inb t22 b24 (sI t22 v0 9)) (
  lt (wI t22 b24 (ix (sI t22 v0 9)) (-1 : Int32)) fun t29 => (
  lt (wI t29 v0 9 ((sI t29 v0 9) + (1 : Int32))) fun t31 => (
  some ((sI t31 v0 9) - (1 : Int32), t31))))))))))))))))))))))
  else
  some ((-1 : Int32), σ)))
set_option maxRecDepth 50000 in
theorem s3_take : ∀ (σ : St) (v0 : Nat) (v1 : Int32) (v2 : Int32) (r : Int32) (τ : St), f3_take σ v0 v1 v2 = some (r, τ) → Call 2 m3_take [.ref v0, .int v1, .int v2] σ (some (.int r)) τ := by
  intro σ v0 v1 v2 r τ hf
  unfold f3_take at hf
  refine Call.of (by decide +kernel) rfl (Nat.le_of_ble_eq_true rfl) ?_
  refine ev_aload_n (j := 0) (i := 0) (q := 0) rfl rfl d3_take_0 ?_
  obtain ⟨h1, hf⟩ := gd_some hf
  refine ev_getI cls3 (j := 9) (by decide) rfl w386 h1 d3_take_1 ?_
  refine ev_bipush cb_60 d3_take_4 ?_
  rcases ite_some hf with ⟨c2, hf⟩ | ⟨c2, hf⟩
  · refine ev_icmp_lt_P (tgt := 11) c2 (by decide) d3_take_6 ?_
    refine ev_aload_n (j := 0) (i := 0) (q := 0) rfl rfl d3_take_11 ?_
    obtain ⟨b3, e4, hf⟩ := lt_some hf
    obtain ⟨h5, hf⟩ := gd_some hf
    refine ev_getRb cls3 (j := 4) (by decide) rfl w381 h1 e4 (nz_ne h5) d3_take_12 ?_
    refine ev_aload_n (j := 0) (i := 0) (q := 0) rfl rfl d3_take_15 ?_
    refine ev_getI cls3 (j := 9) (by decide) rfl w386 h1 d3_take_16 ?_
    refine ev_iload_n (j := 1) (i := 1) (q := 1) rfl rfl d3_take_19 ?_
    obtain ⟨h6, hf⟩ := gd_some hf
    obtain ⟨h7, hf⟩ := gd_some hf
    obtain ⟨t8, e9, hf⟩ := lt_some hf
    refine ev_iast h6 h7 d3_take_20 (ev_nmS e9 ?_)
    refine ev_aload_n (j := 0) (i := 0) (q := 0) rfl rfl d3_take_21 ?_
    obtain ⟨b10, e11, hf⟩ := lt_some hf
    obtain ⟨h12, hf⟩ := gd_some hf
    refine ev_getRb cls3 (j := 5) (by decide) rfl w382 (mono_ob (mono_eI e9) h1) e11 (nz_ne h12) d3_take_22 ?_
    refine ev_aload_n (j := 0) (i := 0) (q := 0) rfl rfl d3_take_25 ?_
    refine ev_getI cls3 (j := 9) (by decide) rfl w386 (mono_ob (mono_eI e9) h1) d3_take_26 ?_
    refine ev_iload_n (j := 2) (i := 2) (q := 2) rfl rfl d3_take_29 ?_
    obtain ⟨h13, hf⟩ := gd_some hf
    obtain ⟨h14, hf⟩ := gd_some hf
    obtain ⟨t15, e16, hf⟩ := lt_some hf
    refine ev_iast h13 h14 d3_take_30 (ev_nmS e16 ?_)
    refine ev_aload_n (j := 0) (i := 0) (q := 0) rfl rfl d3_take_31 ?_
    obtain ⟨b17, e18, hf⟩ := lt_some hf
    obtain ⟨h19, hf⟩ := gd_some hf
    refine ev_getRb cls3 (j := 6) (by decide) rfl w383 (mono_ob (mono_eI e16) (mono_ob (mono_eI e9) h1)) e18 (nz_ne h19) d3_take_32 ?_
    refine ev_aload_n (j := 0) (i := 0) (q := 0) rfl rfl d3_take_35 ?_
    refine ev_getI cls3 (j := 9) (by decide) rfl w386 (mono_ob (mono_eI e16) (mono_ob (mono_eI e9) h1)) d3_take_36 ?_
    refine ev_iload_n (j := 2) (i := 2) (q := 2) rfl rfl d3_take_39 ?_
    obtain ⟨h20, hf⟩ := gd_some hf
    obtain ⟨h21, hf⟩ := gd_some hf
    obtain ⟨t22, e23, hf⟩ := lt_some hf
    refine ev_iast h20 h21 d3_take_40 (ev_nmS e23 ?_)
    refine ev_aload_n (j := 0) (i := 0) (q := 0) rfl rfl d3_take_41 ?_
    obtain ⟨b24, e25, hf⟩ := lt_some hf
    obtain ⟨h26, hf⟩ := gd_some hf
    refine ev_getRb cls3 (j := 8) (by decide) rfl w385 (mono_ob (mono_eI e23) (mono_ob (mono_eI e16) (mono_ob (mono_eI e9) h1))) e25 (nz_ne h26) d3_take_42 ?_
    refine ev_aload_n (j := 0) (i := 0) (q := 0) rfl rfl d3_take_45 ?_
    refine ev_getI cls3 (j := 9) (by decide) rfl w386 (mono_ob (mono_eI e23) (mono_ob (mono_eI e16) (mono_ob (mono_eI e9) h1))) d3_take_46 ?_
    refine ev_iconst ci_m1 d3_take_49 ?_
    obtain ⟨h27, hf⟩ := gd_some hf
    obtain ⟨h28, hf⟩ := gd_some hf
    obtain ⟨t29, e30, hf⟩ := lt_some hf
    refine ev_iast h27 h28 d3_take_50 (ev_nmS e30 ?_)
    refine ev_aload_n (j := 0) (i := 0) (q := 0) rfl rfl d3_take_51 ?_
    refine ev_dup rfl d3_take_52 ?_
    refine ev_getI cls3 (j := 9) (by decide) rfl w386 (mono_ob (mono_eI e30) (mono_ob (mono_eI e23) (mono_ob (mono_eI e16) (mono_ob (mono_eI e9) h1)))) d3_take_53 ?_
    refine ev_iconst ci_1 d3_take_56 ?_
    refine ev_iadd d3_take_57 ?_
    obtain ⟨t31, e32, hf⟩ := lt_some hf
    refine ev_putI cls3 (j := 9) (by decide) rfl rfl w386 (mono_ob (mono_eI e30) (mono_ob (mono_eI e23) (mono_ob (mono_eI e16) (mono_ob (mono_eI e9) h1)))) (fun _ => ⟨rfl, rfl⟩) d3_take_58 (ev_nmS e32 ?_)
    refine ev_aload_n (j := 0) (i := 0) (q := 0) rfl rfl d3_take_61 ?_
    refine ev_getI cls3 (j := 9) (by decide) rfl w386 (mono_ob (mono_eI e32) (mono_ob (mono_eI e30) (mono_ob (mono_eI e23) (mono_ob (mono_eI e16) (mono_ob (mono_eI e9) h1))))) d3_take_62 ?_
    refine ev_iconst ci_1 d3_take_65 ?_
    refine ev_isub d3_take_66 ?_
    obtain ⟨rfl, rfl⟩ := ret_some hf
    exact ev_iret rfl d3_take_67
  · refine ev_icmp_lt_Q (tgt := 11) c2 (by decide) d3_take_6 ?_
    refine ev_iconst ci_m1 d3_take_9 ?_
    obtain ⟨rfl, rfl⟩ := ret_some hf
    exact ev_iret rfl d3_take_10
abbrev m3_told : MD := ("MillBoats$Grist", ⟨"MillBoats$Grist", "told", "(II)I"⟩, prog_5_method_3_code, 3, (some Jvm.ClassFile.FieldType.int))
theorem k3_told : okY m3_told.2.1 2 := ⟨by decide +kernel, by decide +kernel, by decide +kernel⟩
def f3_told (σ : St) (v0 : Nat) (v1 : Int32) (v2 : Int32) : Option (Int32 × St) :=
  (if v1 < (0 : Int32) then
  some ((-1 : Int32), σ)
  else
  gd (ob σ v0 3) (
  (if v1 < (sI σ v0 9) then
  (if v2 = (0 : Int32) then
  lt (sR σ v0 4) fun b5 => (
  gd (nz b5) (
  gd (ob σ b5 14) (
  gd (inb σ b5 v1) (
  some (sI σ b5 (ix v1), σ)))))
  else
  (if v2 = (1 : Int32) then
  lt (sR σ v0 5) fun b11 => (
  gd (nz b11) (
  gd (ob σ b11 14) (
  gd (inb σ b11 v1) (
  some (sI σ b11 (ix v1), σ)))))
  else
  (if v2 = (2 : Int32) then
  lt (sR σ v0 6) fun b17 => (
  gd (nz b17) (
  gd (ob σ b17 14) (
  gd (inb σ b17 v1) (
  some (sI σ b17 (ix v1), σ)))))
  else
  (if v2 = (3 : Int32) then
  lt (sR σ v0 7) fun b23 => (
  gd (nz b23) (
  gd (ob σ b23 14) (
  gd (inb σ b23 v1) (
  some (sI σ b23 (ix v1), σ)))))
  else
  (if v2 = (4 : Int32) then
  lt (sR σ v0 8) fun b29 => (
  gd (nz b29) (
  gd (ob σ b29 14) (
  gd (inb σ b29 v1) (
  some (sI σ b29 (ix v1), σ)))))
  else
  some ((-1 : Int32), σ))))))
  else
  some ((-1 : Int32), σ))))
set_option maxRecDepth 50000 in
theorem s3_told : ∀ (σ : St) (v0 : Nat) (v1 : Int32) (v2 : Int32) (r : Int32) (τ : St), f3_told σ v0 v1 v2 = some (r, τ) → Call 2 m3_told [.ref v0, .int v1, .int v2] σ (some (.int r)) τ := by
  intro σ v0 v1 v2 r τ hf
  unfold f3_told at hf
  refine Call.of (by decide +kernel) rfl (Nat.le_of_ble_eq_true rfl) ?_
  refine ev_iload_n (j := 1) (i := 1) (q := 1) rfl rfl d3_told_0 ?_
  rcases ite_some hf with ⟨c1, hf⟩ | ⟨c1, hf⟩
  · refine ev_if_lt_P (tgt := 12) c1 (by decide) d3_told_1 ?_
    refine ev_iconst ci_m1 d3_told_12 ?_
    obtain ⟨rfl, rfl⟩ := ret_some hf
    exact ev_iret rfl d3_told_13
  · refine ev_if_lt_Q (tgt := 12) c1 (by decide) d3_told_1 ?_
    refine ev_iload_n (j := 1) (i := 1) (q := 1) rfl rfl d3_told_4 ?_
    refine ev_aload_n (j := 0) (i := 0) (q := 0) rfl rfl d3_told_5 ?_
    obtain ⟨h2, hf⟩ := gd_some hf
    refine ev_getI cls3 (j := 9) (by decide) rfl w386 h2 d3_told_6 ?_
    rcases ite_some hf with ⟨c3, hf⟩ | ⟨c3, hf⟩
    · refine ev_icmp_lt_P (tgt := 14) c3 (by decide) d3_told_9 ?_
      refine ev_iload_n (j := 2) (i := 2) (q := 2) rfl rfl d3_told_14 ?_
      rcases ite_some hf with ⟨c4, hf⟩ | ⟨c4, hf⟩
      · refine ev_table_in (off := 33) (tgt := 48) d3_told_15 (by rw [c4]; decide) (by rw [c4]; decide) (by rw [c4]; decide) (by decide) ?_
        refine ev_aload_n (j := 0) (i := 0) (q := 0) rfl rfl d3_told_48 ?_
        obtain ⟨b5, e6, hf⟩ := lt_some hf
        obtain ⟨h7, hf⟩ := gd_some hf
        refine ev_getRb cls3 (j := 4) (by decide) rfl w381 h2 e6 (nz_ne h7) d3_told_49 ?_
        refine ev_iload_n (j := 1) (i := 1) (q := 1) rfl rfl d3_told_52 ?_
        obtain ⟨h8, hf⟩ := gd_some hf
        obtain ⟨h9, hf⟩ := gd_some hf
        refine ev_iald h8 h9 d3_told_53 ?_
        obtain ⟨rfl, rfl⟩ := ret_some hf
        exact ev_iret rfl d3_told_54
      rcases ite_some hf with ⟨c10, hf⟩ | ⟨c10, hf⟩
      · refine ev_table_in (off := 40) (tgt := 55) d3_told_15 (by rw [c10]; decide) (by rw [c10]; decide) (by rw [c10]; decide) (by decide) ?_
        refine ev_aload_n (j := 0) (i := 0) (q := 0) rfl rfl d3_told_55 ?_
        obtain ⟨b11, e12, hf⟩ := lt_some hf
        obtain ⟨h13, hf⟩ := gd_some hf
        refine ev_getRb cls3 (j := 5) (by decide) rfl w382 h2 e12 (nz_ne h13) d3_told_56 ?_
        refine ev_iload_n (j := 1) (i := 1) (q := 1) rfl rfl d3_told_59 ?_
        obtain ⟨h14, hf⟩ := gd_some hf
        obtain ⟨h15, hf⟩ := gd_some hf
        refine ev_iald h14 h15 d3_told_60 ?_
        obtain ⟨rfl, rfl⟩ := ret_some hf
        exact ev_iret rfl d3_told_61
      rcases ite_some hf with ⟨c16, hf⟩ | ⟨c16, hf⟩
      · refine ev_table_in (off := 47) (tgt := 62) d3_told_15 (by rw [c16]; decide) (by rw [c16]; decide) (by rw [c16]; decide) (by decide) ?_
        refine ev_aload_n (j := 0) (i := 0) (q := 0) rfl rfl d3_told_62 ?_
        obtain ⟨b17, e18, hf⟩ := lt_some hf
        obtain ⟨h19, hf⟩ := gd_some hf
        refine ev_getRb cls3 (j := 6) (by decide) rfl w383 h2 e18 (nz_ne h19) d3_told_63 ?_
        refine ev_iload_n (j := 1) (i := 1) (q := 1) rfl rfl d3_told_66 ?_
        obtain ⟨h20, hf⟩ := gd_some hf
        obtain ⟨h21, hf⟩ := gd_some hf
        refine ev_iald h20 h21 d3_told_67 ?_
        obtain ⟨rfl, rfl⟩ := ret_some hf
        exact ev_iret rfl d3_told_68
      rcases ite_some hf with ⟨c22, hf⟩ | ⟨c22, hf⟩
      · refine ev_table_in (off := 54) (tgt := 69) d3_told_15 (by rw [c22]; decide) (by rw [c22]; decide) (by rw [c22]; decide) (by decide) ?_
        refine ev_aload_n (j := 0) (i := 0) (q := 0) rfl rfl d3_told_69 ?_
        obtain ⟨b23, e24, hf⟩ := lt_some hf
        obtain ⟨h25, hf⟩ := gd_some hf
        refine ev_getRb cls3 (j := 7) (by decide) rfl w384 h2 e24 (nz_ne h25) d3_told_70 ?_
        refine ev_iload_n (j := 1) (i := 1) (q := 1) rfl rfl d3_told_73 ?_
        obtain ⟨h26, hf⟩ := gd_some hf
        obtain ⟨h27, hf⟩ := gd_some hf
        refine ev_iald h26 h27 d3_told_74 ?_
        obtain ⟨rfl, rfl⟩ := ret_some hf
        exact ev_iret rfl d3_told_75
      rcases ite_some hf with ⟨c28, hf⟩ | ⟨c28, hf⟩
      · refine ev_table_in (off := 61) (tgt := 76) d3_told_15 (by rw [c28]; decide) (by rw [c28]; decide) (by rw [c28]; decide) (by decide) ?_
        refine ev_aload_n (j := 0) (i := 0) (q := 0) rfl rfl d3_told_76 ?_
        obtain ⟨b29, e30, hf⟩ := lt_some hf
        obtain ⟨h31, hf⟩ := gd_some hf
        refine ev_getRb cls3 (j := 8) (by decide) rfl w385 h2 e30 (nz_ne h31) d3_told_77 ?_
        refine ev_iload_n (j := 1) (i := 1) (q := 1) rfl rfl d3_told_80 ?_
        obtain ⟨h32, hf⟩ := gd_some hf
        obtain ⟨h33, hf⟩ := gd_some hf
        refine ev_iald h32 h33 d3_told_81 ?_
        obtain ⟨rfl, rfl⟩ := ret_some hf
        exact ev_iret rfl d3_told_82
      refine ev_table_out (tgt := 83) d3_told_15 (by have nc4 : v2.toInt ≠ 0 := neI c4; have nc10 : v2.toInt ≠ 1 := neI c10; have nc16 : v2.toInt ≠ 2 := neI c16; have nc22 : v2.toInt ≠ 3 := neI c22; have nc28 : v2.toInt ≠ 4 := neI c28; omega) (by decide) ?_
      refine ev_iconst ci_m1 d3_told_83 ?_
      obtain ⟨rfl, rfl⟩ := ret_some hf
      exact ev_iret rfl d3_told_84
    · refine ev_icmp_lt_Q (tgt := 14) c3 (by decide) d3_told_9 ?_
      refine ev_iconst ci_m1 d3_told_12 ?_
      obtain ⟨rfl, rfl⟩ := ret_some hf
      exact ev_iret rfl d3_told_13
abbrev m3_sacksLeft : MD := ("MillBoats$Grist", ⟨"MillBoats$Grist", "sacksLeft", "()I"⟩, prog_5_method_4_code, 3, (some Jvm.ClassFile.FieldType.int))
theorem k3_sacksLeft : okY m3_sacksLeft.2.1 0 := ⟨by decide +kernel, by decide +kernel, by decide +kernel⟩
def f3_sacksLeft_p4 : Nat → St → Nat → Int32 → Int32 → Option (Int32 × St)
  | 0, _, _, _, _ => none
  | n + 1, σ, v0, v1, v2 =>
  gd (ob σ v0 3) (
  (if v2 < (sI σ v0 9) then
  lt (sR σ v0 6) fun b3 => (
  gd (nz b3) (
  gd (ob σ b3 14) (
  gd (inb σ b3 v2) (
  lt (v1 + (sI σ b3 (ix v2))) fun y8 => (
  lt (v2 + (1 : Int32)) fun y10 => (
  (f3_sacksLeft_p4 n) σ v0 y8 y10))))))
  else
  some (v1, σ)))
set_option maxRecDepth 20000 in
theorem s3_sacksLeft_p4 : ∀ (n : Nat) (σ : St) (v0 : Nat) (v1 : Int32) (v2 : Int32) (r : Int32) (τ : St), f3_sacksLeft_p4 n σ v0 v1 v2 = some (r, τ) → Ev 2 m3_sacksLeft 4 [(0, .ref v0), (1, .int v1), (2, .int v2)] [] σ (some (.int r)) τ := by
  intro n
  induction n with
  | zero =>
    intro σ v0 v1 v2 r τ hf
    cases hf
  | succ n ih =>
    intro σ v0 v1 v2 r τ hf
    rw [f3_sacksLeft_p4] at hf
    refine ev_iload_n (j := 2) (i := 2) (q := 2) rfl rfl d3_sacksLeft_4 ?_
    refine ev_aload_n (j := 0) (i := 0) (q := 0) rfl rfl d3_sacksLeft_5 ?_
    obtain ⟨h1, hf⟩ := gd_some hf
    refine ev_getI cls3 (j := 9) (by decide) rfl w386 h1 d3_sacksLeft_6 ?_
    rcases ite_some hf with ⟨c2, hf⟩ | ⟨c2, hf⟩
    · refine ev_icmp_ge_P (tgt := 27) c2 (by decide) d3_sacksLeft_9 ?_
      refine ev_iload_n (j := 1) (i := 1) (q := 1) rfl rfl d3_sacksLeft_12 ?_
      refine ev_aload_n (j := 0) (i := 0) (q := 0) rfl rfl d3_sacksLeft_13 ?_
      obtain ⟨b3, e4, hf⟩ := lt_some hf
      obtain ⟨h5, hf⟩ := gd_some hf
      refine ev_getRb cls3 (j := 6) (by decide) rfl w383 h1 e4 (nz_ne h5) d3_sacksLeft_14 ?_
      refine ev_iload_n (j := 2) (i := 2) (q := 2) rfl rfl d3_sacksLeft_17 ?_
      obtain ⟨h6, hf⟩ := gd_some hf
      obtain ⟨h7, hf⟩ := gd_some hf
      refine ev_iald h6 h7 d3_sacksLeft_18 ?_
      refine ev_iadd d3_sacksLeft_19 ?_
      obtain ⟨y8, e9, hf⟩ := lt_some hf
      refine ev_nmI e9 ?_
      refine ev_istore_n (lv2 := [(1, .int y8), (0, .ref v0), (2, .int v2)]) (j := 1) (i := 1) rfl (by decide) rfl d3_sacksLeft_20 ?_
      obtain ⟨y10, e11, hf⟩ := lt_some hf
      refine ev_iinc (lv2 := [(2, .int y10), (1, .int y8), (0, .ref v0)]) (i := 2) (q := 2) (v := y10) (n := 1) rfl (by rw [ci_1]; exact e11.symm) (by decide) rfl d3_sacksLeft_21 ?_
      refine ev_goto (tgt := 4) (by decide) d3_sacksLeft_24 ?_
      exact Ev.sub [2, 1, 0] rfl (ih _ _ _ _ _ _ hf)
    · refine ev_icmp_ge_Q (tgt := 27) c2 (by decide) d3_sacksLeft_9 ?_
      refine ev_iload_n (j := 1) (i := 1) (q := 1) rfl rfl d3_sacksLeft_27 ?_
      obtain ⟨rfl, rfl⟩ := ret_some hf
      exact ev_iret rfl d3_sacksLeft_28
def f3_sacksLeft (σ : St) (v0 : Nat) : Option (Int32 × St) :=
  f3_sacksLeft_p4 FU σ v0 (0 : Int32) (0 : Int32)
set_option maxRecDepth 50000 in
theorem s3_sacksLeft : ∀ (σ : St) (v0 : Nat) (r : Int32) (τ : St), f3_sacksLeft σ v0 = some (r, τ) → Call 2 m3_sacksLeft [.ref v0] σ (some (.int r)) τ := by
  intro σ v0 r τ hf
  unfold f3_sacksLeft at hf
  refine Call.of (by decide +kernel) rfl (Nat.le_of_ble_eq_true rfl) ?_
  refine ev_iconst ci_0 d3_sacksLeft_0 ?_
  refine ev_istore_n (lv2 := [(1, .int (0 : Int32)), (0, .ref v0)]) (j := 1) (i := 1) rfl (by decide) rfl d3_sacksLeft_1 ?_
  refine ev_iconst ci_0 d3_sacksLeft_2 ?_
  refine ev_istore_n (lv2 := [(2, .int (0 : Int32)), (1, .int (0 : Int32)), (0, .ref v0)]) (j := 2) (i := 2) rfl (by decide) rfl d3_sacksLeft_3 ?_
  exact Ev.sub [2, 1, 0] rfl (s3_sacksLeft_p4 FU _ _ _ _ _ _ hf)
abbrev m4_giveBoat : MD := ("MillBoats$Law", ⟨"MillBoats$Law", "giveBoat", "(IIII)V"⟩, prog_6_method_6_code, 7, (none : Option Jvm.ClassFile.FieldType))
theorem k4_giveBoat : okY m4_giveBoat.2.1 4 := ⟨by decide +kernel, by decide +kernel, by decide +kernel⟩
def f4_giveBoat (σ : St) (v0 : Nat) (v1 : Int32) (v2 : Int32) (v3 : Int32) (v4 : Int32) : Option (Unit × St) :=
  gd (ob σ v0 4) (
  lt (sR σ v0 1) fun b2 => (
  gd (nz b2) (
  gd (ob σ b2 1) (
  bd (f1_latestOr σ b2 v3 v4 (5 : Int32)) fun r6 t7 => (
  lt (sR t7 v0 0) fun b10 => (
  gd (nz b10) (
  gd (ob t7 b10 8) (
  lt (sR t7 b10 2) fun b14 => (
  gd (nz b14) (
  gd (ob t7 b14 17) (
  gd (inb t7 b14 v1) (
  lt (sR t7 b14 (ix v1)) fun b19 => (
  gd (nz b19) (
  lt (sR t7 v0 6) fun b22 => (
  gd (nz b22) (
  bd (f11_laneOf t7 v2) fun r25 t26 => (
  gd (ob t26 b22 14) (
  gd (inb t26 b22 (0 : Int32)) (
  lt (wI t26 b22 (ix (0 : Int32)) r25) fun t31 => (
  lt (sR t31 v0 6) fun b33 => (
  gd (nz b33) (
  bd (f11_stretchOf t31 v2) fun r36 t37 => (
  gd (ob t37 b33 14) (
  gd (inb t37 b33 (1 : Int32)) (
  lt (wI t37 b33 (ix (1 : Int32)) r36) fun t42 => (
  lt (sR t42 v0 6) fun b44 => (
  gd (nz b44) (
  gd (ob t42 b44 14) (
  gd (inb t42 b44 (2 : Int32)) (
  lt (wI t42 b44 (ix (2 : Int32)) r6) fun t49 => (
  lt (sR t49 v0 0) fun b51 => (
  gd (nz b51) (
  gd (ob t49 b51 8) (
  bd (f8_depth t49 b51 v2 r6) fun r55 t56 => (
  gd (inb t56 b44 (3 : Int32)) (
  lt (wI t56 b44 (ix (3 : Int32)) r55) fun t60 => (
  lt (sR t60 v0 6) fun b62 => (
  gd (nz b62) (
  gd (ob t60 b62 14) (
  gd (inb t60 b62 (4 : Int32)) (
  lt (wI t60 b62 (ix (4 : Int32)) v3) fun t67 => (
  gd (inb t67 b62 (5 : Int32)) (
  lt (wI t67 b62 (ix (5 : Int32)) v1) fun t70 => (
  gd (ob t70 b19 0) (
  gd (inb t70 b62 (6 : Int32)) (
  lt (wI t70 b62 (ix (6 : Int32)) (sI t70 b19 0)) fun t74 => (
  gd (inb t74 b62 (7 : Int32)) (
  lt (wI t74 b62 (ix (7 : Int32)) (sI t74 b19 1)) fun t77 => (
  gd (inb t77 b62 (8 : Int32)) (
  lt (wI t77 b62 (ix (8 : Int32)) (0 : Int32)) fun t80 => (
  some ((), t80))))))))))))))))))))))))))))))))))))))))))))))))))))
set_option maxRecDepth 50000 in
theorem s4_giveBoat : ∀ (σ : St) (v0 : Nat) (v1 : Int32) (v2 : Int32) (v3 : Int32) (v4 : Int32) (r : Unit) (τ : St), f4_giveBoat σ v0 v1 v2 v3 v4 = some (r, τ) → Call 4 m4_giveBoat [.ref v0, .int v1, .int v2, .int v3, .int v4] σ none τ := by
  intro σ v0 v1 v2 v3 v4 r τ hf
  unfold f4_giveBoat at hf
  refine Call.of (by decide +kernel) rfl (Nat.le_of_ble_eq_true rfl) ?_
  refine ev_aload_n (j := 0) (i := 0) (q := 0) rfl rfl d4_giveBoat_0 ?_
  obtain ⟨h1, hf⟩ := gd_some hf
  obtain ⟨b2, e3, hf⟩ := lt_some hf
  obtain ⟨h4, hf⟩ := gd_some hf
  refine ev_getRb cls4 (j := 1) (by decide) rfl w315 h1 e3 (nz_ne h4) d4_giveBoat_1 ?_
  refine ev_iload_n (j := 3) (i := 3) (q := 3) rfl rfl d4_giveBoat_4 ?_
  refine ev_iload (i := 4) (q := 4) rfl d4_giveBoat_5 ?_
  refine ev_iconst ci_5 d4_giveBoat_7 ?_
  obtain ⟨h5, hf⟩ := gd_some hf
  obtain ⟨r6, t7, k8, hf⟩ := bd_some hf
  have q9 := s1_latestOr _ _ _ _ _ _ _ k8
  refine ev_callV (vs := [.int v3, .int v4, .int (5 : Int32)]) (sk := []) cls1 h5 q9 (by decide) (Nat.le_of_ble_eq_true rfl) w864 w682 w683 w7 w684 k1_latestOr rfl (Nat.le_of_ble_eq_true rfl) d4_giveBoat_8 ?_
  refine ev_istore (lv2 := [(5, .int r6), (0, .ref v0), (1, .int v1), (2, .int v2), (3, .int v3), (4, .int v4)]) (i := 5) (by decide) rfl d4_giveBoat_11 ?_
  refine ev_aload_n (j := 0) (i := 0) (q := 1) rfl rfl d4_giveBoat_13 ?_
  obtain ⟨b10, e11, hf⟩ := lt_some hf
  obtain ⟨h12, hf⟩ := gd_some hf
  refine ev_getRb cls4 (j := 0) (by decide) rfl w314 (mono_ob q9.1 h1) e11 (nz_ne h12) d4_giveBoat_14 ?_
  obtain ⟨h13, hf⟩ := gd_some hf
  obtain ⟨b14, e15, hf⟩ := lt_some hf
  obtain ⟨h16, hf⟩ := gd_some hf
  refine ev_getRNb cls8 (j := 2) (by decide) rfl w111 h13 e15 (nz_ne h16) d4_giveBoat_17 ?_
  refine ev_iload_n (j := 1) (i := 1) (q := 2) rfl rfl d4_giveBoat_20 ?_
  obtain ⟨h17, hf⟩ := gd_some hf
  obtain ⟨h18, hf⟩ := gd_some hf
  obtain ⟨b19, e20, hf⟩ := lt_some hf
  obtain ⟨h21, hf⟩ := gd_some hf
  refine ev_qaldb (kd := 17) (by decide) (by decide) rfl h17 h18 e20 (nz_ne h21) d4_giveBoat_21 ?_
  refine ev_astore (lv2 := [(6, .ref b19), (5, .int r6), (0, .ref v0), (1, .int v1), (2, .int v2), (3, .int v3), (4, .int v4)]) (i := 6) (by decide) rfl d4_giveBoat_22 ?_
  refine ev_aload_n (j := 0) (i := 0) (q := 2) rfl rfl d4_giveBoat_24 ?_
  obtain ⟨b22, e23, hf⟩ := lt_some hf
  obtain ⟨h24, hf⟩ := gd_some hf
  refine ev_getRb cls4 (j := 6) (by decide) rfl w325 (mono_ob q9.1 h1) e23 (nz_ne h24) d4_giveBoat_25 ?_
  refine ev_iconst ci_0 d4_giveBoat_28 ?_
  refine ev_iload_n (j := 2) (i := 2) (q := 4) rfl rfl d4_giveBoat_29 ?_
  obtain ⟨r25, t26, k27, hf⟩ := bd_some hf
  have q28 := s11_laneOf _ _ _ _ k27
  refine ev_callSN (vs := [.int v2]) (sk := [.int (0 : Int32), .ref b22]) q28 (by decide) (Nat.le_of_ble_eq_true rfl) w865 w607 w1 w608 k11_laneOf rfl (Nat.le_of_ble_eq_true rfl) d4_giveBoat_30 ?_
  obtain ⟨h29, hf⟩ := gd_some hf
  obtain ⟨h30, hf⟩ := gd_some hf
  obtain ⟨t31, e32, hf⟩ := lt_some hf
  refine ev_iast h29 h30 d4_giveBoat_33 (ev_nmS e32 ?_)
  refine ev_aload_n (j := 0) (i := 0) (q := 2) rfl rfl d4_giveBoat_34 ?_
  obtain ⟨b33, e34, hf⟩ := lt_some hf
  obtain ⟨h35, hf⟩ := gd_some hf
  refine ev_getRb cls4 (j := 6) (by decide) rfl w325 (mono_ob (mono_eI e32) (mono_ob q28.1 (mono_ob q9.1 h1))) e34 (nz_ne h35) d4_giveBoat_35 ?_
  refine ev_iconst ci_1 d4_giveBoat_38 ?_
  refine ev_iload_n (j := 2) (i := 2) (q := 4) rfl rfl d4_giveBoat_39 ?_
  obtain ⟨r36, t37, k38, hf⟩ := bd_some hf
  have q39 := s11_stretchOf _ _ _ _ k38
  refine ev_callSN (vs := [.int v2]) (sk := [.int (1 : Int32), .ref b33]) q39 (by decide) (Nat.le_of_ble_eq_true rfl) w866 w867 w1 w868 k11_stretchOf rfl (Nat.le_of_ble_eq_true rfl) d4_giveBoat_40 ?_
  obtain ⟨h40, hf⟩ := gd_some hf
  obtain ⟨h41, hf⟩ := gd_some hf
  obtain ⟨t42, e43, hf⟩ := lt_some hf
  refine ev_iast h40 h41 d4_giveBoat_43 (ev_nmS e43 ?_)
  refine ev_aload_n (j := 0) (i := 0) (q := 2) rfl rfl d4_giveBoat_44 ?_
  obtain ⟨b44, e45, hf⟩ := lt_some hf
  obtain ⟨h46, hf⟩ := gd_some hf
  refine ev_getRb cls4 (j := 6) (by decide) rfl w325 (mono_ob (mono_eI e43) (mono_ob q39.1 (mono_ob (mono_eI e32) (mono_ob q28.1 (mono_ob q9.1 h1))))) e45 (nz_ne h46) d4_giveBoat_45 ?_
  refine ev_iconst ci_2 d4_giveBoat_48 ?_
  refine ev_iload (i := 5) (q := 1) rfl d4_giveBoat_49 ?_
  obtain ⟨h47, hf⟩ := gd_some hf
  obtain ⟨h48, hf⟩ := gd_some hf
  obtain ⟨t49, e50, hf⟩ := lt_some hf
  refine ev_iast h47 h48 d4_giveBoat_51 (ev_nmS e50 ?_)
  refine ev_aload_n (j := 0) (i := 0) (q := 2) rfl rfl d4_giveBoat_52 ?_
  refine ev_getRb cls4 (j := 6) (by decide) rfl w325 (mono_ob (mono_eI e50) (mono_ob (mono_eI e43) (mono_ob q39.1 (mono_ob (mono_eI e32) (mono_ob q28.1 (mono_ob q9.1 h1)))))) (tr_I e50 e45) (nz_ne h46) d4_giveBoat_53 ?_
  refine ev_iconst ci_3 d4_giveBoat_56 ?_
  refine ev_aload_n (j := 0) (i := 0) (q := 2) rfl rfl d4_giveBoat_57 ?_
  obtain ⟨b51, e52, hf⟩ := lt_some hf
  obtain ⟨h53, hf⟩ := gd_some hf
  refine ev_getRb cls4 (j := 0) (by decide) rfl w314 (mono_ob (mono_eI e50) (mono_ob (mono_eI e43) (mono_ob q39.1 (mono_ob (mono_eI e32) (mono_ob q28.1 (mono_ob q9.1 h1)))))) e52 (nz_ne h53) d4_giveBoat_58 ?_
  refine ev_iload_n (j := 2) (i := 2) (q := 4) rfl rfl d4_giveBoat_61 ?_
  refine ev_iload (i := 5) (q := 1) rfl d4_giveBoat_62 ?_
  obtain ⟨h54, hf⟩ := gd_some hf
  obtain ⟨r55, t56, k57, hf⟩ := bd_some hf
  have q58 := s8_depth _ _ _ _ _ _ k57
  refine ev_callV (vs := [.int v2, .int r6]) (sk := [.int (3 : Int32), .ref b44]) cls8 h54 q58 (by decide) (Nat.le_of_ble_eq_true rfl) w869 w627 w628 w2 w629 k8_depth rfl (Nat.le_of_ble_eq_true rfl) d4_giveBoat_64 ?_
  obtain ⟨h59, hf⟩ := gd_some hf
  obtain ⟨t60, e61, hf⟩ := lt_some hf
  refine ev_iast (mono_ob q58.1 (mono_ob (mono_eI e50) h47)) h59 d4_giveBoat_67 (ev_nmS e61 ?_)
  refine ev_aload_n (j := 0) (i := 0) (q := 2) rfl rfl d4_giveBoat_68 ?_
  obtain ⟨b62, e63, hf⟩ := lt_some hf
  obtain ⟨h64, hf⟩ := gd_some hf
  refine ev_getRb cls4 (j := 6) (by decide) rfl w325 (mono_ob (mono_eI e61) (mono_ob q58.1 (mono_ob (mono_eI e50) (mono_ob (mono_eI e43) (mono_ob q39.1 (mono_ob (mono_eI e32) (mono_ob q28.1 (mono_ob q9.1 h1)))))))) e63 (nz_ne h64) d4_giveBoat_69 ?_
  refine ev_iconst ci_4 d4_giveBoat_72 ?_
  refine ev_iload_n (j := 3) (i := 3) (q := 5) rfl rfl d4_giveBoat_73 ?_
  obtain ⟨h65, hf⟩ := gd_some hf
  obtain ⟨h66, hf⟩ := gd_some hf
  obtain ⟨t67, e68, hf⟩ := lt_some hf
  refine ev_iast h65 h66 d4_giveBoat_74 (ev_nmS e68 ?_)
  refine ev_aload_n (j := 0) (i := 0) (q := 2) rfl rfl d4_giveBoat_75 ?_
  refine ev_getRb cls4 (j := 6) (by decide) rfl w325 (mono_ob (mono_eI e68) (mono_ob (mono_eI e61) (mono_ob q58.1 (mono_ob (mono_eI e50) (mono_ob (mono_eI e43) (mono_ob q39.1 (mono_ob (mono_eI e32) (mono_ob q28.1 (mono_ob q9.1 h1))))))))) (tr_I e68 e63) (nz_ne h64) d4_giveBoat_76 ?_
  refine ev_iconst ci_5 d4_giveBoat_79 ?_
  refine ev_iload_n (j := 1) (i := 1) (q := 3) rfl rfl d4_giveBoat_80 ?_
  obtain ⟨h69, hf⟩ := gd_some hf
  obtain ⟨t70, e71, hf⟩ := lt_some hf
  refine ev_iast (mono_ob (mono_eI e68) h65) h69 d4_giveBoat_81 (ev_nmS e71 ?_)
  refine ev_aload_n (j := 0) (i := 0) (q := 2) rfl rfl d4_giveBoat_82 ?_
  refine ev_getRb cls4 (j := 6) (by decide) rfl w325 (mono_ob (mono_eI e71) (mono_ob (mono_eI e68) (mono_ob (mono_eI e61) (mono_ob q58.1 (mono_ob (mono_eI e50) (mono_ob (mono_eI e43) (mono_ob q39.1 (mono_ob (mono_eI e32) (mono_ob q28.1 (mono_ob q9.1 h1)))))))))) (tr_I e71 (tr_I e68 e63)) (nz_ne h64) d4_giveBoat_83 ?_
  refine ev_bipush cb_6 d4_giveBoat_86 ?_
  refine ev_aload (i := 6) (q := 0) rfl d4_giveBoat_88 ?_
  obtain ⟨h72, hf⟩ := gd_some hf
  refine ev_getIN cls0 (j := 0) (by decide) rfl w66 h72 d4_giveBoat_90 ?_
  obtain ⟨h73, hf⟩ := gd_some hf
  obtain ⟨t74, e75, hf⟩ := lt_some hf
  refine ev_iast (mono_ob (mono_eI e71) (mono_ob (mono_eI e68) h65)) h73 d4_giveBoat_93 (ev_nmS e75 ?_)
  refine ev_aload_n (j := 0) (i := 0) (q := 2) rfl rfl d4_giveBoat_94 ?_
  refine ev_getRb cls4 (j := 6) (by decide) rfl w325 (mono_ob (mono_eI e75) (mono_ob (mono_eI e71) (mono_ob (mono_eI e68) (mono_ob (mono_eI e61) (mono_ob q58.1 (mono_ob (mono_eI e50) (mono_ob (mono_eI e43) (mono_ob q39.1 (mono_ob (mono_eI e32) (mono_ob q28.1 (mono_ob q9.1 h1))))))))))) (tr_I e75 (tr_I e71 (tr_I e68 e63))) (nz_ne h64) d4_giveBoat_95 ?_
  refine ev_bipush cb_7 d4_giveBoat_98 ?_
  refine ev_aload (i := 6) (q := 0) rfl d4_giveBoat_100 ?_
  refine ev_getIN cls0 (j := 1) (by decide) rfl w69 (mono_ob (mono_eI e75) h72) d4_giveBoat_102 ?_
  obtain ⟨h76, hf⟩ := gd_some hf
  obtain ⟨t77, e78, hf⟩ := lt_some hf
  refine ev_iast (mono_ob (mono_eI e75) (mono_ob (mono_eI e71) (mono_ob (mono_eI e68) h65))) h76 d4_giveBoat_105 (ev_nmS e78 ?_)
  refine ev_aload_n (j := 0) (i := 0) (q := 2) rfl rfl d4_giveBoat_106 ?_
  refine ev_getRb cls4 (j := 6) (by decide) rfl w325 (mono_ob (mono_eI e78) (mono_ob (mono_eI e75) (mono_ob (mono_eI e71) (mono_ob (mono_eI e68) (mono_ob (mono_eI e61) (mono_ob q58.1 (mono_ob (mono_eI e50) (mono_ob (mono_eI e43) (mono_ob q39.1 (mono_ob (mono_eI e32) (mono_ob q28.1 (mono_ob q9.1 h1)))))))))))) (tr_I e78 (tr_I e75 (tr_I e71 (tr_I e68 e63)))) (nz_ne h64) d4_giveBoat_107 ?_
  refine ev_bipush cb_8 d4_giveBoat_110 ?_
  refine ev_iconst ci_0 d4_giveBoat_112 ?_
  obtain ⟨h79, hf⟩ := gd_some hf
  obtain ⟨t80, e81, hf⟩ := lt_some hf
  refine ev_iast (mono_ob (mono_eI e78) (mono_ob (mono_eI e75) (mono_ob (mono_eI e71) (mono_ob (mono_eI e68) h65)))) h79 d4_giveBoat_113 (ev_nmS e81 ?_)
  obtain ⟨-, rfl⟩ := ret_some hf
  exact ev_vret rfl d4_giveBoat_114
abbrev m4_inForce : MD := ("MillBoats$Law", ⟨"MillBoats$Law", "inForce", "(III)LMillBoats$Text;"⟩, prog_6_method_5_code, 5, (some (Jvm.ClassFile.FieldType.object "MillBoats$Text")))
theorem k4_inForce : okY m4_inForce.2.1 3 := ⟨by decide +kernel, by decide +kernel, by decide +kernel⟩
def f4_inForce (σ : St) (v0 : Nat) (v1 : Int32) (v2 : Int32) (v3 : Int32) : Option (Nat × St) :=
  gd (ob σ v0 4) (
  lt (sR σ v0 3) fun b2 => (
  gd (nz b2) (
  gd (ob σ b2 18) (
  gd (inb σ b2 v1) (
  lt (sR σ b2 (ix v1)) fun b7 => (
  gd (nz b7) (
  gd (ob σ b7 1) (
  bd (f1_latestOr σ b7 v2 v3 (-1 : Int32)) fun r11 t12 => (
  (if r11 < (0 : Int32) then
  some (0, t12)
  else
  lt (sR t12 v0 4) fun b16 => (
  gd (nz b16) (
  gd (ob t12 b16 20) (
  (if r11 < (Int32.ofNat (sK t12 b16).2) then
  gd (inb t12 b16 r11) (
  lt (sR t12 b16 (ix r11)) fun b22 => (
  (if b22 = 0 then
  some (0, t12)
  else
  some (b22, t12))))
  else
  some (0, t12)))))))))))))))
set_option maxRecDepth 50000 in
theorem s4_inForce : ∀ (σ : St) (v0 : Nat) (v1 : Int32) (v2 : Int32) (v3 : Int32) (r : Nat) (τ : St), f4_inForce σ v0 v1 v2 v3 = some (r, τ) → Call 4 m4_inForce [.ref v0, .int v1, .int v2, .int v3] σ (some (nv r)) τ := by
  intro σ v0 v1 v2 v3 r τ hf
  unfold f4_inForce at hf
  refine Call.of (by decide +kernel) rfl (Nat.le_of_ble_eq_true rfl) ?_
  refine ev_aload_n (j := 0) (i := 0) (q := 0) rfl rfl d4_inForce_0 ?_
  obtain ⟨h1, hf⟩ := gd_some hf
  obtain ⟨b2, e3, hf⟩ := lt_some hf
  obtain ⟨h4, hf⟩ := gd_some hf
  refine ev_getRb cls4 (j := 3) (by decide) rfl w321 h1 e3 (nz_ne h4) d4_inForce_1 ?_
  refine ev_iload_n (j := 1) (i := 1) (q := 1) rfl rfl d4_inForce_4 ?_
  obtain ⟨h5, hf⟩ := gd_some hf
  obtain ⟨h6, hf⟩ := gd_some hf
  obtain ⟨b7, e8, hf⟩ := lt_some hf
  obtain ⟨h9, hf⟩ := gd_some hf
  refine ev_qaldb (kd := 18) (by decide) (by decide) rfl h5 h6 e8 (nz_ne h9) d4_inForce_5 ?_
  refine ev_iload_n (j := 2) (i := 2) (q := 2) rfl rfl d4_inForce_6 ?_
  refine ev_iload_n (j := 3) (i := 3) (q := 3) rfl rfl d4_inForce_7 ?_
  refine ev_iconst ci_m1 d4_inForce_8 ?_
  obtain ⟨h10, hf⟩ := gd_some hf
  obtain ⟨r11, t12, k13, hf⟩ := bd_some hf
  have q14 := s1_latestOr _ _ _ _ _ _ _ k13
  refine ev_callV (vs := [.int v2, .int v3, .int (-1 : Int32)]) (sk := []) cls1 h10 q14 (by decide) (Nat.le_of_ble_eq_true rfl) w864 w682 w683 w7 w684 k1_latestOr rfl (Nat.le_of_ble_eq_true rfl) d4_inForce_9 ?_
  refine ev_istore (lv2 := [(4, .int r11), (0, .ref v0), (1, .int v1), (2, .int v2), (3, .int v3)]) (i := 4) (by decide) rfl d4_inForce_12 ?_
  refine ev_iload (i := 4) (q := 0) rfl d4_inForce_14 ?_
  rcases ite_some hf with ⟨c15, hf⟩ | ⟨c15, hf⟩
  · refine ev_if_lt_P (tgt := 29) c15 (by decide) d4_inForce_16 ?_
    refine ev_null d4_inForce_29 ?_
    refine ev_goto (tgt := 40) (by decide) d4_inForce_30 ?_
    obtain ⟨rfl, rfl⟩ := ret_some hf
    rw [nv_0 rfl]
    exact ev_aretN rfl (Or.inl ⟨_, rfl⟩) d4_inForce_40
  · refine ev_if_lt_Q (tgt := 29) c15 (by decide) d4_inForce_16 ?_
    refine ev_iload (i := 4) (q := 0) rfl d4_inForce_19 ?_
    refine ev_aload_n (j := 0) (i := 0) (q := 1) rfl rfl d4_inForce_21 ?_
    obtain ⟨b16, e17, hf⟩ := lt_some hf
    obtain ⟨h18, hf⟩ := gd_some hf
    refine ev_getRb cls4 (j := 4) (by decide) rfl w322 (mono_ob q14.1 h1) e17 (nz_ne h18) d4_inForce_22 ?_
    obtain ⟨h19, hf⟩ := gd_some hf
    refine ev_alen (kd := 20) (by decide) (by decide) h19 d4_inForce_25 ?_
    rcases ite_some hf with ⟨c20, hf⟩ | ⟨c20, hf⟩
    · refine ev_icmp_lt_P (tgt := 33) c20 (by decide) d4_inForce_26 ?_
      refine ev_aload_n (j := 0) (i := 0) (q := 1) rfl rfl d4_inForce_33 ?_
      refine ev_getRb cls4 (j := 4) (by decide) rfl w322 (mono_ob q14.1 h1) e17 (nz_ne h18) d4_inForce_34 ?_
      refine ev_iload (i := 4) (q := 0) rfl d4_inForce_37 ?_
      obtain ⟨h21, hf⟩ := gd_some hf
      obtain ⟨b22, e23, hf⟩ := lt_some hf
      rcases ite_some hf with ⟨c24, hf⟩ | ⟨c24, hf⟩
      · refine ev_qaldbN (kd := 20) (by decide) (by decide) rfl h19 h21 e23 c24 d4_inForce_39 ?_
        obtain ⟨rfl, rfl⟩ := ret_some hf
        rw [nv_0 rfl]
        exact ev_aretN rfl (Or.inl ⟨_, rfl⟩) d4_inForce_40
      · refine ev_qaldb (kd := 20) (by decide) (by decide) rfl h19 h21 e23 c24 d4_inForce_39 ?_
        obtain ⟨rfl, rfl⟩ := ret_some hf
        rw [nv_1 c24]
        exact ev_aret rfl (Or.inl ⟨_, rfl⟩) d4_inForce_40
    · refine ev_icmp_lt_Q (tgt := 33) c20 (by decide) d4_inForce_26 ?_
      refine ev_null d4_inForce_29 ?_
      refine ev_goto (tgt := 40) (by decide) d4_inForce_30 ?_
      obtain ⟨rfl, rfl⟩ := ret_some hf
      rw [nv_0 rfl]
      exact ev_aretN rfl (Or.inl ⟨_, rfl⟩) d4_inForce_40
abbrev m4_joined : MD := ("MillBoats$Law", ⟨"MillBoats$Law", "joined", "(III)I"⟩, prog_6_method_16_code, 5, (some Jvm.ClassFile.FieldType.int))
theorem k4_joined : okY m4_joined.2.1 3 := ⟨by decide +kernel, by decide +kernel, by decide +kernel⟩
def f4_joined_p116 (σ : St) (v3 : Int64) : Option (Int32 × St) :=
  (if (lg_cmp v3 (1000000000 : Int64)) ≤ (0 : Int32) then
  (if (lg_cmp v3 (-1000000000 : Int64)) < (0 : Int32) then
  some ((-1000000000 : Int32), σ)
  else
  some (v3.toInt32, σ))
  else
  some ((1000000000 : Int32), σ))
set_option maxRecDepth 20000 in
theorem s4_joined_p116 : ∀ (σ : St) (v3 : Int64) (r : Int32) (τ : St), f4_joined_p116 σ v3 = some (r, τ) → Ev 2 m4_joined 116 [(3, .long v3)] [] σ (some (.int r)) τ := by
  intro σ v3 r τ hf
  unfold f4_joined_p116 at hf
  refine ev_lload_n (j := 3) (i := 3) (q := 0) rfl rfl d4_joined_116 ?_
  refine ev_ldc2 w894 d4_joined_117 ?_
  refine ev_lcmp d4_joined_120 ?_
  rcases ite_some hf with ⟨c18, hf⟩ | ⟨c18, hf⟩
  · refine ev_if_le_P (tgt := 129) c18 (by decide) d4_joined_121 ?_
    refine ev_lload_n (j := 3) (i := 3) (q := 0) rfl rfl d4_joined_129 ?_
    refine ev_ldc2 w896 d4_joined_130 ?_
    refine ev_lcmp d4_joined_133 ?_
    rcases ite_some hf with ⟨c19, hf⟩ | ⟨c19, hf⟩
    · refine ev_if_ge_P (tgt := 142) c19 (by decide) d4_joined_134 ?_
      refine ev_ldc w897 d4_joined_137 ?_
      refine ev_goto (tgt := 144) (by decide) d4_joined_139 ?_
      obtain ⟨rfl, rfl⟩ := ret_some hf
      exact ev_iret rfl d4_joined_144
    · refine ev_if_ge_Q (tgt := 142) c19 (by decide) d4_joined_134 ?_
      refine ev_lload_n (j := 3) (i := 3) (q := 0) rfl rfl d4_joined_142 ?_
      refine ev_l2i d4_joined_143 ?_
      obtain ⟨rfl, rfl⟩ := ret_some hf
      exact ev_iret rfl d4_joined_144
  · refine ev_if_le_Q (tgt := 129) c18 (by decide) d4_joined_121 ?_
    refine ev_ldc w895 d4_joined_124 ?_
    refine ev_goto (tgt := 144) (by decide) d4_joined_126 ?_
    obtain ⟨rfl, rfl⟩ := ret_some hf
    exact ev_iret rfl d4_joined_144
def f4_joined (σ : St) (v0 : Int32) (v1 : Int32) (v2 : Int32) : Option (Int32 × St) :=
  (if v0 = (-8 : Int32) then
  some (v1 &&& v2, σ)
  else
  (if v0 = (-7 : Int32) then
  some (v1 ||| v2, σ)
  else
  (if v0 = (-6 : Int32) then
  (if v1 = v2 then
  some ((1 : Int32), σ)
  else
  some ((0 : Int32), σ))
  else
  (if v0 = (-5 : Int32) then
  (if v1 ≤ v2 then
  some ((0 : Int32), σ)
  else
  some ((1 : Int32), σ))
  else
  (if v0 = (-4 : Int32) then
  (if v1 < v2 then
  some ((1 : Int32), σ)
  else
  some ((0 : Int32), σ))
  else
  (if v0 = (-3 : Int32) then
  lt ((v1.toInt64) * (v2.toInt64)) fun y10 => (
  f4_joined_p116 σ y10)
  else
  (if v0 = (-2 : Int32) then
  lt ((v1.toInt64) - (v2.toInt64)) fun y13 => (
  f4_joined_p116 σ y13)
  else
  (if v0 = (-1 : Int32) then
  lt ((v1.toInt64) + (v2.toInt64)) fun y16 => (
  f4_joined_p116 σ y16)
  else
  some (v1 ||| v2, σ)))))))))
set_option maxRecDepth 50000 in
theorem s4_joined : ∀ (σ : St) (v0 : Int32) (v1 : Int32) (v2 : Int32) (r : Int32) (τ : St), f4_joined σ v0 v1 v2 = some (r, τ) → Call 2 m4_joined [.int v0, .int v1, .int v2] σ (some (.int r)) τ := by
  intro σ v0 v1 v2 r τ hf
  unfold f4_joined at hf
  refine Call.of (by decide +kernel) rfl (Nat.le_of_ble_eq_true rfl) ?_
  refine ev_iload_n (j := 0) (i := 0) (q := 0) rfl rfl d4_joined_0 ?_
  rcases ite_some hf with ⟨c1, hf⟩ | ⟨c1, hf⟩
  · refine ev_table_in (off := 107) (tgt := 108) d4_joined_1 (by rw [c1]; decide) (by rw [c1]; decide) (by rw [c1]; decide) (by decide) ?_
    refine ev_iload_n (j := 1) (i := 1) (q := 1) rfl rfl d4_joined_108 ?_
    refine ev_iload_n (j := 2) (i := 2) (q := 2) rfl rfl d4_joined_109 ?_
    refine ev_iand d4_joined_110 ?_
    obtain ⟨rfl, rfl⟩ := ret_some hf
    exact ev_iret rfl d4_joined_111
  rcases ite_some hf with ⟨c2, hf⟩ | ⟨c2, hf⟩
  · refine ev_table_in (off := 111) (tgt := 112) d4_joined_1 (by rw [c2]; decide) (by rw [c2]; decide) (by rw [c2]; decide) (by decide) ?_
    refine ev_iload_n (j := 1) (i := 1) (q := 1) rfl rfl d4_joined_112 ?_
    refine ev_iload_n (j := 2) (i := 2) (q := 2) rfl rfl d4_joined_113 ?_
    refine ev_ior d4_joined_114 ?_
    obtain ⟨rfl, rfl⟩ := ret_some hf
    exact ev_iret rfl d4_joined_115
  rcases ite_some hf with ⟨c3, hf⟩ | ⟨c3, hf⟩
  · refine ev_table_in (off := 96) (tgt := 97) d4_joined_1 (by rw [c3]; decide) (by rw [c3]; decide) (by rw [c3]; decide) (by decide) ?_
    refine ev_iload_n (j := 1) (i := 1) (q := 1) rfl rfl d4_joined_97 ?_
    refine ev_iload_n (j := 2) (i := 2) (q := 2) rfl rfl d4_joined_98 ?_
    rcases ite_some hf with ⟨c4, hf⟩ | ⟨c4, hf⟩
    · refine ev_icmp_ne_P (tgt := 106) c4 (by decide) d4_joined_99 ?_
      refine ev_iconst ci_1 d4_joined_102 ?_
      refine ev_goto (tgt := 107) (by decide) d4_joined_103 ?_
      obtain ⟨rfl, rfl⟩ := ret_some hf
      exact ev_iret rfl d4_joined_107
    · refine ev_icmp_ne_Q (tgt := 106) c4 (by decide) d4_joined_99 ?_
      refine ev_iconst ci_0 d4_joined_106 ?_
      obtain ⟨rfl, rfl⟩ := ret_some hf
      exact ev_iret rfl d4_joined_107
  rcases ite_some hf with ⟨c5, hf⟩ | ⟨c5, hf⟩
  · refine ev_table_in (off := 85) (tgt := 86) d4_joined_1 (by rw [c5]; decide) (by rw [c5]; decide) (by rw [c5]; decide) (by decide) ?_
    refine ev_iload_n (j := 1) (i := 1) (q := 1) rfl rfl d4_joined_86 ?_
    refine ev_iload_n (j := 2) (i := 2) (q := 2) rfl rfl d4_joined_87 ?_
    rcases ite_some hf with ⟨c6, hf⟩ | ⟨c6, hf⟩
    · refine ev_icmp_le_P (tgt := 95) c6 (by decide) d4_joined_88 ?_
      refine ev_iconst ci_0 d4_joined_95 ?_
      obtain ⟨rfl, rfl⟩ := ret_some hf
      exact ev_iret rfl d4_joined_96
    · refine ev_icmp_le_Q (tgt := 95) c6 (by decide) d4_joined_88 ?_
      refine ev_iconst ci_1 d4_joined_91 ?_
      refine ev_goto (tgt := 96) (by decide) d4_joined_92 ?_
      obtain ⟨rfl, rfl⟩ := ret_some hf
      exact ev_iret rfl d4_joined_96
  rcases ite_some hf with ⟨c7, hf⟩ | ⟨c7, hf⟩
  · refine ev_table_in (off := 74) (tgt := 75) d4_joined_1 (by rw [c7]; decide) (by rw [c7]; decide) (by rw [c7]; decide) (by decide) ?_
    refine ev_iload_n (j := 1) (i := 1) (q := 1) rfl rfl d4_joined_75 ?_
    refine ev_iload_n (j := 2) (i := 2) (q := 2) rfl rfl d4_joined_76 ?_
    rcases ite_some hf with ⟨c8, hf⟩ | ⟨c8, hf⟩
    · refine ev_icmp_ge_P (tgt := 84) c8 (by decide) d4_joined_77 ?_
      refine ev_iconst ci_1 d4_joined_80 ?_
      refine ev_goto (tgt := 85) (by decide) d4_joined_81 ?_
      obtain ⟨rfl, rfl⟩ := ret_some hf
      exact ev_iret rfl d4_joined_85
    · refine ev_icmp_ge_Q (tgt := 84) c8 (by decide) d4_joined_77 ?_
      refine ev_iconst ci_0 d4_joined_84 ?_
      obtain ⟨rfl, rfl⟩ := ret_some hf
      exact ev_iret rfl d4_joined_85
  rcases ite_some hf with ⟨c9, hf⟩ | ⟨c9, hf⟩
  · refine ev_table_in (off := 65) (tgt := 66) d4_joined_1 (by rw [c9]; decide) (by rw [c9]; decide) (by rw [c9]; decide) (by decide) ?_
    refine ev_iload_n (j := 1) (i := 1) (q := 1) rfl rfl d4_joined_66 ?_
    refine ev_i2l d4_joined_67 ?_
    refine ev_iload_n (j := 2) (i := 2) (q := 2) rfl rfl d4_joined_68 ?_
    refine ev_i2l d4_joined_69 ?_
    refine ev_lmul d4_joined_70 ?_
    obtain ⟨y10, e11, hf⟩ := lt_some hf
    refine ev_nmL e11 ?_
    refine ev_lstore_n (lv2 := [(3, .long y10), (0, .int v0), (1, .int v1), (2, .int v2)]) (j := 3) (i := 3) rfl (by decide) rfl d4_joined_71 ?_
    refine ev_goto (tgt := 116) (by decide) d4_joined_72 ?_
    exact Ev.sub [0] rfl (s4_joined_p116 _ _ _ _ hf)
  rcases ite_some hf with ⟨c12, hf⟩ | ⟨c12, hf⟩
  · refine ev_table_in (off := 56) (tgt := 57) d4_joined_1 (by rw [c12]; decide) (by rw [c12]; decide) (by rw [c12]; decide) (by decide) ?_
    refine ev_iload_n (j := 1) (i := 1) (q := 1) rfl rfl d4_joined_57 ?_
    refine ev_i2l d4_joined_58 ?_
    refine ev_iload_n (j := 2) (i := 2) (q := 2) rfl rfl d4_joined_59 ?_
    refine ev_i2l d4_joined_60 ?_
    refine ev_lsub d4_joined_61 ?_
    obtain ⟨y13, e14, hf⟩ := lt_some hf
    refine ev_nmL e14 ?_
    refine ev_lstore_n (lv2 := [(3, .long y13), (0, .int v0), (1, .int v1), (2, .int v2)]) (j := 3) (i := 3) rfl (by decide) rfl d4_joined_62 ?_
    refine ev_goto (tgt := 116) (by decide) d4_joined_63 ?_
    exact Ev.sub [0] rfl (s4_joined_p116 _ _ _ _ hf)
  rcases ite_some hf with ⟨c15, hf⟩ | ⟨c15, hf⟩
  · refine ev_table_in (off := 47) (tgt := 48) d4_joined_1 (by rw [c15]; decide) (by rw [c15]; decide) (by rw [c15]; decide) (by decide) ?_
    refine ev_iload_n (j := 1) (i := 1) (q := 1) rfl rfl d4_joined_48 ?_
    refine ev_i2l d4_joined_49 ?_
    refine ev_iload_n (j := 2) (i := 2) (q := 2) rfl rfl d4_joined_50 ?_
    refine ev_i2l d4_joined_51 ?_
    refine ev_ladd d4_joined_52 ?_
    obtain ⟨y16, e17, hf⟩ := lt_some hf
    refine ev_nmL e17 ?_
    refine ev_lstore_n (lv2 := [(3, .long y16), (0, .int v0), (1, .int v1), (2, .int v2)]) (j := 3) (i := 3) rfl (by decide) rfl d4_joined_53 ?_
    refine ev_goto (tgt := 116) (by decide) d4_joined_54 ?_
    exact Ev.sub [0] rfl (s4_joined_p116 _ _ _ _ hf)
  refine ev_table_out (tgt := 112) d4_joined_1 (by have nc1 : v0.toInt ≠ -8 := neI c1; have nc2 : v0.toInt ≠ -7 := neI c2; have nc3 : v0.toInt ≠ -6 := neI c3; have nc5 : v0.toInt ≠ -5 := neI c5; have nc7 : v0.toInt ≠ -4 := neI c7; have nc9 : v0.toInt ≠ -3 := neI c9; have nc12 : v0.toInt ≠ -2 := neI c12; have nc15 : v0.toInt ≠ -1 := neI c15; omega) (by decide) ?_
  refine ev_iload_n (j := 1) (i := 1) (q := 1) rfl rfl d4_joined_112 ?_
  refine ev_iload_n (j := 2) (i := 2) (q := 2) rfl rfl d4_joined_113 ?_
  refine ev_ior d4_joined_114 ?_
  obtain ⟨rfl, rfl⟩ := ret_some hf
  exact ev_iret rfl d4_joined_115
abbrev m4_named : MD := ("MillBoats$Law", ⟨"MillBoats$Law", "named", "(I)I"⟩, prog_6_method_15_code, 2, (some Jvm.ClassFile.FieldType.int))
theorem k4_named : okY m4_named.2.1 1 := ⟨by decide +kernel, by decide +kernel, by decide +kernel⟩
def f4_named (σ : St) (v0 : Nat) (v1 : Int32) : Option (Int32 × St) :=
  (if v1 < (0 : Int32) then
  some ((0 : Int32), σ)
  else
  gd (ob σ v0 4) (
  lt (sR σ v0 6) fun b3 => (
  gd (nz b3) (
  gd (ob σ b3 14) (
  (if v1 < (Int32.ofNat (sK σ b3).2) then
  gd (inb σ b3 v1) (
  some (sI σ b3 (ix v1), σ))
  else
  some ((0 : Int32), σ)))))))
set_option maxRecDepth 50000 in
theorem s4_named : ∀ (σ : St) (v0 : Nat) (v1 : Int32) (r : Int32) (τ : St), f4_named σ v0 v1 = some (r, τ) → Call 2 m4_named [.ref v0, .int v1] σ (some (.int r)) τ := by
  intro σ v0 v1 r τ hf
  unfold f4_named at hf
  refine Call.of (by decide +kernel) rfl (Nat.le_of_ble_eq_true rfl) ?_
  refine ev_iload_n (j := 1) (i := 1) (q := 1) rfl rfl d4_named_0 ?_
  rcases ite_some hf with ⟨c1, hf⟩ | ⟨c1, hf⟩
  · refine ev_if_lt_P (tgt := 22) c1 (by decide) d4_named_1 ?_
    refine ev_iconst ci_0 d4_named_22 ?_
    obtain ⟨rfl, rfl⟩ := ret_some hf
    exact ev_iret rfl d4_named_23
  · refine ev_if_lt_Q (tgt := 22) c1 (by decide) d4_named_1 ?_
    refine ev_iload_n (j := 1) (i := 1) (q := 1) rfl rfl d4_named_4 ?_
    refine ev_aload_n (j := 0) (i := 0) (q := 0) rfl rfl d4_named_5 ?_
    obtain ⟨h2, hf⟩ := gd_some hf
    obtain ⟨b3, e4, hf⟩ := lt_some hf
    obtain ⟨h5, hf⟩ := gd_some hf
    refine ev_getRb cls4 (j := 6) (by decide) rfl w325 h2 e4 (nz_ne h5) d4_named_6 ?_
    obtain ⟨h6, hf⟩ := gd_some hf
    refine ev_alen (kd := 14) (by decide) (by decide) h6 d4_named_9 ?_
    rcases ite_some hf with ⟨c7, hf⟩ | ⟨c7, hf⟩
    · refine ev_icmp_ge_P (tgt := 22) c7 (by decide) d4_named_10 ?_
      refine ev_aload_n (j := 0) (i := 0) (q := 0) rfl rfl d4_named_13 ?_
      refine ev_getRb cls4 (j := 6) (by decide) rfl w325 h2 e4 (nz_ne h5) d4_named_14 ?_
      refine ev_iload_n (j := 1) (i := 1) (q := 1) rfl rfl d4_named_17 ?_
      obtain ⟨h8, hf⟩ := gd_some hf
      refine ev_iald h6 h8 d4_named_18 ?_
      refine ev_goto (tgt := 23) (by decide) d4_named_19 ?_
      obtain ⟨rfl, rfl⟩ := ret_some hf
      exact ev_iret rfl d4_named_23
    · refine ev_icmp_ge_Q (tgt := 22) c7 (by decide) d4_named_10 ?_
      refine ev_iconst ci_0 d4_named_22 ?_
      obtain ⟨rfl, rfl⟩ := ret_some hf
      exact ev_iret rfl d4_named_23
abbrev m4_workOut : MD := ("MillBoats$Law", ⟨"MillBoats$Law", "workOut", "(LMillBoats$Text;I)I"⟩, prog_6_method_14_code, 8, (some Jvm.ClassFile.FieldType.int))
theorem k4_workOut : okY m4_workOut.2.1 2 := ⟨by decide +kernel, by decide +kernel, by decide +kernel⟩
def f4_workOut_p175 (K40 : St → Nat → Nat → Int32 → Int32 → Int32 → Option (Int32 × St)) (σ : St) (v0 : Nat) (v1 : Nat) (v3 : Int32) (v5 : Int32) (v6 : Int32) : Option (Int32 × St) :=
  lt (v6 + (1 : Int32)) fun y75 => (
  K40 σ v0 v1 v3 v5 y75)
set_option maxRecDepth 20000 in
theorem s4_workOut_p175 {K40 : St → Nat → Nat → Int32 → Int32 → Int32 → Option (Int32 × St)} (hK40 : ∀ (σ : St) (v0 : Nat) (v1 : Nat) (v3 : Int32) (v5 : Int32) (v6 : Int32) (r : Int32) (τ : St), K40 σ v0 v1 v3 v5 v6 = some (r, τ) → Ev 3 m4_workOut 40 [(0, .ref v0), (1, .ref v1), (3, .int v3), (5, .int v5), (6, .int v6)] [] σ (some (.int r)) τ) : ∀ (σ : St) (v0 : Nat) (v1 : Nat) (v3 : Int32) (v5 : Int32) (v6 : Int32) (r : Int32) (τ : St), f4_workOut_p175 K40 σ v0 v1 v3 v5 v6 = some (r, τ) → Ev 3 m4_workOut 175 [(0, .ref v0), (1, .ref v1), (3, .int v3), (5, .int v5), (6, .int v6)] [] σ (some (.int r)) τ := by
  intro σ v0 v1 v3 v5 v6 r τ hf
  unfold f4_workOut_p175 at hf
  obtain ⟨y75, e76, hf⟩ := lt_some hf
  refine ev_iinc (lv2 := [(6, .int y75), (0, .ref v0), (1, .ref v1), (3, .int v3), (5, .int v5)]) (i := 6) (q := 4) (v := y75) (n := 1) rfl (by rw [ci_1]; exact e76.symm) (by decide) rfl d4_workOut_175 ?_
  refine ev_goto (tgt := 40) (by decide) d4_workOut_178 ?_
  exact Ev.sub [1, 2, 3, 4, 0] rfl (hK40 _ _ _ _ _ _ _ _ hf)
def f4_workOut_p98 (K40 : St → Nat → Nat → Int32 → Int32 → Int32 → Option (Int32 × St)) (σ : St) (v0 : Nat) (v1 : Nat) (v3 : Int32) (v5 : Int32) (v6 : Int32) (x0 : Int32) (x1 : Int32) (x2 : Nat) : Option (Int32 × St) :=
  gd (ob σ x2 14) (
  gd (inb σ x2 x1) (
  lt (wI σ x2 (ix x1) x0) fun t79 => (
  lt (v3 + (1 : Int32)) fun y81 => (
  f4_workOut_p175 K40 t79 v0 v1 y81 v5 v6))))
set_option maxRecDepth 20000 in
theorem s4_workOut_p98 {K40 : St → Nat → Nat → Int32 → Int32 → Int32 → Option (Int32 × St)} (hK40 : ∀ (σ : St) (v0 : Nat) (v1 : Nat) (v3 : Int32) (v5 : Int32) (v6 : Int32) (r : Int32) (τ : St), K40 σ v0 v1 v3 v5 v6 = some (r, τ) → Ev 3 m4_workOut 40 [(0, .ref v0), (1, .ref v1), (3, .int v3), (5, .int v5), (6, .int v6)] [] σ (some (.int r)) τ) : ∀ (σ : St) (v0 : Nat) (v1 : Nat) (v3 : Int32) (v5 : Int32) (v6 : Int32) (x0 : Int32) (x1 : Int32) (x2 : Nat) (r : Int32) (τ : St), f4_workOut_p98 K40 σ v0 v1 v3 v5 v6 x0 x1 x2 = some (r, τ) → Ev 3 m4_workOut 98 [(0, .ref v0), (1, .ref v1), (3, .int v3), (5, .int v5), (6, .int v6)] [.int x0, .int x1, .ref x2] σ (some (.int r)) τ := by
  intro σ v0 v1 v3 v5 v6 x0 x1 x2 r τ hf
  unfold f4_workOut_p98 at hf
  obtain ⟨h77, hf⟩ := gd_some hf
  obtain ⟨h78, hf⟩ := gd_some hf
  obtain ⟨t79, e80, hf⟩ := lt_some hf
  refine ev_iast h77 h78 d4_workOut_98 (ev_nmS e80 ?_)
  obtain ⟨y81, e82, hf⟩ := lt_some hf
  refine ev_iinc (lv2 := [(3, .int y81), (0, .ref v0), (1, .ref v1), (5, .int v5), (6, .int v6)]) (i := 3) (q := 2) (v := y81) (n := 1) rfl (by rw [ci_1]; exact e82.symm) (by decide) rfl d4_workOut_99 ?_
  refine ev_goto (tgt := 175) (by decide) d4_workOut_102 ?_
  exact Ev.sub [1, 2, 0, 3, 4] rfl (s4_workOut_p175 hK40 _ _ _ _ _ _ _ _ hf)
def f4_workOut_p40 : Nat → St → Nat → Nat → Int32 → Int32 → Int32 → Option (Int32 × St)
  | 0, _, _, _, _, _, _ => none
  | n + 1, σ, v0, v1, v3, v5, v6 =>
  (if v6 < v5 then
  gd (ob σ v1 10) (
  lt (sR σ v1 0) fun b24 => (
  gd (nz b24) (
  gd (ob σ b24 14) (
  gd (inb σ b24 v6) (
  lt (sI σ b24 (ix v6)) fun y29 => (
  (if y29 < (0 : Int32) then
  (if y29 = (-7 : Int32) then
  (if v3 < (1 : Int32) then
  f4_workOut_p175 (f4_workOut_p40 n) σ v0 v1 v3 v5 v6
  else
  gd (ob σ v0 4) (
  lt (sR σ v0 7) fun b35 => (
  gd (nz b35) (
  gd (ob σ b35 14) (
  gd (inb σ b35 (v3 - (1 : Int32))) (
  lt (wI σ b35 (ix (v3 - (1 : Int32))) ((1 : Int32) - (sI σ b35 (ix (v3 - (1 : Int32)))))) fun t40 => (
  f4_workOut_p175 (f4_workOut_p40 n) t40 v0 v1 v3 v5 v6)))))))
  else
  (if v3 < (2 : Int32) then
  f4_workOut_p175 (f4_workOut_p40 n) σ v0 v1 v3 v5 v6
  else
  gd (ob σ v0 4) (
  lt (sR σ v0 7) fun b44 => (
  gd (nz b44) (
  gd (ob σ b44 14) (
  gd (inb σ b44 (v3 - (2 : Int32))) (
  gd (inb σ b44 (v3 - (1 : Int32))) (
  bd (f4_joined σ y29 (sI σ b44 (ix (v3 - (2 : Int32)))) (sI σ b44 (ix (v3 - (1 : Int32))))) fun r50 t51 => (
  lt (wI t51 b44 (ix (v3 - (2 : Int32))) r50) fun t54 => (
  lt (v3 + (-1 : Int32)) fun y56 => (
  f4_workOut_p175 (f4_workOut_p40 n) t54 v0 v1 y56 v5 v6)))))))))))
  else
  gd (ob σ v0 4) (
  lt (sR σ v0 7) fun b59 => (
  gd (nz b59) (
  gd (ob σ b59 14) (
  (if v3 < (Int32.ofNat (sK σ b59).2) then
  (if y29 < (10000 : Int32) then
  f4_workOut_p98 (f4_workOut_p40 n) σ v0 v1 v3 v5 v6 y29 v3 b59
  else
  bd (f4_named σ v0 (y29 - (10000 : Int32))) fun r65 t66 => (
  f4_workOut_p98 (f4_workOut_p40 n) t66 v0 v1 v3 v5 v6 r65 v3 b59))
  else
  f4_workOut_p175 (f4_workOut_p40 n) σ v0 v1 v3 v5 v6))))))))))))
  else
  gd (ob σ v0 4) (
  lt (sR σ v0 7) fun b70 => (
  gd (nz b70) (
  gd (ob σ b70 14) (
  gd (inb σ b70 (0 : Int32)) (
  some (sI σ b70 (ix (0 : Int32)), σ)))))))
set_option maxRecDepth 20000 in
theorem s4_workOut_p40 : ∀ (n : Nat) (σ : St) (v0 : Nat) (v1 : Nat) (v3 : Int32) (v5 : Int32) (v6 : Int32) (r : Int32) (τ : St), f4_workOut_p40 n σ v0 v1 v3 v5 v6 = some (r, τ) → Ev 3 m4_workOut 40 [(0, .ref v0), (1, .ref v1), (3, .int v3), (5, .int v5), (6, .int v6)] [] σ (some (.int r)) τ := by
  intro n
  induction n with
  | zero =>
    intro σ v0 v1 v3 v5 v6 r τ hf
    cases hf
  | succ n ih =>
    intro σ v0 v1 v3 v5 v6 r τ hf
    rw [f4_workOut_p40] at hf
    refine ev_iload (i := 6) (q := 4) rfl d4_workOut_40 ?_
    refine ev_iload (i := 5) (q := 3) rfl d4_workOut_42 ?_
    rcases ite_some hf with ⟨c22, hf⟩ | ⟨c22, hf⟩
    · refine ev_icmp_ge_P (tgt := 181) c22 (by decide) d4_workOut_44 ?_
      refine ev_aload_n (j := 1) (i := 1) (q := 1) rfl rfl d4_workOut_47 ?_
      obtain ⟨h23, hf⟩ := gd_some hf
      obtain ⟨b24, e25, hf⟩ := lt_some hf
      obtain ⟨h26, hf⟩ := gd_some hf
      refine ev_getRNb cls10 (j := 0) (by decide) rfl w185 h23 e25 (nz_ne h26) d4_workOut_48 ?_
      refine ev_iload (i := 6) (q := 4) rfl d4_workOut_51 ?_
      obtain ⟨h27, hf⟩ := gd_some hf
      obtain ⟨h28, hf⟩ := gd_some hf
      refine ev_iald h27 h28 d4_workOut_53 ?_
      obtain ⟨y29, e30, hf⟩ := lt_some hf
      refine ev_nmI e30 ?_
      refine ev_istore (lv2 := [(7, .int y29), (0, .ref v0), (1, .ref v1), (3, .int v3), (5, .int v5), (6, .int v6)]) (i := 7) (by decide) rfl d4_workOut_54 ?_
      refine ev_iload (i := 7) (q := 0) rfl d4_workOut_56 ?_
      rcases ite_some hf with ⟨c31, hf⟩ | ⟨c31, hf⟩
      · refine ev_if_lt_P (tgt := 105) c31 (by decide) d4_workOut_58 ?_
        refine ev_iload (i := 7) (q := 0) rfl d4_workOut_105 ?_
        refine ev_bipush cb_m7 d4_workOut_107 ?_
        rcases ite_some hf with ⟨c32, hf⟩ | ⟨c32, hf⟩
        · refine ev_icmp_ne_P (tgt := 138) c32 (by decide) d4_workOut_109 ?_
          refine ev_iload_n (j := 3) (i := 3) (q := 3) rfl rfl d4_workOut_112 ?_
          refine ev_iconst ci_1 d4_workOut_113 ?_
          rcases ite_some hf with ⟨c33, hf⟩ | ⟨c33, hf⟩
          · refine ev_icmp_lt_P (tgt := 175) c33 (by decide) d4_workOut_114 ?_
            exact Ev.sub [1, 2, 3, 4, 5] rfl (s4_workOut_p175 ih _ _ _ _ _ _ _ _ hf)
          · refine ev_icmp_lt_Q (tgt := 175) c33 (by decide) d4_workOut_114 ?_
            refine ev_aload_n (j := 0) (i := 0) (q := 1) rfl rfl d4_workOut_117 ?_
            obtain ⟨h34, hf⟩ := gd_some hf
            obtain ⟨b35, e36, hf⟩ := lt_some hf
            obtain ⟨h37, hf⟩ := gd_some hf
            refine ev_getRb cls4 (j := 7) (by decide) rfl w326 h34 e36 (nz_ne h37) d4_workOut_118 ?_
            refine ev_iload_n (j := 3) (i := 3) (q := 3) rfl rfl d4_workOut_121 ?_
            refine ev_iconst ci_1 d4_workOut_122 ?_
            refine ev_isub d4_workOut_123 ?_
            refine ev_iconst ci_1 d4_workOut_124 ?_
            refine ev_aload_n (j := 0) (i := 0) (q := 1) rfl rfl d4_workOut_125 ?_
            refine ev_getRb cls4 (j := 7) (by decide) rfl w326 h34 e36 (nz_ne h37) d4_workOut_126 ?_
            refine ev_iload_n (j := 3) (i := 3) (q := 3) rfl rfl d4_workOut_129 ?_
            refine ev_iconst ci_1 d4_workOut_130 ?_
            refine ev_isub d4_workOut_131 ?_
            obtain ⟨h38, hf⟩ := gd_some hf
            obtain ⟨h39, hf⟩ := gd_some hf
            refine ev_iald h38 h39 d4_workOut_132 ?_
            refine ev_isub d4_workOut_133 ?_
            obtain ⟨t40, e41, hf⟩ := lt_some hf
            refine ev_iast h38 h39 d4_workOut_134 (ev_nmS e41 ?_)
            refine ev_goto (tgt := 175) (by decide) d4_workOut_135 ?_
            exact Ev.sub [1, 2, 3, 4, 5] rfl (s4_workOut_p175 ih _ _ _ _ _ _ _ _ hf)
        · refine ev_icmp_ne_Q (tgt := 138) c32 (by decide) d4_workOut_109 ?_
          refine ev_iload_n (j := 3) (i := 3) (q := 3) rfl rfl d4_workOut_138 ?_
          refine ev_iconst ci_2 d4_workOut_139 ?_
          rcases ite_some hf with ⟨c42, hf⟩ | ⟨c42, hf⟩
          · refine ev_icmp_lt_P (tgt := 175) c42 (by decide) d4_workOut_140 ?_
            exact Ev.sub [1, 2, 3, 4, 5] rfl (s4_workOut_p175 ih _ _ _ _ _ _ _ _ hf)
          · refine ev_icmp_lt_Q (tgt := 175) c42 (by decide) d4_workOut_140 ?_
            refine ev_aload_n (j := 0) (i := 0) (q := 1) rfl rfl d4_workOut_143 ?_
            obtain ⟨h43, hf⟩ := gd_some hf
            obtain ⟨b44, e45, hf⟩ := lt_some hf
            obtain ⟨h46, hf⟩ := gd_some hf
            refine ev_getRb cls4 (j := 7) (by decide) rfl w326 h43 e45 (nz_ne h46) d4_workOut_144 ?_
            refine ev_iload_n (j := 3) (i := 3) (q := 3) rfl rfl d4_workOut_147 ?_
            refine ev_iconst ci_2 d4_workOut_148 ?_
            refine ev_isub d4_workOut_149 ?_
            refine ev_iload (i := 7) (q := 0) rfl d4_workOut_150 ?_
            refine ev_aload_n (j := 0) (i := 0) (q := 1) rfl rfl d4_workOut_152 ?_
            refine ev_getRb cls4 (j := 7) (by decide) rfl w326 h43 e45 (nz_ne h46) d4_workOut_153 ?_
            refine ev_iload_n (j := 3) (i := 3) (q := 3) rfl rfl d4_workOut_156 ?_
            refine ev_iconst ci_2 d4_workOut_157 ?_
            refine ev_isub d4_workOut_158 ?_
            obtain ⟨h47, hf⟩ := gd_some hf
            obtain ⟨h48, hf⟩ := gd_some hf
            refine ev_iald h47 h48 d4_workOut_159 ?_
            refine ev_aload_n (j := 0) (i := 0) (q := 1) rfl rfl d4_workOut_160 ?_
            refine ev_getRb cls4 (j := 7) (by decide) rfl w326 h43 e45 (nz_ne h46) d4_workOut_161 ?_
            refine ev_iload_n (j := 3) (i := 3) (q := 3) rfl rfl d4_workOut_164 ?_
            refine ev_iconst ci_1 d4_workOut_165 ?_
            refine ev_isub d4_workOut_166 ?_
            obtain ⟨h49, hf⟩ := gd_some hf
            refine ev_iald h47 h49 d4_workOut_167 ?_
            obtain ⟨r50, t51, k52, hf⟩ := bd_some hf
            have q53 := s4_joined _ _ _ _ _ _ k52
            refine ev_callS (vs := [.int y29, .int (sI σ b44 (ix (v3 - (2 : Int32)))), .int (sI σ b44 (ix (v3 - (1 : Int32))))]) (sk := [.int (v3 - (2 : Int32)), .ref b44]) q53 (by decide) (Nat.le_of_ble_eq_true rfl) w891 w892 w6 w893 k4_joined rfl (Nat.le_of_ble_eq_true rfl) d4_workOut_168 ?_
            obtain ⟨t54, e55, hf⟩ := lt_some hf
            refine ev_iast (mono_ob q53.1 h47) (inb_m q53.1 h47 h48) d4_workOut_171 (ev_nmS e55 ?_)
            obtain ⟨y56, e57, hf⟩ := lt_some hf
            refine ev_iinc (lv2 := [(3, .int y56), (7, .int y29), (0, .ref v0), (1, .ref v1), (5, .int v5), (6, .int v6)]) (i := 3) (q := 3) (v := y56) (n := -1) rfl (by rw [ci_m1]; exact e57.symm) (by decide) rfl d4_workOut_172 ?_
            exact Ev.sub [2, 3, 0, 4, 5] rfl (s4_workOut_p175 ih _ _ _ _ _ _ _ _ hf)
      · refine ev_if_lt_Q (tgt := 105) c31 (by decide) d4_workOut_58 ?_
        refine ev_iload_n (j := 3) (i := 3) (q := 3) rfl rfl d4_workOut_61 ?_
        refine ev_aload_n (j := 0) (i := 0) (q := 1) rfl rfl d4_workOut_62 ?_
        obtain ⟨h58, hf⟩ := gd_some hf
        obtain ⟨b59, e60, hf⟩ := lt_some hf
        obtain ⟨h61, hf⟩ := gd_some hf
        refine ev_getRb cls4 (j := 7) (by decide) rfl w326 h58 e60 (nz_ne h61) d4_workOut_63 ?_
        obtain ⟨h62, hf⟩ := gd_some hf
        refine ev_alen (kd := 14) (by decide) (by decide) h62 d4_workOut_66 ?_
        rcases ite_some hf with ⟨c63, hf⟩ | ⟨c63, hf⟩
        · refine ev_icmp_ge_P (tgt := 175) c63 (by decide) d4_workOut_67 ?_
          refine ev_aload_n (j := 0) (i := 0) (q := 1) rfl rfl d4_workOut_70 ?_
          refine ev_getRb cls4 (j := 7) (by decide) rfl w326 h58 e60 (nz_ne h61) d4_workOut_71 ?_
          refine ev_iload_n (j := 3) (i := 3) (q := 3) rfl rfl d4_workOut_74 ?_
          refine ev_iload (i := 7) (q := 0) rfl d4_workOut_75 ?_
          refine ev_sipush cs_10000 d4_workOut_77 ?_
          rcases ite_some hf with ⟨c64, hf⟩ | ⟨c64, hf⟩
          · refine ev_icmp_ge_P (tgt := 88) c64 (by decide) d4_workOut_80 ?_
            refine ev_iload (i := 7) (q := 0) rfl d4_workOut_83 ?_
            refine ev_goto (tgt := 98) (by decide) d4_workOut_85 ?_
            exact Ev.sub [1, 2, 3, 4, 5] rfl (s4_workOut_p98 ih _ _ _ _ _ _ _ _ _ _ _ hf)
          · refine ev_icmp_ge_Q (tgt := 88) c64 (by decide) d4_workOut_80 ?_
            refine ev_aload_n (j := 0) (i := 0) (q := 1) rfl rfl d4_workOut_88 ?_
            refine ev_iload (i := 7) (q := 0) rfl d4_workOut_89 ?_
            refine ev_sipush cs_10000 d4_workOut_91 ?_
            refine ev_isub d4_workOut_94 ?_
            obtain ⟨r65, t66, k67, hf⟩ := bd_some hf
            have q68 := s4_named _ _ _ _ _ k67
            refine ev_callV (vs := [.int (y29 - (10000 : Int32))]) (sk := [.int v3, .ref b59]) cls4 h58 q68 (by decide) (Nat.le_of_ble_eq_true rfl) w887 w889 ws30 w6 w890 k4_named rfl (Nat.le_of_ble_eq_true rfl) d4_workOut_95 ?_
            exact Ev.sub [1, 2, 3, 4, 5] rfl (s4_workOut_p98 ih _ _ _ _ _ _ _ _ _ _ _ hf)
        · refine ev_icmp_ge_Q (tgt := 175) c63 (by decide) d4_workOut_67 ?_
          exact Ev.sub [1, 2, 3, 4, 5] rfl (s4_workOut_p175 ih _ _ _ _ _ _ _ _ hf)
    · refine ev_icmp_ge_Q (tgt := 181) c22 (by decide) d4_workOut_44 ?_
      refine ev_aload_n (j := 0) (i := 0) (q := 0) rfl rfl d4_workOut_181 ?_
      obtain ⟨h69, hf⟩ := gd_some hf
      obtain ⟨b70, e71, hf⟩ := lt_some hf
      obtain ⟨h72, hf⟩ := gd_some hf
      refine ev_getRb cls4 (j := 7) (by decide) rfl w326 h69 e71 (nz_ne h72) d4_workOut_182 ?_
      refine ev_iconst ci_0 d4_workOut_185 ?_
      obtain ⟨h73, hf⟩ := gd_some hf
      obtain ⟨h74, hf⟩ := gd_some hf
      refine ev_iald h73 h74 d4_workOut_186 ?_
      obtain ⟨rfl, rfl⟩ := ret_some hf
      exact ev_iret rfl d4_workOut_187
def f4_workOut_p18 (σ : St) (v0 : Nat) (v1 : Nat) (v2 : Int32) (v3 : Int32) (x0 : Int32) : Option (Int32 × St) :=
  gd (ob σ v1 10) (
  lt (sR σ v1 2) fun b9 => (
  gd (nz b9) (
  gd (ob σ b9 14) (
  gd (inb σ b9 v2) (
  lt (sR σ v1 0) fun b14 => (
  gd (nz b14) (
  gd (ob σ b14 14) (
  bd (fJ9_min_7cf53 σ (sI σ b9 (ix v2)) (Int32.ofNat (sK σ b14).2)) fun r18 t19 => (
  f4_workOut_p40 FU t19 v0 v1 v3 r18 x0)))))))))
set_option maxRecDepth 20000 in
theorem s4_workOut_p18 : ∀ (σ : St) (v0 : Nat) (v1 : Nat) (v2 : Int32) (v3 : Int32) (x0 : Int32) (r : Int32) (τ : St), f4_workOut_p18 σ v0 v1 v2 v3 x0 = some (r, τ) → Ev 3 m4_workOut 18 [(0, .ref v0), (1, .ref v1), (2, .int v2), (3, .int v3)] [.int x0] σ (some (.int r)) τ := by
  intro σ v0 v1 v2 v3 x0 r τ hf
  unfold f4_workOut_p18 at hf
  refine ev_istore (lv2 := [(4, .int x0), (0, .ref v0), (1, .ref v1), (2, .int v2), (3, .int v3)]) (i := 4) (by decide) rfl d4_workOut_18 ?_
  refine ev_aload_n (j := 1) (i := 1) (q := 2) rfl rfl d4_workOut_20 ?_
  obtain ⟨h8, hf⟩ := gd_some hf
  obtain ⟨b9, e10, hf⟩ := lt_some hf
  obtain ⟨h11, hf⟩ := gd_some hf
  refine ev_getRNb cls10 (j := 2) (by decide) rfl w189 h8 e10 (nz_ne h11) d4_workOut_21 ?_
  refine ev_iload_n (j := 2) (i := 2) (q := 3) rfl rfl d4_workOut_24 ?_
  obtain ⟨h12, hf⟩ := gd_some hf
  obtain ⟨h13, hf⟩ := gd_some hf
  refine ev_iald h12 h13 d4_workOut_25 ?_
  refine ev_aload_n (j := 1) (i := 1) (q := 2) rfl rfl d4_workOut_26 ?_
  obtain ⟨b14, e15, hf⟩ := lt_some hf
  obtain ⟨h16, hf⟩ := gd_some hf
  refine ev_getRNb cls10 (j := 0) (by decide) rfl w185 h8 e15 (nz_ne h16) d4_workOut_27 ?_
  obtain ⟨h17, hf⟩ := gd_some hf
  refine ev_alen (kd := 14) (by decide) (by decide) h17 d4_workOut_30 ?_
  obtain ⟨r18, t19, k20, hf⟩ := bd_some hf
  have q21 := sJ9_min_7cf53 _ _ _ _ _ k20
  refine ev_callS (vs := [.int (sI σ b9 (ix v2)), .int (Int32.ofNat (sK σ b14).2)]) (sk := []) q21 (by decide) (Nat.le_of_ble_eq_true rfl) w886 w636 w8 w637 kJ9_min_7cf53 rfl (Nat.le_of_ble_eq_true rfl) d4_workOut_31 ?_
  refine ev_istore (lv2 := [(5, .int r18), (4, .int x0), (0, .ref v0), (1, .ref v1), (2, .int v2), (3, .int v3)]) (i := 5) (by decide) rfl d4_workOut_34 ?_
  refine ev_iload (i := 4) (q := 1) rfl d4_workOut_36 ?_
  refine ev_istore (lv2 := [(6, .int x0), (5, .int r18), (4, .int x0), (0, .ref v0), (1, .ref v1), (2, .int v2), (3, .int v3)]) (i := 6) (by decide) rfl d4_workOut_38 ?_
  exact Ev.sub [3, 4, 6, 1, 0] rfl (s4_workOut_p40 FU _ _ _ _ _ _ _ _ hf)
def f4_workOut (σ : St) (v0 : Nat) (v1 : Nat) (v2 : Int32) : Option (Int32 × St) :=
  (if v2 ≤ (0 : Int32) then
  f4_workOut_p18 σ v0 v1 v2 (0 : Int32) (0 : Int32)
  else
  gd (ob σ v1 10) (
  lt (sR σ v1 2) fun b3 => (
  gd (nz b3) (
  gd (ob σ b3 14) (
  gd (inb σ b3 (v2 - (1 : Int32))) (
  f4_workOut_p18 σ v0 v1 v2 (0 : Int32) (sI σ b3 (ix (v2 - (1 : Int32))))))))))
set_option maxRecDepth 50000 in
theorem s4_workOut : ∀ (σ : St) (v0 : Nat) (v1 : Nat) (v2 : Int32) (r : Int32) (τ : St), f4_workOut σ v0 v1 v2 = some (r, τ) → Call 3 m4_workOut [.ref v0, .ref v1, .int v2] σ (some (.int r)) τ := by
  intro σ v0 v1 v2 r τ hf
  unfold f4_workOut at hf
  refine Call.of (by decide +kernel) rfl (Nat.le_of_ble_eq_true rfl) ?_
  refine ev_iconst ci_0 d4_workOut_0 ?_
  refine ev_istore_n (lv2 := [(3, .int (0 : Int32)), (0, .ref v0), (1, .ref v1), (2, .int v2)]) (j := 3) (i := 3) rfl (by decide) rfl d4_workOut_1 ?_
  refine ev_iload_n (j := 2) (i := 2) (q := 3) rfl rfl d4_workOut_2 ?_
  rcases ite_some hf with ⟨c1, hf⟩ | ⟨c1, hf⟩
  · refine ev_if_le_P (tgt := 17) c1 (by decide) d4_workOut_3 ?_
    refine ev_iconst ci_0 d4_workOut_17 ?_
    exact Ev.sub [1, 2, 3, 0] rfl (s4_workOut_p18 _ _ _ _ _ _ _ _ hf)
  · refine ev_if_le_Q (tgt := 17) c1 (by decide) d4_workOut_3 ?_
    refine ev_aload_n (j := 1) (i := 1) (q := 2) rfl rfl d4_workOut_6 ?_
    obtain ⟨h2, hf⟩ := gd_some hf
    obtain ⟨b3, e4, hf⟩ := lt_some hf
    obtain ⟨h5, hf⟩ := gd_some hf
    refine ev_getRNb cls10 (j := 2) (by decide) rfl w189 h2 e4 (nz_ne h5) d4_workOut_7 ?_
    refine ev_iload_n (j := 2) (i := 2) (q := 3) rfl rfl d4_workOut_10 ?_
    refine ev_iconst ci_1 d4_workOut_11 ?_
    refine ev_isub d4_workOut_12 ?_
    obtain ⟨h6, hf⟩ := gd_some hf
    obtain ⟨h7, hf⟩ := gd_some hf
    refine ev_iald h6 h7 d4_workOut_13 ?_
    refine ev_goto (tgt := 18) (by decide) d4_workOut_14 ?_
    exact Ev.sub [1, 2, 3, 0] rfl (s4_workOut_p18 _ _ _ _ _ _ _ _ hf)
