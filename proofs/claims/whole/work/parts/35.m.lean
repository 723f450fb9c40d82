theorem d12_works_0 : decode prog_14_method_66_code 0 = .ok (.iconst 0, 1) := by decide +kernel
theorem d12_works_1 : decode prog_14_method_66_code 1 = .ok (.istore_n 3, 1) := by decide +kernel
theorem d12_works_2 : decode prog_14_method_66_code 2 = .ok (.bipush 20, 2) := by decide +kernel
theorem d12_works_4 : decode prog_14_method_66_code 4 = .ok (.iload_n 1, 1) := by decide +kernel
theorem d12_works_5 : decode prog_14_method_66_code 5 = .ok (.imul, 1) := by decide +kernel
theorem d12_works_6 : decode prog_14_method_66_code 6 = .ok (.iload_n 2, 1) := by decide +kernel
theorem d12_works_7 : decode prog_14_method_66_code 7 = .ok (.iadd, 1) := by decide +kernel
theorem d12_works_8 : decode prog_14_method_66_code 8 = .ok (.istore 4, 2) := by decide +kernel
theorem d12_works_10 : decode prog_14_method_66_code 10 = .ok (.aload_n 0, 1) := by decide +kernel
theorem d12_works_11 : decode prog_14_method_66_code 11 = .ok (.getfield 87, 3) := by decide +kernel
theorem d12_works_14 : decode prog_14_method_66_code 14 = .ok (.iload 4, 2) := by decide +kernel
theorem d12_works_16 : decode prog_14_method_66_code 16 = .ok (.iaload, 1) := by decide +kernel
theorem d12_works_17 : decode prog_14_method_66_code 17 = .ok (.istore 5, 2) := by decide +kernel
theorem d12_works_19 : decode prog_14_method_66_code 19 = .ok (.iload 5, 2) := by decide +kernel
theorem d12_works_21 : decode prog_14_method_66_code 21 = .ok (.aload_n 0, 1) := by decide +kernel
theorem d12_works_22 : decode prog_14_method_66_code 22 = .ok (.getfield 90, 3) := by decide +kernel
theorem d12_works_25 : decode prog_14_method_66_code 25 = .ok (.iload 4, 2) := by decide +kernel
theorem d12_works_27 : decode prog_14_method_66_code 27 = .ok (.iaload, 1) := by decide +kernel
theorem d12_works_28 : decode prog_14_method_66_code 28 = .ok (.if_icmp .ge 123, 3) := by decide +kernel
theorem d12_works_31 : decode prog_14_method_66_code 31 = .ok (.aload_n 0, 1) := by decide +kernel
theorem d12_works_32 : decode prog_14_method_66_code 32 = .ok (.getfield 69, 3) := by decide +kernel
theorem d12_works_35 : decode prog_14_method_66_code 35 = .ok (.sipush 420, 3) := by decide +kernel
theorem d12_works_38 : decode prog_14_method_66_code 38 = .ok (.iload_n 1, 1) := by decide +kernel
theorem d12_works_39 : decode prog_14_method_66_code 39 = .ok (.imul, 1) := by decide +kernel
theorem d12_works_40 : decode prog_14_method_66_code 40 = .ok (.iload 5, 2) := by decide +kernel
theorem d12_works_42 : decode prog_14_method_66_code 42 = .ok (.iadd, 1) := by decide +kernel
theorem d12_works_43 : decode prog_14_method_66_code 43 = .ok (.iaload, 1) := by decide +kernel
theorem d12_works_44 : decode prog_14_method_66_code 44 = .ok (.istore 6, 2) := by decide +kernel
theorem d12_works_46 : decode prog_14_method_66_code 46 = .ok (.iload 6, 2) := by decide +kernel
theorem d12_works_48 : decode prog_14_method_66_code 48 = .ok (.ifCond .lt 39, 3) := by decide +kernel
theorem d12_works_51 : decode prog_14_method_66_code 51 = .ok (.aload_n 0, 1) := by decide +kernel
theorem d12_works_52 : decode prog_14_method_66_code 52 = .ok (.getfield 118, 3) := by decide +kernel
theorem d12_works_55 : decode prog_14_method_66_code 55 = .ok (.iload_n 3, 1) := by decide +kernel
theorem d12_works_56 : decode prog_14_method_66_code 56 = .ok (.iload 6, 2) := by decide +kernel
theorem d12_works_58 : decode prog_14_method_66_code 58 = .ok (.sipush 10000, 3) := by decide +kernel
theorem d12_works_61 : decode prog_14_method_66_code 61 = .ok (.if_icmp .lt 17, 3) := by decide +kernel
theorem d12_works_64 : decode prog_14_method_66_code 64 = .ok (.aload_n 0, 1) := by decide +kernel
theorem d12_works_65 : decode prog_14_method_66_code 65 = .ok (.getfield 115, 3) := by decide +kernel
theorem d12_works_68 : decode prog_14_method_66_code 68 = .ok (.iload 6, 2) := by decide +kernel
theorem d12_works_70 : decode prog_14_method_66_code 70 = .ok (.sipush 10000, 3) := by decide +kernel
theorem d12_works_73 : decode prog_14_method_66_code 73 = .ok (.isub, 1) := by decide +kernel
theorem d12_works_74 : decode prog_14_method_66_code 74 = .ok (.iaload, 1) := by decide +kernel
theorem d12_works_75 : decode prog_14_method_66_code 75 = .ok (.goto 5, 3) := by decide +kernel
theorem d12_works_78 : decode prog_14_method_66_code 78 = .ok (.iload 6, 2) := by decide +kernel
theorem d12_works_80 : decode prog_14_method_66_code 80 = .ok (.iastore, 1) := by decide +kernel
theorem d12_works_81 : decode prog_14_method_66_code 81 = .ok (.iinc 3 1, 3) := by decide +kernel
theorem d12_works_84 : decode prog_14_method_66_code 84 = .ok (.goto 61, 3) := by decide +kernel
theorem d12_works_87 : decode prog_14_method_66_code 87 = .ok (.iload 6, 2) := by decide +kernel
theorem d12_works_89 : decode prog_14_method_66_code 89 = .ok (.bipush (-9), 2) := by decide +kernel
theorem d12_works_91 : decode prog_14_method_66_code 91 = .ok (.if_icmp .ne 24, 3) := by decide +kernel
theorem d12_works_94 : decode prog_14_method_66_code 94 = .ok (.aload_n 0, 1) := by decide +kernel
theorem d12_works_95 : decode prog_14_method_66_code 95 = .ok (.getfield 118, 3) := by decide +kernel
theorem d12_works_98 : decode prog_14_method_66_code 98 = .ok (.iload_n 3, 1) := by decide +kernel
theorem d12_works_99 : decode prog_14_method_66_code 99 = .ok (.iconst 1, 1) := by decide +kernel
theorem d12_works_100 : decode prog_14_method_66_code 100 = .ok (.isub, 1) := by decide +kernel
theorem d12_works_101 : decode prog_14_method_66_code 101 = .ok (.iconst 1, 1) := by decide +kernel
theorem d12_works_102 : decode prog_14_method_66_code 102 = .ok (.aload_n 0, 1) := by decide +kernel
theorem d12_works_103 : decode prog_14_method_66_code 103 = .ok (.getfield 118, 3) := by decide +kernel
theorem d12_works_106 : decode prog_14_method_66_code 106 = .ok (.iload_n 3, 1) := by decide +kernel
theorem d12_works_107 : decode prog_14_method_66_code 107 = .ok (.iconst 1, 1) := by decide +kernel
theorem d12_works_108 : decode prog_14_method_66_code 108 = .ok (.isub, 1) := by decide +kernel
theorem d12_works_109 : decode prog_14_method_66_code 109 = .ok (.iaload, 1) := by decide +kernel
theorem d12_works_110 : decode prog_14_method_66_code 110 = .ok (.isub, 1) := by decide +kernel
theorem d12_works_111 : decode prog_14_method_66_code 111 = .ok (.iastore, 1) := by decide +kernel
theorem d12_works_112 : decode prog_14_method_66_code 112 = .ok (.goto 33, 3) := by decide +kernel
theorem d12_works_115 : decode prog_14_method_66_code 115 = .ok (.iinc 3 (-1), 3) := by decide +kernel
theorem d12_works_118 : decode prog_14_method_66_code 118 = .ok (.aload_n 0, 1) := by decide +kernel
theorem d12_works_119 : decode prog_14_method_66_code 119 = .ok (.getfield 118, 3) := by decide +kernel
theorem d12_works_122 : decode prog_14_method_66_code 122 = .ok (.iload_n 3, 1) := by decide +kernel
theorem d12_works_123 : decode prog_14_method_66_code 123 = .ok (.iconst 1, 1) := by decide +kernel
theorem d12_works_124 : decode prog_14_method_66_code 124 = .ok (.isub, 1) := by decide +kernel
theorem d12_works_125 : decode prog_14_method_66_code 125 = .ok (.iload 6, 2) := by decide +kernel
theorem d12_works_127 : decode prog_14_method_66_code 127 = .ok (.aload_n 0, 1) := by decide +kernel
theorem d12_works_128 : decode prog_14_method_66_code 128 = .ok (.getfield 118, 3) := by decide +kernel
theorem d12_works_131 : decode prog_14_method_66_code 131 = .ok (.iload_n 3, 1) := by decide +kernel
theorem d12_works_132 : decode prog_14_method_66_code 132 = .ok (.iconst 1, 1) := by decide +kernel
theorem d12_works_133 : decode prog_14_method_66_code 133 = .ok (.isub, 1) := by decide +kernel
theorem d12_works_134 : decode prog_14_method_66_code 134 = .ok (.iaload, 1) := by decide +kernel
theorem d12_works_135 : decode prog_14_method_66_code 135 = .ok (.aload_n 0, 1) := by decide +kernel
theorem d12_works_136 : decode prog_14_method_66_code 136 = .ok (.getfield 118, 3) := by decide +kernel
theorem d12_works_139 : decode prog_14_method_66_code 139 = .ok (.iload_n 3, 1) := by decide +kernel
theorem d12_works_140 : decode prog_14_method_66_code 140 = .ok (.iaload, 1) := by decide +kernel
theorem d12_works_141 : decode prog_14_method_66_code 141 = .ok (.invokestatic 401, 3) := by decide +kernel
theorem d12_works_144 : decode prog_14_method_66_code 144 = .ok (.iastore, 1) := by decide +kernel
theorem d12_works_145 : decode prog_14_method_66_code 145 = .ok (.iinc 5 1, 3) := by decide +kernel
theorem d12_works_148 : decode prog_14_method_66_code 148 = .ok (.goto (-129), 3) := by decide +kernel
theorem d12_works_151 : decode prog_14_method_66_code 151 = .ok (.aload_n 0, 1) := by decide +kernel
theorem d12_works_152 : decode prog_14_method_66_code 152 = .ok (.getfield 118, 3) := by decide +kernel
theorem d12_works_155 : decode prog_14_method_66_code 155 = .ok (.iconst 0, 1) := by decide +kernel
theorem d12_works_156 : decode prog_14_method_66_code 156 = .ok (.iaload, 1) := by decide +kernel
theorem d12_works_157 : decode prog_14_method_66_code 157 = .ok (.ireturn, 1) := by decide +kernel
theorem d12_last_0 : decode prog_14_method_68_code 0 = .ok (.iconst (-1), 1) := by decide +kernel
theorem d12_last_1 : decode prog_14_method_68_code 1 = .ok (.istore 4, 2) := by decide +kernel
theorem d12_last_3 : decode prog_14_method_68_code 3 = .ok (.iconst 0, 1) := by decide +kernel
theorem d12_last_4 : decode prog_14_method_68_code 4 = .ok (.istore 5, 2) := by decide +kernel
theorem d12_last_6 : decode prog_14_method_68_code 6 = .ok (.iconst 0, 1) := by decide +kernel
theorem d12_last_7 : decode prog_14_method_68_code 7 = .ok (.istore 6, 2) := by decide +kernel
theorem d12_last_9 : decode prog_14_method_68_code 9 = .ok (.iload_n 1, 1) := by decide +kernel
theorem d12_last_10 : decode prog_14_method_68_code 10 = .ok (.iconst (-1), 1) := by decide +kernel
theorem d12_last_11 : decode prog_14_method_68_code 11 = .ok (.if_icmp .eq 89, 3) := by decide +kernel
theorem d12_last_14 : decode prog_14_method_68_code 14 = .ok (.iload 6, 2) := by decide +kernel
theorem d12_last_16 : decode prog_14_method_68_code 16 = .ok (.aload_n 0, 1) := by decide +kernel
theorem d12_last_17 : decode prog_14_method_68_code 17 = .ok (.getfield 75, 3) := by decide +kernel
theorem d12_last_20 : decode prog_14_method_68_code 20 = .ok (.iload_n 1, 1) := by decide +kernel
theorem d12_last_21 : decode prog_14_method_68_code 21 = .ok (.iaload, 1) := by decide +kernel
theorem d12_last_22 : decode prog_14_method_68_code 22 = .ok (.if_icmp .ge 78, 3) := by decide +kernel
theorem d12_last_25 : decode prog_14_method_68_code 25 = .ok (.aload_n 0, 1) := by decide +kernel
theorem d12_last_26 : decode prog_14_method_68_code 26 = .ok (.getfield 78, 3) := by decide +kernel
theorem d12_last_29 : decode prog_14_method_68_code 29 = .ok (.bipush 20, 2) := by decide +kernel
theorem d12_last_31 : decode prog_14_method_68_code 31 = .ok (.iload_n 1, 1) := by decide +kernel
theorem d12_last_32 : decode prog_14_method_68_code 32 = .ok (.imul, 1) := by decide +kernel
theorem d12_last_33 : decode prog_14_method_68_code 33 = .ok (.iload 6, 2) := by decide +kernel
theorem d12_last_35 : decode prog_14_method_68_code 35 = .ok (.iadd, 1) := by decide +kernel
theorem d12_last_36 : decode prog_14_method_68_code 36 = .ok (.iaload, 1) := by decide +kernel
theorem d12_last_37 : decode prog_14_method_68_code 37 = .ok (.istore 7, 2) := by decide +kernel
theorem d12_last_39 : decode prog_14_method_68_code 39 = .ok (.iload 7, 2) := by decide +kernel
theorem d12_last_41 : decode prog_14_method_68_code 41 = .ok (.ifCond .ne 26, 3) := by decide +kernel
theorem d12_last_44 : decode prog_14_method_68_code 44 = .ok (.aload_n 0, 1) := by decide +kernel
theorem d12_last_45 : decode prog_14_method_68_code 45 = .ok (.getfield 115, 3) := by decide +kernel
theorem d12_last_48 : decode prog_14_method_68_code 48 = .ok (.bipush 9, 2) := by decide +kernel
theorem d12_last_50 : decode prog_14_method_68_code 50 = .ok (.iload 5, 2) := by decide +kernel
theorem d12_last_52 : decode prog_14_method_68_code 52 = .ok (.iadd, 1) := by decide +kernel
theorem d12_last_53 : decode prog_14_method_68_code 53 = .ok (.aload_n 0, 1) := by decide +kernel
theorem d12_last_54 : decode prog_14_method_68_code 54 = .ok (.iload_n 1, 1) := by decide +kernel
theorem d12_last_55 : decode prog_14_method_68_code 55 = .ok (.iload 6, 2) := by decide +kernel
theorem d12_last_57 : decode prog_14_method_68_code 57 = .ok (.invokevirtual 409, 3) := by decide +kernel
theorem d12_last_60 : decode prog_14_method_68_code 60 = .ok (.iastore, 1) := by decide +kernel
theorem d12_last_61 : decode prog_14_method_68_code 61 = .ok (.iinc 5 1, 3) := by decide +kernel
theorem d12_last_64 : decode prog_14_method_68_code 64 = .ok (.goto 30, 3) := by decide +kernel
theorem d12_last_67 : decode prog_14_method_68_code 67 = .ok (.iload 7, 2) := by decide +kernel
theorem d12_last_69 : decode prog_14_method_68_code 69 = .ok (.iload_n 2, 1) := by decide +kernel
theorem d12_last_70 : decode prog_14_method_68_code 70 = .ok (.if_icmp .eq 9, 3) := by decide +kernel
theorem d12_last_73 : decode prog_14_method_68_code 73 = .ok (.iload 7, 2) := by decide +kernel
theorem d12_last_75 : decode prog_14_method_68_code 75 = .ok (.iload_n 3, 1) := by decide +kernel
theorem d12_last_76 : decode prog_14_method_68_code 76 = .ok (.if_icmp .ne 18, 3) := by decide +kernel
theorem d12_last_79 : decode prog_14_method_68_code 79 = .ok (.aload_n 0, 1) := by decide +kernel
theorem d12_last_80 : decode prog_14_method_68_code 80 = .ok (.iload_n 1, 1) := by decide +kernel
theorem d12_last_81 : decode prog_14_method_68_code 81 = .ok (.iload 6, 2) := by decide +kernel
theorem d12_last_83 : decode prog_14_method_68_code 83 = .ok (.invokevirtual 409, 3) := by decide +kernel
theorem d12_last_86 : decode prog_14_method_68_code 86 = .ok (.iconst 1, 1) := by decide +kernel
theorem d12_last_87 : decode prog_14_method_68_code 87 = .ok (.if_icmp .ne 7, 3) := by decide +kernel
theorem d12_last_90 : decode prog_14_method_68_code 90 = .ok (.iload 6, 2) := by decide +kernel
theorem d12_last_92 : decode prog_14_method_68_code 92 = .ok (.istore 4, 2) := by decide +kernel
theorem d12_last_94 : decode prog_14_method_68_code 94 = .ok (.iinc 6 1, 3) := by decide +kernel
theorem d12_last_97 : decode prog_14_method_68_code 97 = .ok (.goto (-88), 3) := by decide +kernel
theorem d12_last_100 : decode prog_14_method_68_code 100 = .ok (.iload 4, 2) := by decide +kernel
theorem d12_last_102 : decode prog_14_method_68_code 102 = .ok (.ireturn, 1) := by decide +kernel
theorem d12_names_0 : decode prog_14_method_69_code 0 = .ok (.aload_n 0, 1) := by decide +kernel
theorem d12_names_1 : decode prog_14_method_69_code 1 = .ok (.getfield 115, 3) := by decide +kernel
theorem d12_names_4 : decode prog_14_method_69_code 4 = .ok (.iconst 0, 1) := by decide +kernel
theorem d12_names_5 : decode prog_14_method_69_code 5 = .ok (.iload_n 2, 1) := by decide +kernel
theorem d12_names_6 : decode prog_14_method_69_code 6 = .ok (.bipush 12, 2) := by decide +kernel
theorem d12_names_8 : decode prog_14_method_69_code 8 = .ok (.idiv, 1) := by decide +kernel
theorem d12_names_9 : decode prog_14_method_69_code 9 = .ok (.iastore, 1) := by decide +kernel
theorem d12_names_10 : decode prog_14_method_69_code 10 = .ok (.aload_n 0, 1) := by decide +kernel
theorem d12_names_11 : decode prog_14_method_69_code 11 = .ok (.getfield 115, 3) := by decide +kernel
theorem d12_names_14 : decode prog_14_method_69_code 14 = .ok (.iconst 1, 1) := by decide +kernel
theorem d12_names_15 : decode prog_14_method_69_code 15 = .ok (.iload_n 2, 1) := by decide +kernel
theorem d12_names_16 : decode prog_14_method_69_code 16 = .ok (.bipush 12, 2) := by decide +kernel
theorem d12_names_18 : decode prog_14_method_69_code 18 = .ok (.irem, 1) := by decide +kernel
theorem d12_names_19 : decode prog_14_method_69_code 19 = .ok (.iastore, 1) := by decide +kernel
theorem d12_names_20 : decode prog_14_method_69_code 20 = .ok (.aload_n 0, 1) := by decide +kernel
theorem d12_names_21 : decode prog_14_method_69_code 21 = .ok (.getfield 115, 3) := by decide +kernel
theorem d12_names_24 : decode prog_14_method_69_code 24 = .ok (.iconst 2, 1) := by decide +kernel
theorem d12_names_25 : decode prog_14_method_69_code 25 = .ok (.iload 4, 2) := by decide +kernel
theorem d12_names_27 : decode prog_14_method_69_code 27 = .ok (.iastore, 1) := by decide +kernel
theorem d12_names_28 : decode prog_14_method_69_code 28 = .ok (.aload_n 0, 1) := by decide +kernel
theorem d12_names_29 : decode prog_14_method_69_code 29 = .ok (.getfield 115, 3) := by decide +kernel
theorem d12_names_32 : decode prog_14_method_69_code 32 = .ok (.iconst 3, 1) := by decide +kernel
theorem d12_names_33 : decode prog_14_method_69_code 33 = .ok (.aload_n 0, 1) := by decide +kernel
theorem d12_names_34 : decode prog_14_method_69_code 34 = .ok (.iload_n 2, 1) := by decide +kernel
theorem d12_names_35 : decode prog_14_method_69_code 35 = .ok (.iload 4, 2) := by decide +kernel
theorem d12_names_37 : decode prog_14_method_69_code 37 = .ok (.invokevirtual 197, 3) := by decide +kernel
theorem d12_names_40 : decode prog_14_method_69_code 40 = .ok (.iastore, 1) := by decide +kernel
theorem d12_names_41 : decode prog_14_method_69_code 41 = .ok (.aload_n 0, 1) := by decide +kernel
theorem d12_names_42 : decode prog_14_method_69_code 42 = .ok (.getfield 115, 3) := by decide +kernel
theorem d12_names_45 : decode prog_14_method_69_code 45 = .ok (.iconst 4, 1) := by decide +kernel
theorem d12_names_46 : decode prog_14_method_69_code 46 = .ok (.iload_n 3, 1) := by decide +kernel
theorem d12_names_47 : decode prog_14_method_69_code 47 = .ok (.iastore, 1) := by decide +kernel
theorem d12_names_48 : decode prog_14_method_69_code 48 = .ok (.aload_n 0, 1) := by decide +kernel
theorem d12_names_49 : decode prog_14_method_69_code 49 = .ok (.getfield 115, 3) := by decide +kernel
theorem d12_names_52 : decode prog_14_method_69_code 52 = .ok (.iconst 5, 1) := by decide +kernel
theorem d12_names_53 : decode prog_14_method_69_code 53 = .ok (.iload_n 1, 1) := by decide +kernel
theorem d12_names_54 : decode prog_14_method_69_code 54 = .ok (.iastore, 1) := by decide +kernel
theorem d12_names_55 : decode prog_14_method_69_code 55 = .ok (.aload_n 0, 1) := by decide +kernel
theorem d12_names_56 : decode prog_14_method_69_code 56 = .ok (.getfield 115, 3) := by decide +kernel
theorem d12_names_59 : decode prog_14_method_69_code 59 = .ok (.bipush 6, 2) := by decide +kernel
theorem d12_names_61 : decode prog_14_method_69_code 61 = .ok (.aload_n 0, 1) := by decide +kernel
theorem d12_names_62 : decode prog_14_method_69_code 62 = .ok (.getfield 26, 3) := by decide +kernel
theorem d12_names_65 : decode prog_14_method_69_code 65 = .ok (.iload_n 1, 1) := by decide +kernel
theorem d12_names_66 : decode prog_14_method_69_code 66 = .ok (.iaload, 1) := by decide +kernel
theorem d12_names_67 : decode prog_14_method_69_code 67 = .ok (.iastore, 1) := by decide +kernel
theorem d12_names_68 : decode prog_14_method_69_code 68 = .ok (.aload_n 0, 1) := by decide +kernel
theorem d12_names_69 : decode prog_14_method_69_code 69 = .ok (.getfield 115, 3) := by decide +kernel
theorem d12_names_72 : decode prog_14_method_69_code 72 = .ok (.bipush 7, 2) := by decide +kernel
theorem d12_names_74 : decode prog_14_method_69_code 74 = .ok (.aload_n 0, 1) := by decide +kernel
theorem d12_names_75 : decode prog_14_method_69_code 75 = .ok (.getfield 29, 3) := by decide +kernel
theorem d12_names_78 : decode prog_14_method_69_code 78 = .ok (.iload_n 1, 1) := by decide +kernel
theorem d12_names_79 : decode prog_14_method_69_code 79 = .ok (.iaload, 1) := by decide +kernel
theorem d12_names_80 : decode prog_14_method_69_code 80 = .ok (.iastore, 1) := by decide +kernel
theorem d12_names_81 : decode prog_14_method_69_code 81 = .ok (.aload_n 0, 1) := by decide +kernel
theorem d12_names_82 : decode prog_14_method_69_code 82 = .ok (.getfield 115, 3) := by decide +kernel
theorem d12_names_85 : decode prog_14_method_69_code 85 = .ok (.bipush 8, 2) := by decide +kernel
theorem d12_names_87 : decode prog_14_method_69_code 87 = .ok (.iload 5, 2) := by decide +kernel
theorem d12_names_89 : decode prog_14_method_69_code 89 = .ok (.iastore, 1) := by decide +kernel
theorem d12_names_90 : decode prog_14_method_69_code 90 = .ok (.return_, 1) := by decide +kernel
theorem d12_wordOf_0 : decode prog_14_method_70_code 0 = .ok (.aload_n 0, 1) := by decide +kernel
theorem d12_wordOf_1 : decode prog_14_method_70_code 1 = .ok (.iload_n 2, 1) := by decide +kernel
theorem d12_wordOf_2 : decode prog_14_method_70_code 2 = .ok (.iload_n 3, 1) := by decide +kernel
theorem d12_wordOf_3 : decode prog_14_method_70_code 3 = .ok (.iload 4, 2) := by decide +kernel
theorem d12_wordOf_5 : decode prog_14_method_70_code 5 = .ok (.aload_n 0, 1) := by decide +kernel
theorem d12_wordOf_6 : decode prog_14_method_70_code 6 = .ok (.iload 4, 2) := by decide +kernel
theorem d12_wordOf_8 : decode prog_14_method_70_code 8 = .ok (.iload 5, 2) := by decide +kernel
theorem d12_wordOf_10 : decode prog_14_method_70_code 10 = .ok (.invokevirtual 232, 3) := by decide +kernel
theorem d12_wordOf_13 : decode prog_14_method_70_code 13 = .ok (.iconst 0, 1) := by decide +kernel
theorem d12_wordOf_14 : decode prog_14_method_70_code 14 = .ok (.invokevirtual 412, 3) := by decide +kernel
theorem d12_wordOf_17 : decode prog_14_method_70_code 17 = .ok (.aload_n 0, 1) := by decide +kernel
theorem d12_wordOf_18 : decode prog_14_method_70_code 18 = .ok (.aload_n 0, 1) := by decide +kernel
theorem d12_wordOf_19 : decode prog_14_method_70_code 19 = .ok (.iload_n 1, 1) := by decide +kernel
theorem d12_wordOf_20 : decode prog_14_method_70_code 20 = .ok (.iload 4, 2) := by decide +kernel
theorem d12_wordOf_22 : decode prog_14_method_70_code 22 = .ok (.iload 5, 2) := by decide +kernel
theorem d12_wordOf_24 : decode prog_14_method_70_code 24 = .ok (.invokevirtual 416, 3) := by decide +kernel
theorem d12_wordOf_27 : decode prog_14_method_70_code 27 = .ok (.iconst 1, 1) := by decide +kernel
theorem d12_wordOf_28 : decode prog_14_method_70_code 28 = .ok (.iconst 2, 1) := by decide +kernel
theorem d12_wordOf_29 : decode prog_14_method_70_code 29 = .ok (.invokevirtual 419, 3) := by decide +kernel
theorem d12_wordOf_32 : decode prog_14_method_70_code 32 = .ok (.ireturn, 1) := by decide +kernel
theorem d12_hasSay_0 : decode prog_14_method_71_code 0 = .ok (.iload_n 0, 1) := by decide +kernel
theorem d12_hasSay_1 : decode prog_14_method_71_code 1 = .ok (.ifCond .ne 19, 3) := by decide +kernel
theorem d12_hasSay_4 : decode prog_14_method_71_code 4 = .ok (.iload_n 1, 1) := by decide +kernel
theorem d12_hasSay_5 : decode prog_14_method_71_code 5 = .ok (.bipush 12, 2) := by decide +kernel
theorem d12_hasSay_7 : decode prog_14_method_71_code 7 = .ok (.idiv, 1) := by decide +kernel
theorem d12_hasSay_8 : decode prog_14_method_71_code 8 = .ok (.iconst 3, 1) := by decide +kernel
theorem d12_hasSay_9 : decode prog_14_method_71_code 9 = .ok (.if_icmp .gt 7, 3) := by decide +kernel
theorem d12_hasSay_12 : decode prog_14_method_71_code 12 = .ok (.iconst 1, 1) := by decide +kernel
theorem d12_hasSay_13 : decode prog_14_method_71_code 13 = .ok (.goto 20, 3) := by decide +kernel
theorem d12_hasSay_16 : decode prog_14_method_71_code 16 = .ok (.iconst 0, 1) := by decide +kernel
theorem d12_hasSay_17 : decode prog_14_method_71_code 17 = .ok (.goto 16, 3) := by decide +kernel
theorem d12_hasSay_20 : decode prog_14_method_71_code 20 = .ok (.iload_n 1, 1) := by decide +kernel
theorem d12_hasSay_21 : decode prog_14_method_71_code 21 = .ok (.bipush 12, 2) := by decide +kernel
theorem d12_hasSay_23 : decode prog_14_method_71_code 23 = .ok (.idiv, 1) := by decide +kernel
theorem d12_hasSay_24 : decode prog_14_method_71_code 24 = .ok (.iconst 2, 1) := by decide +kernel
theorem d12_hasSay_25 : decode prog_14_method_71_code 25 = .ok (.if_icmp .lt 7, 3) := by decide +kernel
theorem d12_hasSay_28 : decode prog_14_method_71_code 28 = .ok (.iconst 1, 1) := by decide +kernel
theorem d12_hasSay_29 : decode prog_14_method_71_code 29 = .ok (.goto 4, 3) := by decide +kernel
theorem d12_hasSay_32 : decode prog_14_method_71_code 32 = .ok (.iconst 0, 1) := by decide +kernel
theorem d12_hasSay_33 : decode prog_14_method_71_code 33 = .ok (.ireturn, 1) := by decide +kernel
theorem d12_saysOf_0 : decode prog_14_method_72_code 0 = .ok (.aload_n 0, 1) := by decide +kernel
theorem d12_saysOf_1 : decode prog_14_method_72_code 1 = .ok (.iload_n 1, 1) := by decide +kernel
theorem d12_saysOf_2 : decode prog_14_method_72_code 2 = .ok (.iload_n 2, 1) := by decide +kernel
theorem d12_saysOf_3 : decode prog_14_method_72_code 3 = .ok (.iload_n 3, 1) := by decide +kernel
theorem d12_saysOf_4 : decode prog_14_method_72_code 4 = .ok (.iload 4, 2) := by decide +kernel
theorem d12_saysOf_6 : decode prog_14_method_72_code 6 = .ok (.iload 5, 2) := by decide +kernel
theorem d12_saysOf_8 : decode prog_14_method_72_code 8 = .ok (.invokevirtual 422, 3) := by decide +kernel
theorem d12_saysOf_11 : decode prog_14_method_72_code 11 = .ok (.istore 6, 2) := by decide +kernel
theorem d12_saysOf_13 : decode prog_14_method_72_code 13 = .ok (.iload 6, 2) := by decide +kernel
theorem d12_saysOf_15 : decode prog_14_method_72_code 15 = .ok (.iconst (-1), 1) := by decide +kernel
theorem d12_saysOf_16 : decode prog_14_method_72_code 16 = .ok (.if_icmp .ne 7, 3) := by decide +kernel
theorem d12_saysOf_19 : decode prog_14_method_72_code 19 = .ok (.iconst 0, 1) := by decide +kernel
theorem d12_saysOf_20 : decode prog_14_method_72_code 20 = .ok (.goto 23, 3) := by decide +kernel
theorem d12_saysOf_23 : decode prog_14_method_72_code 23 = .ok (.aload_n 0, 1) := by decide +kernel
theorem d12_saysOf_24 : decode prog_14_method_72_code 24 = .ok (.getfield 78, 3) := by decide +kernel
theorem d12_saysOf_27 : decode prog_14_method_72_code 27 = .ok (.bipush 20, 2) := by decide +kernel
theorem d12_saysOf_29 : decode prog_14_method_72_code 29 = .ok (.aload_n 0, 1) := by decide +kernel
theorem d12_saysOf_30 : decode prog_14_method_72_code 30 = .ok (.iload_n 1, 1) := by decide +kernel
theorem d12_saysOf_31 : decode prog_14_method_72_code 31 = .ok (.iload 4, 2) := by decide +kernel
theorem d12_saysOf_33 : decode prog_14_method_72_code 33 = .ok (.iload 5, 2) := by decide +kernel
theorem d12_saysOf_35 : decode prog_14_method_72_code 35 = .ok (.invokevirtual 416, 3) := by decide +kernel
theorem d12_saysOf_38 : decode prog_14_method_72_code 38 = .ok (.imul, 1) := by decide +kernel
theorem d12_saysOf_39 : decode prog_14_method_72_code 39 = .ok (.iload 6, 2) := by decide +kernel
theorem d12_saysOf_41 : decode prog_14_method_72_code 41 = .ok (.iadd, 1) := by decide +kernel
theorem d12_saysOf_42 : decode prog_14_method_72_code 42 = .ok (.iaload, 1) := by decide +kernel
theorem d12_saysOf_43 : decode prog_14_method_72_code 43 = .ok (.ireturn, 1) := by decide +kernel
theorem d12_barredBy_0 : decode prog_14_method_73_code 0 = .ok (.iconst 0, 1) := by decide +kernel
theorem d12_barredBy_1 : decode prog_14_method_73_code 1 = .ok (.iload_n 2, 1) := by decide +kernel
theorem d12_barredBy_2 : decode prog_14_method_73_code 2 = .ok (.invokestatic 426, 3) := by decide +kernel
theorem d12_barredBy_5 : decode prog_14_method_73_code 5 = .ok (.ifCond .eq 16, 3) := by decide +kernel
theorem d12_barredBy_8 : decode prog_14_method_73_code 8 = .ok (.aload_n 0, 1) := by decide +kernel
theorem d12_barredBy_9 : decode prog_14_method_73_code 9 = .ok (.iconst 0, 1) := by decide +kernel
theorem d12_barredBy_10 : decode prog_14_method_73_code 10 = .ok (.iload_n 1, 1) := by decide +kernel
theorem d12_barredBy_11 : decode prog_14_method_73_code 11 = .ok (.iload_n 2, 1) := by decide +kernel
theorem d12_barredBy_12 : decode prog_14_method_73_code 12 = .ok (.iload_n 3, 1) := by decide +kernel
theorem d12_barredBy_13 : decode prog_14_method_73_code 13 = .ok (.iload 4, 2) := by decide +kernel
theorem d12_barredBy_15 : decode prog_14_method_73_code 15 = .ok (.invokevirtual 429, 3) := by decide +kernel
theorem d12_barredBy_18 : decode prog_14_method_73_code 18 = .ok (.goto 4, 3) := by decide +kernel
theorem d12_barredBy_21 : decode prog_14_method_73_code 21 = .ok (.iconst 0, 1) := by decide +kernel
theorem d12_barredBy_22 : decode prog_14_method_73_code 22 = .ok (.istore 5, 2) := by decide +kernel
theorem d12_barredBy_24 : decode prog_14_method_73_code 24 = .ok (.iconst 1, 1) := by decide +kernel
theorem d12_barredBy_25 : decode prog_14_method_73_code 25 = .ok (.iload_n 2, 1) := by decide +kernel
theorem d12_barredBy_26 : decode prog_14_method_73_code 26 = .ok (.invokestatic 426, 3) := by decide +kernel
theorem d12_barredBy_29 : decode prog_14_method_73_code 29 = .ok (.ifCond .eq 16, 3) := by decide +kernel
theorem d12_barredBy_32 : decode prog_14_method_73_code 32 = .ok (.aload_n 0, 1) := by decide +kernel
theorem d12_barredBy_33 : decode prog_14_method_73_code 33 = .ok (.iconst 1, 1) := by decide +kernel
theorem d12_barredBy_34 : decode prog_14_method_73_code 34 = .ok (.iload_n 1, 1) := by decide +kernel
theorem d12_barredBy_35 : decode prog_14_method_73_code 35 = .ok (.iload_n 2, 1) := by decide +kernel
theorem d12_barredBy_36 : decode prog_14_method_73_code 36 = .ok (.iload_n 3, 1) := by decide +kernel
theorem d12_barredBy_37 : decode prog_14_method_73_code 37 = .ok (.iload 4, 2) := by decide +kernel
theorem d12_barredBy_39 : decode prog_14_method_73_code 39 = .ok (.invokevirtual 429, 3) := by decide +kernel
theorem d12_barredBy_42 : decode prog_14_method_73_code 42 = .ok (.goto 4, 3) := by decide +kernel
theorem d12_barredBy_45 : decode prog_14_method_73_code 45 = .ok (.iconst 0, 1) := by decide +kernel
theorem d12_barredBy_46 : decode prog_14_method_73_code 46 = .ok (.istore 6, 2) := by decide +kernel
theorem d12_barredBy_48 : decode prog_14_method_73_code 48 = .ok (.iload 5, 2) := by decide +kernel
theorem d12_barredBy_50 : decode prog_14_method_73_code 50 = .ok (.iconst 1, 1) := by decide +kernel
theorem d12_barredBy_51 : decode prog_14_method_73_code 51 = .ok (.if_icmp .ne 7, 3) := by decide +kernel
theorem d12_barredBy_54 : decode prog_14_method_73_code 54 = .ok (.iconst 1, 1) := by decide +kernel
theorem d12_barredBy_55 : decode prog_14_method_73_code 55 = .ok (.goto 4, 3) := by decide +kernel
theorem d12_barredBy_58 : decode prog_14_method_73_code 58 = .ok (.iconst 0, 1) := by decide +kernel
theorem d12_barredBy_59 : decode prog_14_method_73_code 59 = .ok (.iload 6, 2) := by decide +kernel
theorem d12_barredBy_61 : decode prog_14_method_73_code 61 = .ok (.iconst 1, 1) := by decide +kernel
theorem d12_barredBy_62 : decode prog_14_method_73_code 62 = .ok (.if_icmp .ne 7, 3) := by decide +kernel
theorem d12_barredBy_65 : decode prog_14_method_73_code 65 = .ok (.iconst 2, 1) := by decide +kernel
theorem d12_barredBy_66 : decode prog_14_method_73_code 66 = .ok (.goto 4, 3) := by decide +kernel
theorem d12_barredBy_69 : decode prog_14_method_73_code 69 = .ok (.iconst 0, 1) := by decide +kernel
theorem d12_barredBy_70 : decode prog_14_method_73_code 70 = .ok (.iadd, 1) := by decide +kernel
theorem d12_barredBy_71 : decode prog_14_method_73_code 71 = .ok (.istore 7, 2) := by decide +kernel
theorem d12_barredBy_73 : decode prog_14_method_73_code 73 = .ok (.iload 7, 2) := by decide +kernel
theorem d12_barredBy_75 : decode prog_14_method_73_code 75 = .ok (.iload 5, 2) := by decide +kernel
theorem d12_barredBy_77 : decode prog_14_method_73_code 77 = .ok (.iload 6, 2) := by decide +kernel
theorem d12_barredBy_79 : decode prog_14_method_73_code 79 = .ok (.imul, 1) := by decide +kernel
theorem d12_barredBy_80 : decode prog_14_method_73_code 80 = .ok (.iconst 2, 1) := by decide +kernel
theorem d12_barredBy_81 : decode prog_14_method_73_code 81 = .ok (.if_icmp .ne 7, 3) := by decide +kernel
theorem d12_barredBy_84 : decode prog_14_method_73_code 84 = .ok (.iconst 4, 1) := by decide +kernel
theorem d12_barredBy_85 : decode prog_14_method_73_code 85 = .ok (.goto 4, 3) := by decide +kernel
theorem d12_barredBy_88 : decode prog_14_method_73_code 88 = .ok (.iconst 0, 1) := by decide +kernel
theorem d12_barredBy_89 : decode prog_14_method_73_code 89 = .ok (.iadd, 1) := by decide +kernel
theorem d12_barredBy_90 : decode prog_14_method_73_code 90 = .ok (.ireturn, 1) := by decide +kernel
theorem d12_isBarred_0 : decode prog_14_method_74_code 0 = .ok (.aload_n 0, 1) := by decide +kernel
theorem d12_isBarred_1 : decode prog_14_method_74_code 1 = .ok (.iload_n 1, 1) := by decide +kernel
theorem d12_isBarred_2 : decode prog_14_method_74_code 2 = .ok (.iload_n 2, 1) := by decide +kernel
theorem d12_isBarred_3 : decode prog_14_method_74_code 3 = .ok (.iload_n 3, 1) := by decide +kernel
theorem d12_isBarred_4 : decode prog_14_method_74_code 4 = .ok (.iload 4, 2) := by decide +kernel
theorem d12_isBarred_6 : decode prog_14_method_74_code 6 = .ok (.invokevirtual 432, 3) := by decide +kernel
theorem d12_isBarred_9 : decode prog_14_method_74_code 9 = .ok (.iconst 3, 1) := by decide +kernel
theorem d12_isBarred_10 : decode prog_14_method_74_code 10 = .ok (.iand, 1) := by decide +kernel
theorem d12_isBarred_11 : decode prog_14_method_74_code 11 = .ok (.ifCond .eq 7, 3) := by decide +kernel
theorem d12_isBarred_14 : decode prog_14_method_74_code 14 = .ok (.iconst 1, 1) := by decide +kernel
theorem d12_isBarred_15 : decode prog_14_method_74_code 15 = .ok (.goto 4, 3) := by decide +kernel
theorem d12_isBarred_18 : decode prog_14_method_74_code 18 = .ok (.iconst 0, 1) := by decide +kernel
theorem d12_isBarred_19 : decode prog_14_method_74_code 19 = .ok (.ireturn, 1) := by decide +kernel
theorem d12_barred_0 : decode prog_14_method_75_code 0 = .ok (.aload_n 0, 1) := by decide +kernel
theorem d12_barred_1 : decode prog_14_method_75_code 1 = .ok (.iconst 0, 1) := by decide +kernel
theorem d12_barred_2 : decode prog_14_method_75_code 2 = .ok (.putfield 1, 3) := by decide +kernel
theorem d12_barred_5 : decode prog_14_method_75_code 5 = .ok (.aload_n 0, 1) := by decide +kernel
theorem d12_barred_6 : decode prog_14_method_75_code 6 = .ok (.iload_n 1, 1) := by decide +kernel
theorem d12_barred_7 : decode prog_14_method_75_code 7 = .ok (.invokevirtual 187, 3) := by decide +kernel
theorem d12_barred_10 : decode prog_14_method_75_code 10 = .ok (.ifCond .eq 32, 3) := by decide +kernel
theorem d12_barred_13 : decode prog_14_method_75_code 13 = .ok (.iload_n 2, 1) := by decide +kernel
theorem d12_barred_14 : decode prog_14_method_75_code 14 = .ok (.invokestatic 172, 3) := by decide +kernel
theorem d12_barred_17 : decode prog_14_method_75_code 17 = .ok (.ifCond .eq 25, 3) := by decide +kernel
theorem d12_barred_20 : decode prog_14_method_75_code 20 = .ok (.aload_n 0, 1) := by decide +kernel
theorem d12_barred_21 : decode prog_14_method_75_code 21 = .ok (.iload_n 3, 1) := by decide +kernel
theorem d12_barred_22 : decode prog_14_method_75_code 22 = .ok (.iload 4, 2) := by decide +kernel
theorem d12_barred_24 : decode prog_14_method_75_code 24 = .ok (.invokevirtual 229, 3) := by decide +kernel
theorem d12_barred_27 : decode prog_14_method_75_code 27 = .ok (.ifCond .eq 15, 3) := by decide +kernel
theorem d12_barred_30 : decode prog_14_method_75_code 30 = .ok (.aload_n 0, 1) := by decide +kernel
theorem d12_barred_31 : decode prog_14_method_75_code 31 = .ok (.iload_n 1, 1) := by decide +kernel
theorem d12_barred_32 : decode prog_14_method_75_code 32 = .ok (.iload_n 2, 1) := by decide +kernel
theorem d12_barred_33 : decode prog_14_method_75_code 33 = .ok (.iload_n 3, 1) := by decide +kernel
theorem d12_barred_34 : decode prog_14_method_75_code 34 = .ok (.iload 4, 2) := by decide +kernel
theorem d12_barred_36 : decode prog_14_method_75_code 36 = .ok (.invokevirtual 432, 3) := by decide +kernel
theorem d12_barred_39 : decode prog_14_method_75_code 39 = .ok (.goto 4, 3) := by decide +kernel
theorem d12_barred_42 : decode prog_14_method_75_code 42 = .ok (.iconst (-1), 1) := by decide +kernel
theorem d12_barred_43 : decode prog_14_method_75_code 43 = .ok (.ireturn, 1) := by decide +kernel
theorem d12_word_0 : decode prog_14_method_76_code 0 = .ok (.aload_n 0, 1) := by decide +kernel
theorem d12_word_1 : decode prog_14_method_76_code 1 = .ok (.iconst 0, 1) := by decide +kernel
theorem d12_word_2 : decode prog_14_method_76_code 2 = .ok (.putfield 1, 3) := by decide +kernel
theorem d12_word_5 : decode prog_14_method_76_code 5 = .ok (.iload_n 1, 1) := by decide +kernel
theorem d12_word_6 : decode prog_14_method_76_code 6 = .ok (.iconst 0, 1) := by decide +kernel
theorem d12_word_7 : decode prog_14_method_76_code 7 = .ok (.iconst 1, 1) := by decide +kernel
theorem d12_word_8 : decode prog_14_method_76_code 8 = .ok (.invokestatic 176, 3) := by decide +kernel
theorem d12_word_11 : decode prog_14_method_76_code 11 = .ok (.ifCond .eq 43, 3) := by decide +kernel
theorem d12_word_14 : decode prog_14_method_76_code 14 = .ok (.aload_n 0, 1) := by decide +kernel
theorem d12_word_15 : decode prog_14_method_76_code 15 = .ok (.iload_n 2, 1) := by decide +kernel
theorem d12_word_16 : decode prog_14_method_76_code 16 = .ok (.invokevirtual 187, 3) := by decide +kernel
theorem d12_word_19 : decode prog_14_method_76_code 19 = .ok (.ifCond .eq 35, 3) := by decide +kernel
theorem d12_word_22 : decode prog_14_method_76_code 22 = .ok (.iload_n 3, 1) := by decide +kernel
theorem d12_word_23 : decode prog_14_method_76_code 23 = .ok (.invokestatic 172, 3) := by decide +kernel
theorem d12_word_26 : decode prog_14_method_76_code 26 = .ok (.ifCond .eq 28, 3) := by decide +kernel
theorem d12_word_29 : decode prog_14_method_76_code 29 = .ok (.aload_n 0, 1) := by decide +kernel
theorem d12_word_30 : decode prog_14_method_76_code 30 = .ok (.iload 4, 2) := by decide +kernel
theorem d12_word_32 : decode prog_14_method_76_code 32 = .ok (.iload 5, 2) := by decide +kernel
theorem d12_word_34 : decode prog_14_method_76_code 34 = .ok (.invokevirtual 229, 3) := by decide +kernel
theorem d12_word_37 : decode prog_14_method_76_code 37 = .ok (.ifCond .eq 17, 3) := by decide +kernel
theorem d12_word_40 : decode prog_14_method_76_code 40 = .ok (.aload_n 0, 1) := by decide +kernel
theorem d12_word_41 : decode prog_14_method_76_code 41 = .ok (.iload_n 1, 1) := by decide +kernel
theorem d12_word_42 : decode prog_14_method_76_code 42 = .ok (.iload_n 2, 1) := by decide +kernel
theorem d12_word_43 : decode prog_14_method_76_code 43 = .ok (.iload_n 3, 1) := by decide +kernel
theorem d12_word_44 : decode prog_14_method_76_code 44 = .ok (.iload 4, 2) := by decide +kernel
theorem d12_word_46 : decode prog_14_method_76_code 46 = .ok (.iload 5, 2) := by decide +kernel
theorem d12_word_48 : decode prog_14_method_76_code 48 = .ok (.invokevirtual 422, 3) := by decide +kernel
theorem d12_word_51 : decode prog_14_method_76_code 51 = .ok (.goto 4, 3) := by decide +kernel
theorem d12_word_54 : decode prog_14_method_76_code 54 = .ok (.iconst (-1), 1) := by decide +kernel
theorem d12_word_55 : decode prog_14_method_76_code 55 = .ok (.ireturn, 1) := by decide +kernel
theorem d12_wayOf_0 : decode prog_14_method_77_code 0 = .ok (.iconst 0, 1) := by decide +kernel
theorem d12_wayOf_1 : decode prog_14_method_77_code 1 = .ok (.istore 4, 2) := by decide +kernel
theorem d12_wayOf_3 : decode prog_14_method_77_code 3 = .ok (.iconst 0, 1) := by decide +kernel
theorem d12_wayOf_4 : decode prog_14_method_77_code 4 = .ok (.istore 5, 2) := by decide +kernel
theorem d12_wayOf_6 : decode prog_14_method_77_code 6 = .ok (.iload 5, 2) := by decide +kernel
theorem d12_wayOf_8 : decode prog_14_method_77_code 8 = .ok (.iconst 2, 1) := by decide +kernel
theorem d12_wayOf_9 : decode prog_14_method_77_code 9 = .ok (.if_icmp .ge 118, 3) := by decide +kernel
theorem d12_wayOf_12 : decode prog_14_method_77_code 12 = .ok (.iconst 0, 1) := by decide +kernel
theorem d12_wayOf_13 : decode prog_14_method_77_code 13 = .ok (.istore 6, 2) := by decide +kernel
theorem d12_wayOf_15 : decode prog_14_method_77_code 15 = .ok (.iload 6, 2) := by decide +kernel
theorem d12_wayOf_17 : decode prog_14_method_77_code 17 = .ok (.bipush 9, 2) := by decide +kernel
theorem d12_wayOf_19 : decode prog_14_method_77_code 19 = .ok (.if_icmp .ge 17, 3) := by decide +kernel
theorem d12_wayOf_22 : decode prog_14_method_77_code 22 = .ok (.aload_n 0, 1) := by decide +kernel
theorem d12_wayOf_23 : decode prog_14_method_77_code 23 = .ok (.getfield 115, 3) := by decide +kernel
theorem d12_wayOf_26 : decode prog_14_method_77_code 26 = .ok (.iload 6, 2) := by decide +kernel
theorem d12_wayOf_28 : decode prog_14_method_77_code 28 = .ok (.iconst 0, 1) := by decide +kernel
theorem d12_wayOf_29 : decode prog_14_method_77_code 29 = .ok (.iastore, 1) := by decide +kernel
theorem d12_wayOf_30 : decode prog_14_method_77_code 30 = .ok (.iinc 6 1, 3) := by decide +kernel
theorem d12_wayOf_33 : decode prog_14_method_77_code 33 = .ok (.goto (-18), 3) := by decide +kernel
theorem d12_wayOf_36 : decode prog_14_method_77_code 36 = .ok (.aload_n 0, 1) := by decide +kernel
theorem d12_wayOf_37 : decode prog_14_method_77_code 37 = .ok (.getfield 115, 3) := by decide +kernel
theorem d12_wayOf_40 : decode prog_14_method_77_code 40 = .ok (.iconst 1, 1) := by decide +kernel
theorem d12_wayOf_41 : decode prog_14_method_77_code 41 = .ok (.iload_n 1, 1) := by decide +kernel
theorem d12_wayOf_42 : decode prog_14_method_77_code 42 = .ok (.iastore, 1) := by decide +kernel
theorem d12_wayOf_43 : decode prog_14_method_77_code 43 = .ok (.aload_n 0, 1) := by decide +kernel
theorem d12_wayOf_44 : decode prog_14_method_77_code 44 = .ok (.getfield 115, 3) := by decide +kernel
theorem d12_wayOf_47 : decode prog_14_method_77_code 47 = .ok (.iconst 2, 1) := by decide +kernel
theorem d12_wayOf_48 : decode prog_14_method_77_code 48 = .ok (.aload_n 0, 1) := by decide +kernel
theorem d12_wayOf_49 : decode prog_14_method_77_code 49 = .ok (.iload_n 2, 1) := by decide +kernel
theorem d12_wayOf_50 : decode prog_14_method_77_code 50 = .ok (.iload_n 3, 1) := by decide +kernel
theorem d12_wayOf_51 : decode prog_14_method_77_code 51 = .ok (.invokevirtual 232, 3) := by decide +kernel
theorem d12_wayOf_54 : decode prog_14_method_77_code 54 = .ok (.iastore, 1) := by decide +kernel
theorem d12_wayOf_55 : decode prog_14_method_77_code 55 = .ok (.aload_n 0, 1) := by decide +kernel
theorem d12_wayOf_56 : decode prog_14_method_77_code 56 = .ok (.getfield 115, 3) := by decide +kernel
theorem d12_wayOf_59 : decode prog_14_method_77_code 59 = .ok (.iconst 4, 1) := by decide +kernel
theorem d12_wayOf_60 : decode prog_14_method_77_code 60 = .ok (.iload_n 2, 1) := by decide +kernel
theorem d12_wayOf_61 : decode prog_14_method_77_code 61 = .ok (.iastore, 1) := by decide +kernel
theorem d12_wayOf_62 : decode prog_14_method_77_code 62 = .ok (.aload_n 0, 1) := by decide +kernel
theorem d12_wayOf_63 : decode prog_14_method_77_code 63 = .ok (.iload 5, 2) := by decide +kernel
theorem d12_wayOf_65 : decode prog_14_method_77_code 65 = .ok (.iload_n 2, 1) := by decide +kernel
theorem d12_wayOf_66 : decode prog_14_method_77_code 66 = .ok (.iload_n 3, 1) := by decide +kernel
theorem d12_wayOf_67 : decode prog_14_method_77_code 67 = .ok (.invokevirtual 416, 3) := by decide +kernel
theorem d12_wayOf_70 : decode prog_14_method_77_code 70 = .ok (.istore 6, 2) := by decide +kernel
theorem d12_wayOf_72 : decode prog_14_method_77_code 72 = .ok (.aload_n 0, 1) := by decide +kernel
theorem d12_wayOf_73 : decode prog_14_method_77_code 73 = .ok (.iload 6, 2) := by decide +kernel
theorem d12_wayOf_75 : decode prog_14_method_77_code 75 = .ok (.iconst 4, 1) := by decide +kernel
theorem d12_wayOf_76 : decode prog_14_method_77_code 76 = .ok (.iconst 4, 1) := by decide +kernel
theorem d12_wayOf_77 : decode prog_14_method_77_code 77 = .ok (.invokevirtual 419, 3) := by decide +kernel
theorem d12_wayOf_80 : decode prog_14_method_77_code 80 = .ok (.istore 7, 2) := by decide +kernel
theorem d12_wayOf_82 : decode prog_14_method_77_code 82 = .ok (.iload 7, 2) := by decide +kernel
theorem d12_wayOf_84 : decode prog_14_method_77_code 84 = .ok (.iconst (-1), 1) := by decide +kernel
theorem d12_wayOf_85 : decode prog_14_method_77_code 85 = .ok (.if_icmp .eq 36, 3) := by decide +kernel
theorem d12_wayOf_88 : decode prog_14_method_77_code 88 = .ok (.aload_n 0, 1) := by decide +kernel
theorem d12_wayOf_89 : decode prog_14_method_77_code 89 = .ok (.getfield 81, 3) := by decide +kernel
theorem d12_wayOf_92 : decode prog_14_method_77_code 92 = .ok (.bipush 20, 2) := by decide +kernel
theorem d12_wayOf_94 : decode prog_14_method_77_code 94 = .ok (.iload 6, 2) := by decide +kernel
theorem d12_wayOf_96 : decode prog_14_method_77_code 96 = .ok (.imul, 1) := by decide +kernel
theorem d12_wayOf_97 : decode prog_14_method_77_code 97 = .ok (.iload 7, 2) := by decide +kernel
theorem d12_wayOf_99 : decode prog_14_method_77_code 99 = .ok (.iadd, 1) := by decide +kernel
theorem d12_wayOf_100 : decode prog_14_method_77_code 100 = .ok (.iaload, 1) := by decide +kernel
theorem d12_wayOf_101 : decode prog_14_method_77_code 101 = .ok (.iload 4, 2) := by decide +kernel
theorem d12_wayOf_103 : decode prog_14_method_77_code 103 = .ok (.if_icmp .le 18, 3) := by decide +kernel
theorem d12_wayOf_106 : decode prog_14_method_77_code 106 = .ok (.aload_n 0, 1) := by decide +kernel
theorem d12_wayOf_107 : decode prog_14_method_77_code 107 = .ok (.getfield 81, 3) := by decide +kernel
theorem d12_wayOf_110 : decode prog_14_method_77_code 110 = .ok (.bipush 20, 2) := by decide +kernel
theorem d12_wayOf_112 : decode prog_14_method_77_code 112 = .ok (.iload 6, 2) := by decide +kernel
theorem d12_wayOf_114 : decode prog_14_method_77_code 114 = .ok (.imul, 1) := by decide +kernel
theorem d12_wayOf_115 : decode prog_14_method_77_code 115 = .ok (.iload 7, 2) := by decide +kernel
theorem d12_wayOf_117 : decode prog_14_method_77_code 117 = .ok (.iadd, 1) := by decide +kernel
theorem d12_wayOf_118 : decode prog_14_method_77_code 118 = .ok (.iaload, 1) := by decide +kernel
theorem d12_wayOf_119 : decode prog_14_method_77_code 119 = .ok (.istore 4, 2) := by decide +kernel
theorem d12_wayOf_121 : decode prog_14_method_77_code 121 = .ok (.iinc 5 1, 3) := by decide +kernel
theorem d12_wayOf_124 : decode prog_14_method_77_code 124 = .ok (.goto (-118), 3) := by decide +kernel
theorem d12_wayOf_127 : decode prog_14_method_77_code 127 = .ok (.iload 4, 2) := by decide +kernel
theorem d12_wayOf_129 : decode prog_14_method_77_code 129 = .ok (.ireturn, 1) := by decide +kernel
theorem d12_way_0 : decode prog_14_method_78_code 0 = .ok (.aload_n 0, 1) := by decide +kernel
theorem d12_way_1 : decode prog_14_method_78_code 1 = .ok (.iconst 0, 1) := by decide +kernel
theorem d12_way_2 : decode prog_14_method_78_code 2 = .ok (.putfield 1, 3) := by decide +kernel
theorem d12_way_5 : decode prog_14_method_78_code 5 = .ok (.iload_n 1, 1) := by decide +kernel
theorem d12_way_6 : decode prog_14_method_78_code 6 = .ok (.iconst 0, 1) := by decide +kernel
theorem d12_way_7 : decode prog_14_method_78_code 7 = .ok (.bipush 11, 2) := by decide +kernel
theorem d12_way_9 : decode prog_14_method_78_code 9 = .ok (.invokestatic 176, 3) := by decide +kernel
theorem d12_way_12 : decode prog_14_method_78_code 12 = .ok (.ifCond .eq 22, 3) := by decide +kernel
theorem d12_way_15 : decode prog_14_method_78_code 15 = .ok (.aload_n 0, 1) := by decide +kernel
theorem d12_way_16 : decode prog_14_method_78_code 16 = .ok (.iload_n 2, 1) := by decide +kernel
theorem d12_way_17 : decode prog_14_method_78_code 17 = .ok (.iload_n 3, 1) := by decide +kernel
theorem d12_way_18 : decode prog_14_method_78_code 18 = .ok (.invokevirtual 229, 3) := by decide +kernel
theorem d12_way_21 : decode prog_14_method_78_code 21 = .ok (.ifCond .eq 13, 3) := by decide +kernel
theorem d12_way_24 : decode prog_14_method_78_code 24 = .ok (.aload_n 0, 1) := by decide +kernel
theorem d12_way_25 : decode prog_14_method_78_code 25 = .ok (.iload_n 1, 1) := by decide +kernel
theorem d12_way_26 : decode prog_14_method_78_code 26 = .ok (.iload_n 2, 1) := by decide +kernel
theorem d12_way_27 : decode prog_14_method_78_code 27 = .ok (.iload_n 3, 1) := by decide +kernel
theorem d12_way_28 : decode prog_14_method_78_code 28 = .ok (.invokevirtual 436, 3) := by decide +kernel
theorem d12_way_31 : decode prog_14_method_78_code 31 = .ok (.goto 4, 3) := by decide +kernel
theorem d12_way_34 : decode prog_14_method_78_code 34 = .ok (.iconst (-1), 1) := by decide +kernel
theorem d12_way_35 : decode prog_14_method_78_code 35 = .ok (.ireturn, 1) := by decide +kernel
theorem d12_freeLanes_0 : decode prog_14_method_79_code 0 = .ok (.iconst 0, 1) := by decide +kernel
theorem d12_freeLanes_1 : decode prog_14_method_79_code 1 = .ok (.istore_n 3, 1) := by decide +kernel
theorem d12_freeLanes_2 : decode prog_14_method_79_code 2 = .ok (.iconst 0, 1) := by decide +kernel
theorem d12_freeLanes_3 : decode prog_14_method_79_code 3 = .ok (.istore 4, 2) := by decide +kernel
theorem d12_freeLanes_5 : decode prog_14_method_79_code 5 = .ok (.iconst 0, 1) := by decide +kernel
theorem d12_freeLanes_6 : decode prog_14_method_79_code 6 = .ok (.istore 5, 2) := by decide +kernel
theorem d12_freeLanes_8 : decode prog_14_method_79_code 8 = .ok (.iload 5, 2) := by decide +kernel
theorem d12_freeLanes_10 : decode prog_14_method_79_code 10 = .ok (.bipush 6, 2) := by decide +kernel
theorem d12_freeLanes_12 : decode prog_14_method_79_code 12 = .ok (.if_icmp .ge 61, 3) := by decide +kernel
theorem d12_freeLanes_15 : decode prog_14_method_79_code 15 = .ok (.bipush 12, 2) := by decide +kernel
theorem d12_freeLanes_17 : decode prog_14_method_79_code 17 = .ok (.iload 5, 2) := by decide +kernel
theorem d12_freeLanes_19 : decode prog_14_method_79_code 19 = .ok (.imul, 1) := by decide +kernel
theorem d12_freeLanes_20 : decode prog_14_method_79_code 20 = .ok (.iload_n 1, 1) := by decide +kernel
theorem d12_freeLanes_21 : decode prog_14_method_79_code 21 = .ok (.iadd, 1) := by decide +kernel
theorem d12_freeLanes_22 : decode prog_14_method_79_code 22 = .ok (.istore 6, 2) := by decide +kernel
theorem d12_freeLanes_24 : decode prog_14_method_79_code 24 = .ok (.aload_n 0, 1) := by decide +kernel
theorem d12_freeLanes_25 : decode prog_14_method_79_code 25 = .ok (.iload 6, 2) := by decide +kernel
theorem d12_freeLanes_27 : decode prog_14_method_79_code 27 = .ok (.invokevirtual 190, 3) := by decide +kernel
theorem d12_freeLanes_30 : decode prog_14_method_79_code 30 = .ok (.iconst (-1), 1) := by decide +kernel
theorem d12_freeLanes_31 : decode prog_14_method_79_code 31 = .ok (.if_icmp .ne 20, 3) := by decide +kernel
theorem d12_freeLanes_34 : decode prog_14_method_79_code 34 = .ok (.aload_n 0, 1) := by decide +kernel
theorem d12_freeLanes_35 : decode prog_14_method_79_code 35 = .ok (.iload 6, 2) := by decide +kernel
theorem d12_freeLanes_37 : decode prog_14_method_79_code 37 = .ok (.iload_n 2, 1) := by decide +kernel
theorem d12_freeLanes_38 : decode prog_14_method_79_code 38 = .ok (.invokevirtual 197, 3) := by decide +kernel
theorem d12_freeLanes_41 : decode prog_14_method_79_code 41 = .ok (.iconst 2, 1) := by decide +kernel
theorem d12_freeLanes_42 : decode prog_14_method_79_code 42 = .ok (.if_icmp .lt 9, 3) := by decide +kernel
theorem d12_freeLanes_45 : decode prog_14_method_79_code 45 = .ok (.iload_n 3, 1) := by decide +kernel
theorem d12_freeLanes_46 : decode prog_14_method_79_code 46 = .ok (.iconst 1, 1) := by decide +kernel
theorem d12_freeLanes_47 : decode prog_14_method_79_code 47 = .ok (.iadd, 1) := by decide +kernel
theorem d12_freeLanes_48 : decode prog_14_method_79_code 48 = .ok (.goto 4, 3) := by decide +kernel
theorem d12_freeLanes_51 : decode prog_14_method_79_code 51 = .ok (.iconst 0, 1) := by decide +kernel
theorem d12_freeLanes_52 : decode prog_14_method_79_code 52 = .ok (.istore_n 3, 1) := by decide +kernel
theorem d12_freeLanes_53 : decode prog_14_method_79_code 53 = .ok (.iload_n 3, 1) := by decide +kernel
theorem d12_freeLanes_54 : decode prog_14_method_79_code 54 = .ok (.iload 4, 2) := by decide +kernel
theorem d12_freeLanes_56 : decode prog_14_method_79_code 56 = .ok (.if_icmp .le 7, 3) := by decide +kernel
theorem d12_freeLanes_59 : decode prog_14_method_79_code 59 = .ok (.iload_n 3, 1) := by decide +kernel
theorem d12_freeLanes_60 : decode prog_14_method_79_code 60 = .ok (.goto 5, 3) := by decide +kernel
theorem d12_freeLanes_63 : decode prog_14_method_79_code 63 = .ok (.iload 4, 2) := by decide +kernel
theorem d12_freeLanes_65 : decode prog_14_method_79_code 65 = .ok (.istore 4, 2) := by decide +kernel
theorem d12_freeLanes_67 : decode prog_14_method_79_code 67 = .ok (.iinc 5 1, 3) := by decide +kernel
theorem d12_freeLanes_70 : decode prog_14_method_79_code 70 = .ok (.goto (-62), 3) := by decide +kernel
theorem d12_freeLanes_73 : decode prog_14_method_79_code 73 = .ok (.iload 4, 2) := by decide +kernel
theorem d12_freeLanes_75 : decode prog_14_method_79_code 75 = .ok (.ireturn, 1) := by decide +kernel
theorem d12_kept_0 : decode prog_14_method_80_code 0 = .ok (.aload_n 0, 1) := by decide +kernel
theorem d12_kept_1 : decode prog_14_method_80_code 1 = .ok (.iconst 0, 1) := by decide +kernel
theorem d12_kept_2 : decode prog_14_method_80_code 2 = .ok (.putfield 1, 3) := by decide +kernel
theorem d12_kept_5 : decode prog_14_method_80_code 5 = .ok (.iload_n 1, 1) := by decide +kernel
theorem d12_kept_6 : decode prog_14_method_80_code 6 = .ok (.iconst 0, 1) := by decide +kernel
theorem d12_kept_7 : decode prog_14_method_80_code 7 = .ok (.bipush 11, 2) := by decide +kernel
theorem d12_kept_9 : decode prog_14_method_80_code 9 = .ok (.invokestatic 176, 3) := by decide +kernel
theorem d12_kept_12 : decode prog_14_method_80_code 12 = .ok (.ifCond .ne 5, 3) := by decide +kernel
theorem d12_kept_15 : decode prog_14_method_80_code 15 = .ok (.iconst (-1), 1) := by decide +kernel
theorem d12_kept_16 : decode prog_14_method_80_code 16 = .ok (.ireturn, 1) := by decide +kernel
theorem d12_kept_17 : decode prog_14_method_80_code 17 = .ok (.aload_n 0, 1) := by decide +kernel
theorem d12_kept_18 : decode prog_14_method_80_code 18 = .ok (.iload_n 1, 1) := by decide +kernel
theorem d12_kept_19 : decode prog_14_method_80_code 19 = .ok (.aload_n 0, 1) := by decide +kernel
theorem d12_kept_20 : decode prog_14_method_80_code 20 = .ok (.aload_n 0, 1) := by decide +kernel
theorem d12_kept_21 : decode prog_14_method_80_code 21 = .ok (.getfield 194, 3) := by decide +kernel
theorem d12_kept_24 : decode prog_14_method_80_code 24 = .ok (.aload_n 0, 1) := by decide +kernel
theorem d12_kept_25 : decode prog_14_method_80_code 25 = .ok (.getfield 194, 3) := by decide +kernel
theorem d12_kept_28 : decode prog_14_method_80_code 28 = .ok (.invokevirtual 232, 3) := by decide +kernel
theorem d12_kept_31 : decode prog_14_method_80_code 31 = .ok (.invokevirtual 439, 3) := by decide +kernel
theorem d12_kept_34 : decode prog_14_method_80_code 34 = .ok (.aload_n 0, 1) := by decide +kernel
theorem d12_kept_35 : decode prog_14_method_80_code 35 = .ok (.iload_n 1, 1) := by decide +kernel
theorem d12_kept_36 : decode prog_14_method_80_code 36 = .ok (.aload_n 0, 1) := by decide +kernel
theorem d12_kept_37 : decode prog_14_method_80_code 37 = .ok (.getfield 194, 3) := by decide +kernel
theorem d12_kept_40 : decode prog_14_method_80_code 40 = .ok (.aload_n 0, 1) := by decide +kernel
theorem d12_kept_41 : decode prog_14_method_80_code 41 = .ok (.getfield 194, 3) := by decide +kernel
theorem d12_kept_44 : decode prog_14_method_80_code 44 = .ok (.invokevirtual 436, 3) := by decide +kernel
theorem d12_kept_47 : decode prog_14_method_80_code 47 = .ok (.if_icmp .lt 7, 3) := by decide +kernel
theorem d12_kept_50 : decode prog_14_method_80_code 50 = .ok (.iconst 1, 1) := by decide +kernel
theorem d12_kept_51 : decode prog_14_method_80_code 51 = .ok (.goto 4, 3) := by decide +kernel
theorem d12_kept_54 : decode prog_14_method_80_code 54 = .ok (.iconst 0, 1) := by decide +kernel
theorem d12_kept_55 : decode prog_14_method_80_code 55 = .ok (.ireturn, 1) := by decide +kernel
theorem d12_tells_0 : decode prog_14_method_81_code 0 = .ok (.aload_n 0, 1) := by decide +kernel
theorem d12_tells_1 : decode prog_14_method_81_code 1 = .ok (.getfield 442, 3) := by decide +kernel
theorem d12_tells_4 : decode prog_14_method_81_code 4 = .ok (.sipush 300, 3) := by decide +kernel
theorem d12_tells_7 : decode prog_14_method_81_code 7 = .ok (.if_icmp .ne 4, 3) := by decide +kernel
theorem d12_tells_10 : decode prog_14_method_81_code 10 = .ok (.return_, 1) := by decide +kernel
theorem d12_tells_11 : decode prog_14_method_81_code 11 = .ok (.iconst 5, 1) := by decide +kernel
theorem d12_tells_12 : decode prog_14_method_81_code 12 = .ok (.aload_n 0, 1) := by decide +kernel
theorem d12_tells_13 : decode prog_14_method_81_code 13 = .ok (.getfield 442, 3) := by decide +kernel
theorem d12_tells_16 : decode prog_14_method_81_code 16 = .ok (.imul, 1) := by decide +kernel
theorem d12_tells_17 : decode prog_14_method_81_code 17 = .ok (.istore 5, 2) := by decide +kernel
theorem d12_tells_19 : decode prog_14_method_81_code 19 = .ok (.aload_n 0, 1) := by decide +kernel
theorem d12_tells_20 : decode prog_14_method_81_code 20 = .ok (.getfield 121, 3) := by decide +kernel
theorem d12_tells_23 : decode prog_14_method_81_code 23 = .ok (.iload 5, 2) := by decide +kernel
theorem d12_tells_25 : decode prog_14_method_81_code 25 = .ok (.aload_n 0, 1) := by decide +kernel
theorem d12_tells_26 : decode prog_14_method_81_code 26 = .ok (.getfield 194, 3) := by decide +kernel
theorem d12_tells_29 : decode prog_14_method_81_code 29 = .ok (.iastore, 1) := by decide +kernel
theorem d12_tells_30 : decode prog_14_method_81_code 30 = .ok (.aload_n 0, 1) := by decide +kernel
theorem d12_tells_31 : decode prog_14_method_81_code 31 = .ok (.getfield 121, 3) := by decide +kernel
theorem d12_tells_34 : decode prog_14_method_81_code 34 = .ok (.iload 5, 2) := by decide +kernel
theorem d12_tells_36 : decode prog_14_method_81_code 36 = .ok (.iconst 1, 1) := by decide +kernel
theorem d12_tells_37 : decode prog_14_method_81_code 37 = .ok (.iadd, 1) := by decide +kernel
theorem d12_tells_38 : decode prog_14_method_81_code 38 = .ok (.iload_n 1, 1) := by decide +kernel
theorem d12_tells_39 : decode prog_14_method_81_code 39 = .ok (.iastore, 1) := by decide +kernel
theorem d12_tells_40 : decode prog_14_method_81_code 40 = .ok (.aload_n 0, 1) := by decide +kernel
theorem d12_tells_41 : decode prog_14_method_81_code 41 = .ok (.getfield 121, 3) := by decide +kernel
theorem d12_tells_44 : decode prog_14_method_81_code 44 = .ok (.iload 5, 2) := by decide +kernel
theorem d12_tells_46 : decode prog_14_method_81_code 46 = .ok (.iconst 2, 1) := by decide +kernel
theorem d12_tells_47 : decode prog_14_method_81_code 47 = .ok (.iadd, 1) := by decide +kernel
theorem d12_tells_48 : decode prog_14_method_81_code 48 = .ok (.iload_n 2, 1) := by decide +kernel
theorem d12_tells_49 : decode prog_14_method_81_code 49 = .ok (.iastore, 1) := by decide +kernel
theorem d12_tells_50 : decode prog_14_method_81_code 50 = .ok (.aload_n 0, 1) := by decide +kernel
theorem d12_tells_51 : decode prog_14_method_81_code 51 = .ok (.getfield 121, 3) := by decide +kernel
theorem d12_tells_54 : decode prog_14_method_81_code 54 = .ok (.iload 5, 2) := by decide +kernel
theorem d12_tells_56 : decode prog_14_method_81_code 56 = .ok (.iconst 3, 1) := by decide +kernel
theorem d12_tells_57 : decode prog_14_method_81_code 57 = .ok (.iadd, 1) := by decide +kernel
theorem d12_tells_58 : decode prog_14_method_81_code 58 = .ok (.iload_n 3, 1) := by decide +kernel
theorem d12_tells_59 : decode prog_14_method_81_code 59 = .ok (.iastore, 1) := by decide +kernel
theorem d12_tells_60 : decode prog_14_method_81_code 60 = .ok (.aload_n 0, 1) := by decide +kernel
theorem d12_tells_61 : decode prog_14_method_81_code 61 = .ok (.getfield 121, 3) := by decide +kernel
theorem d12_tells_64 : decode prog_14_method_81_code 64 = .ok (.iload 5, 2) := by decide +kernel
theorem d12_tells_66 : decode prog_14_method_81_code 66 = .ok (.iconst 4, 1) := by decide +kernel
theorem d12_tells_67 : decode prog_14_method_81_code 67 = .ok (.iadd, 1) := by decide +kernel
theorem d12_tells_68 : decode prog_14_method_81_code 68 = .ok (.iload 4, 2) := by decide +kernel
theorem d12_tells_70 : decode prog_14_method_81_code 70 = .ok (.iastore, 1) := by decide +kernel
theorem d12_tells_71 : decode prog_14_method_81_code 71 = .ok (.aload_n 0, 1) := by decide +kernel
theorem d12_tells_72 : decode prog_14_method_81_code 72 = .ok (.dup, 1) := by decide +kernel
theorem d12_tells_73 : decode prog_14_method_81_code 73 = .ok (.getfield 442, 3) := by decide +kernel
theorem d12_tells_76 : decode prog_14_method_81_code 76 = .ok (.iconst 1, 1) := by decide +kernel
theorem d12_tells_77 : decode prog_14_method_81_code 77 = .ok (.iadd, 1) := by decide +kernel
theorem d12_tells_78 : decode prog_14_method_81_code 78 = .ok (.putfield 442, 3) := by decide +kernel
theorem d12_tells_81 : decode prog_14_method_81_code 81 = .ok (.return_, 1) := by decide +kernel
abbrev m12_works : MD := ("MillBoatsModel", ⟨"MillBoatsModel", "works", "(II)I"⟩, prog_14_method_66_code, 7, (some Jvm.ClassFile.FieldType.int))
theorem k12_works : okY m12_works.2.1 2 := ⟨by decide +kernel, by decide +kernel, by decide +kernel⟩
def f12_works_p145 (K19 : St → Nat → Int32 → Int32 → Int32 → Int32 → Option (Int32 × St)) (σ : St) (v0 : Nat) (v1 : Int32) (v3 : Int32) (v4 : Int32) (v5 : Int32) : Option (Int32 × St) :=
  lt (v5 + (1 : Int32)) fun y62 => (
  K19 σ v0 v1 v3 v4 y62)
set_option maxRecDepth 20000 in
theorem s12_works_p145 {K19 : St → Nat → Int32 → Int32 → Int32 → Int32 → Option (Int32 × St)} (hK19 : ∀ (σ : St) (v0 : Nat) (v1 : Int32) (v3 : Int32) (v4 : Int32) (v5 : Int32) (r : Int32) (τ : St), K19 σ v0 v1 v3 v4 v5 = some (r, τ) → Ev 4 m12_works 19 [(0, .ref v0), (1, .int v1), (3, .int v3), (4, .int v4), (5, .int v5)] [] σ (some (.int r)) τ) : ∀ (σ : St) (v0 : Nat) (v1 : Int32) (v3 : Int32) (v4 : Int32) (v5 : Int32) (r : Int32) (τ : St), f12_works_p145 K19 σ v0 v1 v3 v4 v5 = some (r, τ) → Ev 4 m12_works 145 [(0, .ref v0), (1, .int v1), (3, .int v3), (4, .int v4), (5, .int v5)] [] σ (some (.int r)) τ := by
  intro σ v0 v1 v3 v4 v5 r τ hf
  unfold f12_works_p145 at hf
  obtain ⟨y62, e63, hf⟩ := lt_some hf
  refine ev_iinc (lv2 := [(5, .int y62), (0, .ref v0), (1, .int v1), (3, .int v3), (4, .int v4)]) (i := 5) (q := 4) (v := y62) (n := 1) rfl (by rw [ci_1]; exact e63.symm) (by decide) rfl d12_works_145 ?_
  refine ev_goto (tgt := 19) (by decide) d12_works_148 ?_
  exact Ev.sub [1, 2, 3, 4, 0] rfl (hK19 _ _ _ _ _ _ _ _ hf)
def f12_works_p80 (K19 : St → Nat → Int32 → Int32 → Int32 → Int32 → Option (Int32 × St)) (σ : St) (v0 : Nat) (v1 : Int32) (v3 : Int32) (v4 : Int32) (v5 : Int32) (x0 : Int32) (x1 : Int32) (x2 : Nat) : Option (Int32 × St) :=
  gd (ob σ x2 14) (
  gd (inb σ x2 x1) (
  lt (wI σ x2 (ix x1) x0) fun t66 => (
  lt (v3 + (1 : Int32)) fun y68 => (
  f12_works_p145 K19 t66 v0 v1 y68 v4 v5))))
set_option maxRecDepth 20000 in
theorem s12_works_p80 {K19 : St → Nat → Int32 → Int32 → Int32 → Int32 → Option (Int32 × St)} (hK19 : ∀ (σ : St) (v0 : Nat) (v1 : Int32) (v3 : Int32) (v4 : Int32) (v5 : Int32) (r : Int32) (τ : St), K19 σ v0 v1 v3 v4 v5 = some (r, τ) → Ev 4 m12_works 19 [(0, .ref v0), (1, .int v1), (3, .int v3), (4, .int v4), (5, .int v5)] [] σ (some (.int r)) τ) : ∀ (σ : St) (v0 : Nat) (v1 : Int32) (v3 : Int32) (v4 : Int32) (v5 : Int32) (x0 : Int32) (x1 : Int32) (x2 : Nat) (r : Int32) (τ : St), f12_works_p80 K19 σ v0 v1 v3 v4 v5 x0 x1 x2 = some (r, τ) → Ev 4 m12_works 80 [(0, .ref v0), (1, .int v1), (3, .int v3), (4, .int v4), (5, .int v5)] [.int x0, .int x1, .ref x2] σ (some (.int r)) τ := by
  intro σ v0 v1 v3 v4 v5 x0 x1 x2 r τ hf
  unfold f12_works_p80 at hf
  obtain ⟨h64, hf⟩ := gd_some hf
  obtain ⟨h65, hf⟩ := gd_some hf
  obtain ⟨t66, e67, hf⟩ := lt_some hf
  refine ev_iast h64 h65 d12_works_80 (ev_nmS e67 ?_)
  obtain ⟨y68, e69, hf⟩ := lt_some hf
  refine ev_iinc (lv2 := [(3, .int y68), (0, .ref v0), (1, .int v1), (4, .int v4), (5, .int v5)]) (i := 3) (q := 2) (v := y68) (n := 1) rfl (by rw [ci_1]; exact e69.symm) (by decide) rfl d12_works_81 ?_
  refine ev_goto (tgt := 145) (by decide) d12_works_84 ?_
  exact Ev.sub [1, 2, 0, 3, 4] rfl (s12_works_p145 hK19 _ _ _ _ _ _ _ _ hf)
def f12_works_p19 : Nat → St → Nat → Int32 → Int32 → Int32 → Int32 → Option (Int32 × St)
  | 0, _, _, _, _, _, _ => none
  | n + 1, σ, v0, v1, v3, v4, v5 =>
  gd (ob σ v0 12) (
  lt (sR σ v0 30) fun b12 => (
  gd (nz b12) (
  gd (ob σ b12 14) (
  gd (inb σ b12 v4) (
  (if v5 < (sI σ b12 (ix v4)) then
  lt (sR σ v0 23) fun b18 => (
  gd (nz b18) (
  gd (ob σ b18 14) (
  gd (inb σ b18 (((420 : Int32) * v1) + v5)) (
  lt (sI σ b18 (ix (((420 : Int32) * v1) + v5))) fun y23 => (
  (if y23 < (0 : Int32) then
  (if y23 = (-9 : Int32) then
  lt (sR σ v0 48) fun b27 => (
  gd (nz b27) (
  gd (ob σ b27 14) (
  gd (inb σ b27 (v3 - (1 : Int32))) (
  lt (wI σ b27 (ix (v3 - (1 : Int32))) ((1 : Int32) - (sI σ b27 (ix (v3 - (1 : Int32)))))) fun t32 => (
  f12_works_p145 (f12_works_p19 n) t32 v0 v1 v3 v4 v5)))))
  else
  lt (v3 + (-1 : Int32)) fun y34 => (
  lt (sR σ v0 48) fun b36 => (
  gd (nz b36) (
  gd (ob σ b36 14) (
  gd (inb σ b36 (y34 - (1 : Int32))) (
  gd (inb σ b36 y34) (
  bd (f12_joined σ y23 (sI σ b36 (ix (y34 - (1 : Int32)))) (sI σ b36 (ix y34))) fun r42 t43 => (
  lt (wI t43 b36 (ix (y34 - (1 : Int32))) r42) fun t46 => (
  f12_works_p145 (f12_works_p19 n) t46 v0 v1 y34 v4 v5)))))))))
  else
  lt (sR σ v0 48) fun b48 => (
  gd (nz b48) (
  (if y23 < (10000 : Int32) then
  f12_works_p80 (f12_works_p19 n) σ v0 v1 v3 v4 v5 y23 v3 b48
  else
  lt (sR σ v0 47) fun b52 => (
  gd (nz b52) (
  gd (ob σ b52 14) (
  gd (inb σ b52 (y23 - (10000 : Int32))) (
  f12_works_p80 (f12_works_p19 n) σ v0 v1 v3 v4 v5 (sI σ b52 (ix (y23 - (10000 : Int32)))) v3 b48)))))))))))))
  else
  lt (sR σ v0 48) fun b57 => (
  gd (nz b57) (
  gd (ob σ b57 14) (
  gd (inb σ b57 (0 : Int32)) (
  some (sI σ b57 (ix (0 : Int32)), σ)))))))))))
set_option maxRecDepth 20000 in
theorem s12_works_p19 : ∀ (n : Nat) (σ : St) (v0 : Nat) (v1 : Int32) (v3 : Int32) (v4 : Int32) (v5 : Int32) (r : Int32) (τ : St), f12_works_p19 n σ v0 v1 v3 v4 v5 = some (r, τ) → Ev 4 m12_works 19 [(0, .ref v0), (1, .int v1), (3, .int v3), (4, .int v4), (5, .int v5)] [] σ (some (.int r)) τ := by
  intro n
  induction n with
  | zero =>
    intro σ v0 v1 v3 v4 v5 r τ hf
    cases hf
  | succ n ih =>
    intro σ v0 v1 v3 v4 v5 r τ hf
    rw [f12_works_p19] at hf
    refine ev_iload (i := 5) (q := 4) rfl d12_works_19 ?_
    refine ev_aload_n (j := 0) (i := 0) (q := 0) rfl rfl d12_works_21 ?_
    obtain ⟨h11, hf⟩ := gd_some hf
    obtain ⟨b12, e13, hf⟩ := lt_some hf
    obtain ⟨h14, hf⟩ := gd_some hf
    refine ev_getRb cls12 (j := 30) (by decide) rfl w1281 h11 e13 (nz_ne h14) d12_works_22 ?_
    refine ev_iload (i := 4) (q := 3) rfl d12_works_25 ?_
    obtain ⟨h15, hf⟩ := gd_some hf
    obtain ⟨h16, hf⟩ := gd_some hf
    refine ev_iald h15 h16 d12_works_27 ?_
    rcases ite_some hf with ⟨c17, hf⟩ | ⟨c17, hf⟩
    · refine ev_icmp_ge_P (tgt := 151) c17 (by decide) d12_works_28 ?_
      refine ev_aload_n (j := 0) (i := 0) (q := 0) rfl rfl d12_works_31 ?_
      obtain ⟨b18, e19, hf⟩ := lt_some hf
      obtain ⟨h20, hf⟩ := gd_some hf
      refine ev_getRb cls12 (j := 23) (by decide) rfl w1274 h11 e19 (nz_ne h20) d12_works_32 ?_
      refine ev_sipush cs_420 d12_works_35 ?_
      refine ev_iload_n (j := 1) (i := 1) (q := 1) rfl rfl d12_works_38 ?_
      refine ev_imul d12_works_39 ?_
      refine ev_iload (i := 5) (q := 4) rfl d12_works_40 ?_
      refine ev_iadd d12_works_42 ?_
      obtain ⟨h21, hf⟩ := gd_some hf
      obtain ⟨h22, hf⟩ := gd_some hf
      refine ev_iald h21 h22 d12_works_43 ?_
      obtain ⟨y23, e24, hf⟩ := lt_some hf
      refine ev_nmI e24 ?_
      refine ev_istore (lv2 := [(6, .int y23), (0, .ref v0), (1, .int v1), (3, .int v3), (4, .int v4), (5, .int v5)]) (i := 6) (by decide) rfl d12_works_44 ?_
      refine ev_iload (i := 6) (q := 0) rfl d12_works_46 ?_
      rcases ite_some hf with ⟨c25, hf⟩ | ⟨c25, hf⟩
      · refine ev_if_lt_P (tgt := 87) c25 (by decide) d12_works_48 ?_
        refine ev_iload (i := 6) (q := 0) rfl d12_works_87 ?_
        refine ev_bipush cb_m9 d12_works_89 ?_
        rcases ite_some hf with ⟨c26, hf⟩ | ⟨c26, hf⟩
        · refine ev_icmp_ne_P (tgt := 115) c26 (by decide) d12_works_91 ?_
          refine ev_aload_n (j := 0) (i := 0) (q := 1) rfl rfl d12_works_94 ?_
          obtain ⟨b27, e28, hf⟩ := lt_some hf
          obtain ⟨h29, hf⟩ := gd_some hf
          refine ev_getRb cls12 (j := 48) (by decide) rfl w1299 h11 e28 (nz_ne h29) d12_works_95 ?_
          refine ev_iload_n (j := 3) (i := 3) (q := 3) rfl rfl d12_works_98 ?_
          refine ev_iconst ci_1 d12_works_99 ?_
          refine ev_isub d12_works_100 ?_
          refine ev_iconst ci_1 d12_works_101 ?_
          refine ev_aload_n (j := 0) (i := 0) (q := 1) rfl rfl d12_works_102 ?_
          refine ev_getRb cls12 (j := 48) (by decide) rfl w1299 h11 e28 (nz_ne h29) d12_works_103 ?_
          refine ev_iload_n (j := 3) (i := 3) (q := 3) rfl rfl d12_works_106 ?_
          refine ev_iconst ci_1 d12_works_107 ?_
          refine ev_isub d12_works_108 ?_
          obtain ⟨h30, hf⟩ := gd_some hf
          obtain ⟨h31, hf⟩ := gd_some hf
          refine ev_iald h30 h31 d12_works_109 ?_
          refine ev_isub d12_works_110 ?_
          obtain ⟨t32, e33, hf⟩ := lt_some hf
          refine ev_iast h30 h31 d12_works_111 (ev_nmS e33 ?_)
          refine ev_goto (tgt := 145) (by decide) d12_works_112 ?_
          exact Ev.sub [1, 2, 3, 4, 5] rfl (s12_works_p145 ih _ _ _ _ _ _ _ _ hf)
        · refine ev_icmp_ne_Q (tgt := 115) c26 (by decide) d12_works_91 ?_
          obtain ⟨y34, e35, hf⟩ := lt_some hf
          refine ev_iinc (lv2 := [(3, .int y34), (6, .int y23), (0, .ref v0), (1, .int v1), (4, .int v4), (5, .int v5)]) (i := 3) (q := 3) (v := y34) (n := -1) rfl (by rw [ci_m1]; exact e35.symm) (by decide) rfl d12_works_115 ?_
          refine ev_aload_n (j := 0) (i := 0) (q := 2) rfl rfl d12_works_118 ?_
          obtain ⟨b36, e37, hf⟩ := lt_some hf
          obtain ⟨h38, hf⟩ := gd_some hf
          refine ev_getRb cls12 (j := 48) (by decide) rfl w1299 h11 e37 (nz_ne h38) d12_works_119 ?_
          refine ev_iload_n (j := 3) (i := 3) (q := 0) rfl rfl d12_works_122 ?_
          refine ev_iconst ci_1 d12_works_123 ?_
          refine ev_isub d12_works_124 ?_
          refine ev_iload (i := 6) (q := 1) rfl d12_works_125 ?_
          refine ev_aload_n (j := 0) (i := 0) (q := 2) rfl rfl d12_works_127 ?_
          refine ev_getRb cls12 (j := 48) (by decide) rfl w1299 h11 e37 (nz_ne h38) d12_works_128 ?_
          refine ev_iload_n (j := 3) (i := 3) (q := 0) rfl rfl d12_works_131 ?_
          refine ev_iconst ci_1 d12_works_132 ?_
          refine ev_isub d12_works_133 ?_
          obtain ⟨h39, hf⟩ := gd_some hf
          obtain ⟨h40, hf⟩ := gd_some hf
          refine ev_iald h39 h40 d12_works_134 ?_
          refine ev_aload_n (j := 0) (i := 0) (q := 2) rfl rfl d12_works_135 ?_
          refine ev_getRb cls12 (j := 48) (by decide) rfl w1299 h11 e37 (nz_ne h38) d12_works_136 ?_
          refine ev_iload_n (j := 3) (i := 3) (q := 0) rfl rfl d12_works_139 ?_
          obtain ⟨h41, hf⟩ := gd_some hf
          refine ev_iald h39 h41 d12_works_140 ?_
          obtain ⟨r42, t43, k44, hf⟩ := bd_some hf
          have q45 := s12_joined _ _ _ _ _ _ k44
          refine ev_callS (vs := [.int y23, .int (sI σ b36 (ix (y34 - (1 : Int32)))), .int (sI σ b36 (ix y34))]) (sk := [.int (y34 - (1 : Int32)), .ref b36]) q45 (by decide) (Nat.le_of_ble_eq_true rfl) w1785 w1786 w19 w1787 k12_joined rfl (Nat.le_of_ble_eq_true rfl) d12_works_141 ?_
          obtain ⟨t46, e47, hf⟩ := lt_some hf
          refine ev_iast (mono_ob q45.1 h39) (inb_m q45.1 h39 h40) d12_works_144 (ev_nmS e47 ?_)
          exact Ev.sub [2, 3, 0, 4, 5] rfl (s12_works_p145 ih _ _ _ _ _ _ _ _ hf)
      · refine ev_if_lt_Q (tgt := 87) c25 (by decide) d12_works_48 ?_
        refine ev_aload_n (j := 0) (i := 0) (q := 1) rfl rfl d12_works_51 ?_
        obtain ⟨b48, e49, hf⟩ := lt_some hf
        obtain ⟨h50, hf⟩ := gd_some hf
        refine ev_getRb cls12 (j := 48) (by decide) rfl w1299 h11 e49 (nz_ne h50) d12_works_52 ?_
        refine ev_iload_n (j := 3) (i := 3) (q := 3) rfl rfl d12_works_55 ?_
        refine ev_iload (i := 6) (q := 0) rfl d12_works_56 ?_
        refine ev_sipush cs_10000 d12_works_58 ?_
        rcases ite_some hf with ⟨c51, hf⟩ | ⟨c51, hf⟩
        · refine ev_icmp_lt_P (tgt := 78) c51 (by decide) d12_works_61 ?_
          refine ev_iload (i := 6) (q := 0) rfl d12_works_78 ?_
          exact Ev.sub [1, 2, 3, 4, 5] rfl (s12_works_p80 ih _ _ _ _ _ _ _ _ _ _ _ hf)
        · refine ev_icmp_lt_Q (tgt := 78) c51 (by decide) d12_works_61 ?_
          refine ev_aload_n (j := 0) (i := 0) (q := 1) rfl rfl d12_works_64 ?_
          obtain ⟨b52, e53, hf⟩ := lt_some hf
          obtain ⟨h54, hf⟩ := gd_some hf
          refine ev_getRb cls12 (j := 47) (by decide) rfl w1298 h11 e53 (nz_ne h54) d12_works_65 ?_
          refine ev_iload (i := 6) (q := 0) rfl d12_works_68 ?_
          refine ev_sipush cs_10000 d12_works_70 ?_
          refine ev_isub d12_works_73 ?_
          obtain ⟨h55, hf⟩ := gd_some hf
          obtain ⟨h56, hf⟩ := gd_some hf
          refine ev_iald h55 h56 d12_works_74 ?_
          refine ev_goto (tgt := 80) (by decide) d12_works_75 ?_
          exact Ev.sub [1, 2, 3, 4, 5] rfl (s12_works_p80 ih _ _ _ _ _ _ _ _ _ _ _ hf)
    · refine ev_icmp_ge_Q (tgt := 151) c17 (by decide) d12_works_28 ?_
      refine ev_aload_n (j := 0) (i := 0) (q := 0) rfl rfl d12_works_151 ?_
      obtain ⟨b57, e58, hf⟩ := lt_some hf
      obtain ⟨h59, hf⟩ := gd_some hf
      refine ev_getRb cls12 (j := 48) (by decide) rfl w1299 h11 e58 (nz_ne h59) d12_works_152 ?_
      refine ev_iconst ci_0 d12_works_155 ?_
      obtain ⟨h60, hf⟩ := gd_some hf
      obtain ⟨h61, hf⟩ := gd_some hf
      refine ev_iald h60 h61 d12_works_156 ?_
      obtain ⟨rfl, rfl⟩ := ret_some hf
      exact ev_iret rfl d12_works_157
def f12_works (σ : St) (v0 : Nat) (v1 : Int32) (v2 : Int32) : Option (Int32 × St) :=
  lt (((20 : Int32) * v1) + v2) fun y1 => (
  gd (ob σ v0 12) (
  lt (sR σ v0 29) fun b4 => (
  gd (nz b4) (
  gd (ob σ b4 14) (
  gd (inb σ b4 y1) (
  lt (sI σ b4 (ix y1)) fun y9 => (
  f12_works_p19 FU σ v0 v1 (0 : Int32) y1 y9)))))))
set_option maxRecDepth 50000 in
theorem s12_works : ∀ (σ : St) (v0 : Nat) (v1 : Int32) (v2 : Int32) (r : Int32) (τ : St), f12_works σ v0 v1 v2 = some (r, τ) → Call 4 m12_works [.ref v0, .int v1, .int v2] σ (some (.int r)) τ := by
  intro σ v0 v1 v2 r τ hf
  unfold f12_works at hf
  refine Call.of (by decide +kernel) rfl (Nat.le_of_ble_eq_true rfl) ?_
  refine ev_iconst ci_0 d12_works_0 ?_
  refine ev_istore_n (lv2 := [(3, .int (0 : Int32)), (0, .ref v0), (1, .int v1), (2, .int v2)]) (j := 3) (i := 3) rfl (by decide) rfl d12_works_1 ?_
  refine ev_bipush cb_20 d12_works_2 ?_
  refine ev_iload_n (j := 1) (i := 1) (q := 2) rfl rfl d12_works_4 ?_
  refine ev_imul d12_works_5 ?_
  refine ev_iload_n (j := 2) (i := 2) (q := 3) rfl rfl d12_works_6 ?_
  refine ev_iadd d12_works_7 ?_
  obtain ⟨y1, e2, hf⟩ := lt_some hf
  refine ev_nmI e2 ?_
  refine ev_istore (lv2 := [(4, .int y1), (3, .int (0 : Int32)), (0, .ref v0), (1, .int v1), (2, .int v2)]) (i := 4) (by decide) rfl d12_works_8 ?_
  refine ev_aload_n (j := 0) (i := 0) (q := 2) rfl rfl d12_works_10 ?_
  obtain ⟨h3, hf⟩ := gd_some hf
  obtain ⟨b4, e5, hf⟩ := lt_some hf
  obtain ⟨h6, hf⟩ := gd_some hf
  refine ev_getRb cls12 (j := 29) (by decide) rfl w1280 h3 e5 (nz_ne h6) d12_works_11 ?_
  refine ev_iload (i := 4) (q := 0) rfl d12_works_14 ?_
  obtain ⟨h7, hf⟩ := gd_some hf
  obtain ⟨h8, hf⟩ := gd_some hf
  refine ev_iald h7 h8 d12_works_16 ?_
  obtain ⟨y9, e10, hf⟩ := lt_some hf
  refine ev_nmI e10 ?_
  refine ev_istore (lv2 := [(5, .int y9), (4, .int y1), (3, .int (0 : Int32)), (0, .ref v0), (1, .int v1), (2, .int v2)]) (i := 5) (by decide) rfl d12_works_17 ?_
  exact Ev.sub [3, 4, 2, 1, 0] rfl (s12_works_p19 FU _ _ _ _ _ _ _ _ hf)
abbrev m12_last : MD := ("MillBoatsModel", ⟨"MillBoatsModel", "last", "(III)I"⟩, prog_14_method_68_code, 8, (some Jvm.ClassFile.FieldType.int))
theorem k12_last : okY m12_last.2.1 3 := ⟨by decide +kernel, by decide +kernel, by decide +kernel⟩
def f12_last_p94 (K9 : St → Nat → Int32 → Int32 → Int32 → Int32 → Int32 → Int32 → Option (Int32 × St)) (σ : St) (v0 : Nat) (v1 : Int32) (v2 : Int32) (v3 : Int32) (v4 : Int32) (v5 : Int32) (v6 : Int32) : Option (Int32 × St) :=
  lt (v6 + (1 : Int32)) fun y32 => (
  K9 σ v0 v1 v2 v3 v4 v5 y32)
set_option maxRecDepth 20000 in
theorem s12_last_p94 {K9 : St → Nat → Int32 → Int32 → Int32 → Int32 → Int32 → Int32 → Option (Int32 × St)} (hK9 : ∀ (σ : St) (v0 : Nat) (v1 : Int32) (v2 : Int32) (v3 : Int32) (v4 : Int32) (v5 : Int32) (v6 : Int32) (r : Int32) (τ : St), K9 σ v0 v1 v2 v3 v4 v5 v6 = some (r, τ) → Ev 5 m12_last 9 [(0, .ref v0), (1, .int v1), (2, .int v2), (3, .int v3), (4, .int v4), (5, .int v5), (6, .int v6)] [] σ (some (.int r)) τ) : ∀ (σ : St) (v0 : Nat) (v1 : Int32) (v2 : Int32) (v3 : Int32) (v4 : Int32) (v5 : Int32) (v6 : Int32) (r : Int32) (τ : St), f12_last_p94 K9 σ v0 v1 v2 v3 v4 v5 v6 = some (r, τ) → Ev 5 m12_last 94 [(0, .ref v0), (1, .int v1), (2, .int v2), (3, .int v3), (4, .int v4), (5, .int v5), (6, .int v6)] [] σ (some (.int r)) τ := by
  intro σ v0 v1 v2 v3 v4 v5 v6 r τ hf
  unfold f12_last_p94 at hf
  obtain ⟨y32, e33, hf⟩ := lt_some hf
  refine ev_iinc (lv2 := [(6, .int y32), (0, .ref v0), (1, .int v1), (2, .int v2), (3, .int v3), (4, .int v4), (5, .int v5)]) (i := 6) (q := 6) (v := y32) (n := 1) rfl (by rw [ci_1]; exact e33.symm) (by decide) rfl d12_last_94 ?_
  refine ev_goto (tgt := 9) (by decide) d12_last_97 ?_
  exact Ev.sub [1, 2, 3, 4, 5, 6, 0] rfl (hK9 _ _ _ _ _ _ _ _ _ _ hf)
def f12_last_p79 (K9 : St → Nat → Int32 → Int32 → Int32 → Int32 → Int32 → Int32 → Option (Int32 × St)) (σ : St) (v0 : Nat) (v1 : Int32) (v2 : Int32) (v3 : Int32) (v4 : Int32) (v5 : Int32) (v6 : Int32) : Option (Int32 × St) :=
  gd (ob σ v0 12) (
  bd (f12_works σ v0 v1 v6) fun r35 t36 => (
  (if r35 = (1 : Int32) then
  f12_last_p94 K9 t36 v0 v1 v2 v3 v6 v5 v6
  else
  f12_last_p94 K9 t36 v0 v1 v2 v3 v4 v5 v6)))
set_option maxRecDepth 20000 in
theorem s12_last_p79 {K9 : St → Nat → Int32 → Int32 → Int32 → Int32 → Int32 → Int32 → Option (Int32 × St)} (hK9 : ∀ (σ : St) (v0 : Nat) (v1 : Int32) (v2 : Int32) (v3 : Int32) (v4 : Int32) (v5 : Int32) (v6 : Int32) (r : Int32) (τ : St), K9 σ v0 v1 v2 v3 v4 v5 v6 = some (r, τ) → Ev 5 m12_last 9 [(0, .ref v0), (1, .int v1), (2, .int v2), (3, .int v3), (4, .int v4), (5, .int v5), (6, .int v6)] [] σ (some (.int r)) τ) : ∀ (σ : St) (v0 : Nat) (v1 : Int32) (v2 : Int32) (v3 : Int32) (v4 : Int32) (v5 : Int32) (v6 : Int32) (r : Int32) (τ : St), f12_last_p79 K9 σ v0 v1 v2 v3 v4 v5 v6 = some (r, τ) → Ev 5 m12_last 79 [(0, .ref v0), (1, .int v1), (2, .int v2), (3, .int v3), (4, .int v4), (5, .int v5), (6, .int v6)] [] σ (some (.int r)) τ := by
  intro σ v0 v1 v2 v3 v4 v5 v6 r τ hf
  unfold f12_last_p79 at hf
  refine ev_aload_n (j := 0) (i := 0) (q := 0) rfl rfl d12_last_79 ?_
  refine ev_iload_n (j := 1) (i := 1) (q := 1) rfl rfl d12_last_80 ?_
  refine ev_iload (i := 6) (q := 6) rfl d12_last_81 ?_
  obtain ⟨h34, hf⟩ := gd_some hf
  obtain ⟨r35, t36, k37, hf⟩ := bd_some hf
  have q38 := s12_works _ _ _ _ _ _ k37
  refine ev_callV (vs := [.int v1, .int v6]) (sk := []) cls12 h34 q38 (by decide) (Nat.le_of_ble_eq_true rfl) w1781 w1783 ws95 w19 w1784 k12_works rfl (Nat.le_of_ble_eq_true rfl) d12_last_83 ?_
  refine ev_iconst ci_1 d12_last_86 ?_
  rcases ite_some hf with ⟨c39, hf⟩ | ⟨c39, hf⟩
  · refine ev_icmp_ne_P (tgt := 94) c39 (by decide) d12_last_87 ?_
    refine ev_iload (i := 6) (q := 6) rfl d12_last_90 ?_
    refine ev_istore (lv2 := [(4, .int v6), (0, .ref v0), (1, .int v1), (2, .int v2), (3, .int v3), (5, .int v5), (6, .int v6)]) (i := 4) (by decide) rfl d12_last_92 ?_
    exact Ev.sub [1, 2, 3, 4, 0, 5, 6] rfl (s12_last_p94 hK9 _ _ _ _ _ _ _ _ _ _ hf)
  · refine ev_icmp_ne_Q (tgt := 94) c39 (by decide) d12_last_87 ?_
    exact Ev.sub [0, 1, 2, 3, 4, 5, 6] rfl (s12_last_p94 hK9 _ _ _ _ _ _ _ _ _ _ hf)
def f12_last_p9 : Nat → St → Nat → Int32 → Int32 → Int32 → Int32 → Int32 → Int32 → Option (Int32 × St)
  | 0, _, _, _, _, _, _, _, _ => none
  | n + 1, σ, v0, v1, v2, v3, v4, v5, v6 =>
  (if v1 = (-1 : Int32) then
  some (v4, σ)
  else
  gd (ob σ v0 12) (
  lt (sR σ v0 25) fun b3 => (
  gd (nz b3) (
  gd (ob σ b3 14) (
  gd (inb σ b3 v1) (
  (if v6 < (sI σ b3 (ix v1)) then
  lt (sR σ v0 26) fun b9 => (
  gd (nz b9) (
  gd (ob σ b9 14) (
  gd (inb σ b9 (((20 : Int32) * v1) + v6)) (
  lt (sI σ b9 (ix (((20 : Int32) * v1) + v6))) fun y14 => (
  (if y14 = (0 : Int32) then
  lt (sR σ v0 47) fun b17 => (
  gd (nz b17) (
  bd (f12_works σ v0 v1 v6) fun r20 t21 => (
  gd (ob t21 b17 14) (
  gd (inb t21 b17 ((9 : Int32) + v5)) (
  lt (wI t21 b17 (ix ((9 : Int32) + v5)) r20) fun t26 => (
  lt (v5 + (1 : Int32)) fun y28 => (
  f12_last_p94 (f12_last_p9 n) t26 v0 v1 v2 v3 v4 y28 v6)))))))
  else
  (if y14 = v2 then
  f12_last_p79 (f12_last_p9 n) σ v0 v1 v2 v3 v4 v5 v6
  else
  (if y14 = v3 then
  f12_last_p79 (f12_last_p9 n) σ v0 v1 v2 v3 v4 v5 v6
  else
  f12_last_p94 (f12_last_p9 n) σ v0 v1 v2 v3 v4 v5 v6))))))))
  else
  some (v4, σ))))))))
set_option maxRecDepth 20000 in
theorem s12_last_p9 : ∀ (n : Nat) (σ : St) (v0 : Nat) (v1 : Int32) (v2 : Int32) (v3 : Int32) (v4 : Int32) (v5 : Int32) (v6 : Int32) (r : Int32) (τ : St), f12_last_p9 n σ v0 v1 v2 v3 v4 v5 v6 = some (r, τ) → Ev 5 m12_last 9 [(0, .ref v0), (1, .int v1), (2, .int v2), (3, .int v3), (4, .int v4), (5, .int v5), (6, .int v6)] [] σ (some (.int r)) τ := by
  intro n
  induction n with
  | zero =>
    intro σ v0 v1 v2 v3 v4 v5 v6 r τ hf
    cases hf
  | succ n ih =>
    intro σ v0 v1 v2 v3 v4 v5 v6 r τ hf
    rw [f12_last_p9] at hf
    refine ev_iload_n (j := 1) (i := 1) (q := 1) rfl rfl d12_last_9 ?_
    refine ev_iconst ci_m1 d12_last_10 ?_
    rcases ite_some hf with ⟨c1, hf⟩ | ⟨c1, hf⟩
    · refine ev_icmp_eq_P (tgt := 100) c1 (by decide) d12_last_11 ?_
      refine ev_iload (i := 4) (q := 4) rfl d12_last_100 ?_
      obtain ⟨rfl, rfl⟩ := ret_some hf
      exact ev_iret rfl d12_last_102
    · refine ev_icmp_eq_Q (tgt := 100) c1 (by decide) d12_last_11 ?_
      refine ev_iload (i := 6) (q := 6) rfl d12_last_14 ?_
      refine ev_aload_n (j := 0) (i := 0) (q := 0) rfl rfl d12_last_16 ?_
      obtain ⟨h2, hf⟩ := gd_some hf
      obtain ⟨b3, e4, hf⟩ := lt_some hf
      obtain ⟨h5, hf⟩ := gd_some hf
      refine ev_getRb cls12 (j := 25) (by decide) rfl w1276 h2 e4 (nz_ne h5) d12_last_17 ?_
      refine ev_iload_n (j := 1) (i := 1) (q := 1) rfl rfl d12_last_20 ?_
      obtain ⟨h6, hf⟩ := gd_some hf
      obtain ⟨h7, hf⟩ := gd_some hf
      refine ev_iald h6 h7 d12_last_21 ?_
      rcases ite_some hf with ⟨c8, hf⟩ | ⟨c8, hf⟩
      · refine ev_icmp_ge_P (tgt := 100) c8 (by decide) d12_last_22 ?_
        refine ev_aload_n (j := 0) (i := 0) (q := 0) rfl rfl d12_last_25 ?_
        obtain ⟨b9, e10, hf⟩ := lt_some hf
        obtain ⟨h11, hf⟩ := gd_some hf
        refine ev_getRb cls12 (j := 26) (by decide) rfl w1277 h2 e10 (nz_ne h11) d12_last_26 ?_
        refine ev_bipush cb_20 d12_last_29 ?_
        refine ev_iload_n (j := 1) (i := 1) (q := 1) rfl rfl d12_last_31 ?_
        refine ev_imul d12_last_32 ?_
        refine ev_iload (i := 6) (q := 6) rfl d12_last_33 ?_
        refine ev_iadd d12_last_35 ?_
        obtain ⟨h12, hf⟩ := gd_some hf
        obtain ⟨h13, hf⟩ := gd_some hf
        refine ev_iald h12 h13 d12_last_36 ?_
        obtain ⟨y14, e15, hf⟩ := lt_some hf
        refine ev_nmI e15 ?_
        refine ev_istore (lv2 := [(7, .int y14), (0, .ref v0), (1, .int v1), (2, .int v2), (3, .int v3), (4, .int v4), (5, .int v5), (6, .int v6)]) (i := 7) (by decide) rfl d12_last_37 ?_
        refine ev_iload (i := 7) (q := 0) rfl d12_last_39 ?_
        rcases ite_some hf with ⟨c16, hf⟩ | ⟨c16, hf⟩
        · refine ev_if_ne_P (tgt := 67) c16 (by decide) d12_last_41 ?_
          refine ev_aload_n (j := 0) (i := 0) (q := 1) rfl rfl d12_last_44 ?_
          obtain ⟨b17, e18, hf⟩ := lt_some hf
          obtain ⟨h19, hf⟩ := gd_some hf
          refine ev_getRb cls12 (j := 47) (by decide) rfl w1298 h2 e18 (nz_ne h19) d12_last_45 ?_
          refine ev_bipush cb_9 d12_last_48 ?_
          refine ev_iload (i := 5) (q := 6) rfl d12_last_50 ?_
          refine ev_iadd d12_last_52 ?_
          refine ev_aload_n (j := 0) (i := 0) (q := 1) rfl rfl d12_last_53 ?_
          refine ev_iload_n (j := 1) (i := 1) (q := 2) rfl rfl d12_last_54 ?_
          refine ev_iload (i := 6) (q := 7) rfl d12_last_55 ?_
          obtain ⟨r20, t21, k22, hf⟩ := bd_some hf
          have q23 := s12_works _ _ _ _ _ _ k22
          refine ev_callV (vs := [.int v1, .int v6]) (sk := [.int ((9 : Int32) + v5), .ref b17]) cls12 h2 q23 (by decide) (Nat.le_of_ble_eq_true rfl) w1781 w1783 ws95 w19 w1784 k12_works rfl (Nat.le_of_ble_eq_true rfl) d12_last_57 ?_
          obtain ⟨h24, hf⟩ := gd_some hf
          obtain ⟨h25, hf⟩ := gd_some hf
          obtain ⟨t26, e27, hf⟩ := lt_some hf
          refine ev_iast h24 h25 d12_last_60 (ev_nmS e27 ?_)
          obtain ⟨y28, e29, hf⟩ := lt_some hf
          refine ev_iinc (lv2 := [(5, .int y28), (7, .int y14), (0, .ref v0), (1, .int v1), (2, .int v2), (3, .int v3), (4, .int v4), (6, .int v6)]) (i := 5) (q := 6) (v := y28) (n := 1) rfl (by rw [ci_1]; exact e29.symm) (by decide) rfl d12_last_61 ?_
          refine ev_goto (tgt := 94) (by decide) d12_last_64 ?_
          exact Ev.sub [2, 3, 4, 5, 6, 0, 7] rfl (s12_last_p94 ih _ _ _ _ _ _ _ _ _ _ hf)
        · refine ev_if_ne_Q (tgt := 67) c16 (by decide) d12_last_41 ?_
          refine ev_iload (i := 7) (q := 0) rfl d12_last_67 ?_
          refine ev_iload_n (j := 2) (i := 2) (q := 3) rfl rfl d12_last_69 ?_
          rcases ite_some hf with ⟨c30, hf⟩ | ⟨c30, hf⟩
          · refine ev_icmp_eq_P (tgt := 79) c30 (by decide) d12_last_70 ?_
            exact Ev.sub [1, 2, 3, 4, 5, 6, 7] rfl (s12_last_p79 ih _ _ _ _ _ _ _ _ _ _ hf)
          · refine ev_icmp_eq_Q (tgt := 79) c30 (by decide) d12_last_70 ?_
            refine ev_iload (i := 7) (q := 0) rfl d12_last_73 ?_
            refine ev_iload_n (j := 3) (i := 3) (q := 4) rfl rfl d12_last_75 ?_
            rcases ite_some hf with ⟨c31, hf⟩ | ⟨c31, hf⟩
            · refine ev_icmp_ne_P (tgt := 94) c31 (by decide) d12_last_76 ?_
              exact Ev.sub [1, 2, 3, 4, 5, 6, 7] rfl (s12_last_p79 ih _ _ _ _ _ _ _ _ _ _ hf)
            · refine ev_icmp_ne_Q (tgt := 94) c31 (by decide) d12_last_76 ?_
              exact Ev.sub [1, 2, 3, 4, 5, 6, 7] rfl (s12_last_p94 ih _ _ _ _ _ _ _ _ _ _ hf)
      · refine ev_icmp_ge_Q (tgt := 100) c8 (by decide) d12_last_22 ?_
        refine ev_iload (i := 4) (q := 4) rfl d12_last_100 ?_
        obtain ⟨rfl, rfl⟩ := ret_some hf
        exact ev_iret rfl d12_last_102
def f12_last (σ : St) (v0 : Nat) (v1 : Int32) (v2 : Int32) (v3 : Int32) : Option (Int32 × St) :=
  f12_last_p9 FU σ v0 v1 v2 v3 (-1 : Int32) (0 : Int32) (0 : Int32)
set_option maxRecDepth 50000 in
theorem s12_last : ∀ (σ : St) (v0 : Nat) (v1 : Int32) (v2 : Int32) (v3 : Int32) (r : Int32) (τ : St), f12_last σ v0 v1 v2 v3 = some (r, τ) → Call 5 m12_last [.ref v0, .int v1, .int v2, .int v3] σ (some (.int r)) τ := by
  intro σ v0 v1 v2 v3 r τ hf
  unfold f12_last at hf
  refine Call.of (by decide +kernel) rfl (Nat.le_of_ble_eq_true rfl) ?_
  refine ev_iconst ci_m1 d12_last_0 ?_
  refine ev_istore (lv2 := [(4, .int (-1 : Int32)), (0, .ref v0), (1, .int v1), (2, .int v2), (3, .int v3)]) (i := 4) (by decide) rfl d12_last_1 ?_
  refine ev_iconst ci_0 d12_last_3 ?_
  refine ev_istore (lv2 := [(5, .int (0 : Int32)), (4, .int (-1 : Int32)), (0, .ref v0), (1, .int v1), (2, .int v2), (3, .int v3)]) (i := 5) (by decide) rfl d12_last_4 ?_
  refine ev_iconst ci_0 d12_last_6 ?_
  refine ev_istore (lv2 := [(6, .int (0 : Int32)), (5, .int (0 : Int32)), (4, .int (-1 : Int32)), (0, .ref v0), (1, .int v1), (2, .int v2), (3, .int v3)]) (i := 6) (by decide) rfl d12_last_7 ?_
  exact Ev.sub [3, 4, 5, 6, 2, 1, 0] rfl (s12_last_p9 FU _ _ _ _ _ _ _ _ _ _ hf)
abbrev m12_names : MD := ("MillBoatsModel", ⟨"MillBoatsModel", "names", "(IIIII)V"⟩, prog_14_method_69_code, 6, (none : Option Jvm.ClassFile.FieldType))
theorem k12_names : okY m12_names.2.1 5 := ⟨by decide +kernel, by decide +kernel, by decide +kernel⟩
def f12_names (σ : St) (v0 : Nat) (v1 : Int32) (v2 : Int32) (v3 : Int32) (v4 : Int32) (v5 : Int32) : Option (Unit × St) :=
  gd (ob σ v0 12) (
  lt (sR σ v0 47) fun b2 => (
  gd (nz b2) (
  gd (ob σ b2 14) (
  gd (inb σ b2 (0 : Int32)) (
  lt (wI σ b2 (ix (0 : Int32)) (v2 / (12 : Int32))) fun t7 => (
  gd (inb t7 b2 (1 : Int32)) (
  lt (wI t7 b2 (ix (1 : Int32)) (v2 - v2 / (12 : Int32) * (12 : Int32))) fun t10 => (
  gd (inb t10 b2 (2 : Int32)) (
  lt (wI t10 b2 (ix (2 : Int32)) v4) fun t13 => (
  bd (f12_depth t13 v0 v2 v4) fun r15 t16 => (
  gd (inb t16 b2 (3 : Int32)) (
  lt (wI t16 b2 (ix (3 : Int32)) r15) fun t20 => (
  lt (sR t20 v0 47) fun b22 => (
  gd (nz b22) (
  gd (ob t20 b22 14) (
  gd (inb t20 b22 (4 : Int32)) (
  lt (wI t20 b22 (ix (4 : Int32)) v3) fun t27 => (
  gd (inb t27 b22 (5 : Int32)) (
  lt (wI t27 b22 (ix (5 : Int32)) v1) fun t30 => (
  lt (sR t30 v0 6) fun b32 => (
  gd (nz b32) (
  gd (ob t30 b32 14) (
  gd (inb t30 b32 v1) (
  gd (inb t30 b22 (6 : Int32)) (
  lt (wI t30 b22 (ix (6 : Int32)) (sI t30 b32 (ix v1))) fun t38 => (
  lt (sR t38 v0 7) fun b40 => (
  gd (nz b40) (
  gd (ob t38 b40 14) (
  gd (inb t38 b40 v1) (
  gd (inb t38 b22 (7 : Int32)) (
  lt (wI t38 b22 (ix (7 : Int32)) (sI t38 b40 (ix v1))) fun t46 => (
  gd (inb t46 b22 (8 : Int32)) (
  lt (wI t46 b22 (ix (8 : Int32)) v5) fun t49 => (
  some ((), t49)))))))))))))))))))))))))))))))))))
set_option maxRecDepth 50000 in
theorem s12_names : ∀ (σ : St) (v0 : Nat) (v1 : Int32) (v2 : Int32) (v3 : Int32) (v4 : Int32) (v5 : Int32) (r : Unit) (τ : St), f12_names σ v0 v1 v2 v3 v4 v5 = some (r, τ) → Call 3 m12_names [.ref v0, .int v1, .int v2, .int v3, .int v4, .int v5] σ none τ := by
  intro σ v0 v1 v2 v3 v4 v5 r τ hf
  unfold f12_names at hf
  refine Call.of (by decide +kernel) rfl (Nat.le_of_ble_eq_true rfl) ?_
  refine ev_aload_n (j := 0) (i := 0) (q := 0) rfl rfl d12_names_0 ?_
  obtain ⟨h1, hf⟩ := gd_some hf
  obtain ⟨b2, e3, hf⟩ := lt_some hf
  obtain ⟨h4, hf⟩ := gd_some hf
  refine ev_getRb cls12 (j := 47) (by decide) rfl w1298 h1 e3 (nz_ne h4) d12_names_1 ?_
  refine ev_iconst ci_0 d12_names_4 ?_
  refine ev_iload_n (j := 2) (i := 2) (q := 2) rfl rfl d12_names_5 ?_
  refine ev_bipush cb_12 d12_names_6 ?_
  refine ev_idiv (by decide) d12_names_8 ?_
  obtain ⟨h5, hf⟩ := gd_some hf
  obtain ⟨h6, hf⟩ := gd_some hf
  obtain ⟨t7, e8, hf⟩ := lt_some hf
  refine ev_iast h5 h6 d12_names_9 (ev_nmS e8 ?_)
  refine ev_aload_n (j := 0) (i := 0) (q := 0) rfl rfl d12_names_10 ?_
  refine ev_getRb cls12 (j := 47) (by decide) rfl w1298 (mono_ob (mono_eI e8) h1) (tr_I e8 e3) (nz_ne h4) d12_names_11 ?_
  refine ev_iconst ci_1 d12_names_14 ?_
  refine ev_iload_n (j := 2) (i := 2) (q := 2) rfl rfl d12_names_15 ?_
  refine ev_bipush cb_12 d12_names_16 ?_
  refine ev_irem (by decide) d12_names_18 ?_
  obtain ⟨h9, hf⟩ := gd_some hf
  obtain ⟨t10, e11, hf⟩ := lt_some hf
  refine ev_iast (mono_ob (mono_eI e8) h5) h9 d12_names_19 (ev_nmS e11 ?_)
  refine ev_aload_n (j := 0) (i := 0) (q := 0) rfl rfl d12_names_20 ?_
  refine ev_getRb cls12 (j := 47) (by decide) rfl w1298 (mono_ob (mono_eI e11) (mono_ob (mono_eI e8) h1)) (tr_I e11 (tr_I e8 e3)) (nz_ne h4) d12_names_21 ?_
  refine ev_iconst ci_2 d12_names_24 ?_
  refine ev_iload (i := 4) (q := 4) rfl d12_names_25 ?_
  obtain ⟨h12, hf⟩ := gd_some hf
  obtain ⟨t13, e14, hf⟩ := lt_some hf
  refine ev_iast (mono_ob (mono_eI e11) (mono_ob (mono_eI e8) h5)) h12 d12_names_27 (ev_nmS e14 ?_)
  refine ev_aload_n (j := 0) (i := 0) (q := 0) rfl rfl d12_names_28 ?_
  refine ev_getRb cls12 (j := 47) (by decide) rfl w1298 (mono_ob (mono_eI e14) (mono_ob (mono_eI e11) (mono_ob (mono_eI e8) h1))) (tr_I e14 (tr_I e11 (tr_I e8 e3))) (nz_ne h4) d12_names_29 ?_
  refine ev_iconst ci_3 d12_names_32 ?_
  refine ev_aload_n (j := 0) (i := 0) (q := 0) rfl rfl d12_names_33 ?_
  refine ev_iload_n (j := 2) (i := 2) (q := 2) rfl rfl d12_names_34 ?_
  refine ev_iload (i := 4) (q := 4) rfl d12_names_35 ?_
  obtain ⟨r15, t16, k17, hf⟩ := bd_some hf
  have q18 := s12_depth _ _ _ _ _ _ k17
  refine ev_callV (vs := [.int v2, .int v4]) (sk := [.int (3 : Int32), .ref b2]) cls12 (mono_ob (mono_eI e14) (mono_ob (mono_eI e11) (mono_ob (mono_eI e8) h1))) q18 (by decide) (Nat.le_of_ble_eq_true rfl) w1556 w1558 ws58 w19 w1559 k12_depth rfl (Nat.le_of_ble_eq_true rfl) d12_names_37 ?_
  obtain ⟨h19, hf⟩ := gd_some hf
  obtain ⟨t20, e21, hf⟩ := lt_some hf
  refine ev_iast (mono_ob q18.1 (mono_ob (mono_eI e14) (mono_ob (mono_eI e11) (mono_ob (mono_eI e8) h5)))) h19 d12_names_40 (ev_nmS e21 ?_)
  refine ev_aload_n (j := 0) (i := 0) (q := 0) rfl rfl d12_names_41 ?_
  obtain ⟨b22, e23, hf⟩ := lt_some hf
  obtain ⟨h24, hf⟩ := gd_some hf
  refine ev_getRb cls12 (j := 47) (by decide) rfl w1298 (mono_ob (mono_eI e21) (mono_ob q18.1 (mono_ob (mono_eI e14) (mono_ob (mono_eI e11) (mono_ob (mono_eI e8) h1))))) e23 (nz_ne h24) d12_names_42 ?_
  refine ev_iconst ci_4 d12_names_45 ?_
  refine ev_iload_n (j := 3) (i := 3) (q := 3) rfl rfl d12_names_46 ?_
  obtain ⟨h25, hf⟩ := gd_some hf
  obtain ⟨h26, hf⟩ := gd_some hf
  obtain ⟨t27, e28, hf⟩ := lt_some hf
  refine ev_iast h25 h26 d12_names_47 (ev_nmS e28 ?_)
  refine ev_aload_n (j := 0) (i := 0) (q := 0) rfl rfl d12_names_48 ?_
  refine ev_getRb cls12 (j := 47) (by decide) rfl w1298 (mono_ob (mono_eI e28) (mono_ob (mono_eI e21) (mono_ob q18.1 (mono_ob (mono_eI e14) (mono_ob (mono_eI e11) (mono_ob (mono_eI e8) h1)))))) (tr_I e28 e23) (nz_ne h24) d12_names_49 ?_
  refine ev_iconst ci_5 d12_names_52 ?_
  refine ev_iload_n (j := 1) (i := 1) (q := 1) rfl rfl d12_names_53 ?_
  obtain ⟨h29, hf⟩ := gd_some hf
  obtain ⟨t30, e31, hf⟩ := lt_some hf
  refine ev_iast (mono_ob (mono_eI e28) h25) h29 d12_names_54 (ev_nmS e31 ?_)
  refine ev_aload_n (j := 0) (i := 0) (q := 0) rfl rfl d12_names_55 ?_
  refine ev_getRb cls12 (j := 47) (by decide) rfl w1298 (mono_ob (mono_eI e31) (mono_ob (mono_eI e28) (mono_ob (mono_eI e21) (mono_ob q18.1 (mono_ob (mono_eI e14) (mono_ob (mono_eI e11) (mono_ob (mono_eI e8) h1))))))) (tr_I e31 (tr_I e28 e23)) (nz_ne h24) d12_names_56 ?_
  refine ev_bipush cb_6 d12_names_59 ?_
  refine ev_aload_n (j := 0) (i := 0) (q := 0) rfl rfl d12_names_61 ?_
  obtain ⟨b32, e33, hf⟩ := lt_some hf
  obtain ⟨h34, hf⟩ := gd_some hf
  refine ev_getRb cls12 (j := 6) (by decide) rfl w1257 (mono_ob (mono_eI e31) (mono_ob (mono_eI e28) (mono_ob (mono_eI e21) (mono_ob q18.1 (mono_ob (mono_eI e14) (mono_ob (mono_eI e11) (mono_ob (mono_eI e8) h1))))))) e33 (nz_ne h34) d12_names_62 ?_
  refine ev_iload_n (j := 1) (i := 1) (q := 1) rfl rfl d12_names_65 ?_
  obtain ⟨h35, hf⟩ := gd_some hf
  obtain ⟨h36, hf⟩ := gd_some hf
  refine ev_iald h35 h36 d12_names_66 ?_
  obtain ⟨h37, hf⟩ := gd_some hf
  obtain ⟨t38, e39, hf⟩ := lt_some hf
  refine ev_iast (mono_ob (mono_eI e31) (mono_ob (mono_eI e28) h25)) h37 d12_names_67 (ev_nmS e39 ?_)
  refine ev_aload_n (j := 0) (i := 0) (q := 0) rfl rfl d12_names_68 ?_
  refine ev_getRb cls12 (j := 47) (by decide) rfl w1298 (mono_ob (mono_eI e39) (mono_ob (mono_eI e31) (mono_ob (mono_eI e28) (mono_ob (mono_eI e21) (mono_ob q18.1 (mono_ob (mono_eI e14) (mono_ob (mono_eI e11) (mono_ob (mono_eI e8) h1)))))))) (tr_I e39 (tr_I e31 (tr_I e28 e23))) (nz_ne h24) d12_names_69 ?_
  refine ev_bipush cb_7 d12_names_72 ?_
  refine ev_aload_n (j := 0) (i := 0) (q := 0) rfl rfl d12_names_74 ?_
  obtain ⟨b40, e41, hf⟩ := lt_some hf
  obtain ⟨h42, hf⟩ := gd_some hf
  refine ev_getRb cls12 (j := 7) (by decide) rfl w1258 (mono_ob (mono_eI e39) (mono_ob (mono_eI e31) (mono_ob (mono_eI e28) (mono_ob (mono_eI e21) (mono_ob q18.1 (mono_ob (mono_eI e14) (mono_ob (mono_eI e11) (mono_ob (mono_eI e8) h1)))))))) e41 (nz_ne h42) d12_names_75 ?_
  refine ev_iload_n (j := 1) (i := 1) (q := 1) rfl rfl d12_names_78 ?_
  obtain ⟨h43, hf⟩ := gd_some hf
  obtain ⟨h44, hf⟩ := gd_some hf
  refine ev_iald h43 h44 d12_names_79 ?_
  obtain ⟨h45, hf⟩ := gd_some hf
  obtain ⟨t46, e47, hf⟩ := lt_some hf
  refine ev_iast (mono_ob (mono_eI e39) (mono_ob (mono_eI e31) (mono_ob (mono_eI e28) h25))) h45 d12_names_80 (ev_nmS e47 ?_)
  refine ev_aload_n (j := 0) (i := 0) (q := 0) rfl rfl d12_names_81 ?_
  refine ev_getRb cls12 (j := 47) (by decide) rfl w1298 (mono_ob (mono_eI e47) (mono_ob (mono_eI e39) (mono_ob (mono_eI e31) (mono_ob (mono_eI e28) (mono_ob (mono_eI e21) (mono_ob q18.1 (mono_ob (mono_eI e14) (mono_ob (mono_eI e11) (mono_ob (mono_eI e8) h1))))))))) (tr_I e47 (tr_I e39 (tr_I e31 (tr_I e28 e23)))) (nz_ne h24) d12_names_82 ?_
  refine ev_bipush cb_8 d12_names_85 ?_
  refine ev_iload (i := 5) (q := 5) rfl d12_names_87 ?_
  obtain ⟨h48, hf⟩ := gd_some hf
  obtain ⟨t49, e50, hf⟩ := lt_some hf
  refine ev_iast (mono_ob (mono_eI e47) (mono_ob (mono_eI e39) (mono_ob (mono_eI e31) (mono_ob (mono_eI e28) h25)))) h48 d12_names_89 (ev_nmS e50 ?_)
  obtain ⟨-, rfl⟩ := ret_some hf
  exact ev_vret rfl d12_names_90
abbrev m12_wordOf : MD := ("MillBoatsModel", ⟨"MillBoatsModel", "wordOf", "(IIIII)I"⟩, prog_14_method_70_code, 6, (some Jvm.ClassFile.FieldType.int))
theorem k12_wordOf : okY m12_wordOf.2.1 5 := ⟨by decide +kernel, by decide +kernel, by decide +kernel⟩
def f12_wordOf (σ : St) (v0 : Nat) (v1 : Int32) (v2 : Int32) (v3 : Int32) (v4 : Int32) (v5 : Int32) : Option (Int32 × St) :=
  gd (ob σ v0 12) (
  bd (f12_heightAt σ v0 v4 v5) fun r2 t3 => (
  bd (f12_names t3 v0 v2 v3 v4 r2 (0 : Int32)) fun r6 t7 => (
  bd (f12_textOf t7 v0 v1 v4 v5) fun r10 t11 => (
  bd (f12_last t11 v0 r10 (1 : Int32) (2 : Int32)) fun r14 t15 => (
  some (r14, t15))))))
set_option maxRecDepth 50000 in
theorem s12_wordOf : ∀ (σ : St) (v0 : Nat) (v1 : Int32) (v2 : Int32) (v3 : Int32) (v4 : Int32) (v5 : Int32) (r : Int32) (τ : St), f12_wordOf σ v0 v1 v2 v3 v4 v5 = some (r, τ) → Call 6 m12_wordOf [.ref v0, .int v1, .int v2, .int v3, .int v4, .int v5] σ (some (.int r)) τ := by
  intro σ v0 v1 v2 v3 v4 v5 r τ hf
  unfold f12_wordOf at hf
  refine Call.of (by decide +kernel) rfl (Nat.le_of_ble_eq_true rfl) ?_
  refine ev_aload_n (j := 0) (i := 0) (q := 0) rfl rfl d12_wordOf_0 ?_
  refine ev_iload_n (j := 2) (i := 2) (q := 2) rfl rfl d12_wordOf_1 ?_
  refine ev_iload_n (j := 3) (i := 3) (q := 3) rfl rfl d12_wordOf_2 ?_
  refine ev_iload (i := 4) (q := 4) rfl d12_wordOf_3 ?_
  refine ev_aload_n (j := 0) (i := 0) (q := 0) rfl rfl d12_wordOf_5 ?_
  refine ev_iload (i := 4) (q := 4) rfl d12_wordOf_6 ?_
  refine ev_iload (i := 5) (q := 5) rfl d12_wordOf_8 ?_
  obtain ⟨h1, hf⟩ := gd_some hf
  obtain ⟨r2, t3, k4, hf⟩ := bd_some hf
  have q5 := s12_heightAt _ _ _ _ _ _ k4
  refine ev_callV (vs := [.int v4, .int v5]) (sk := [.int v4, .int v3, .int v2, .ref v0]) cls12 h1 q5 (by decide) (Nat.le_of_ble_eq_true rfl) w1595 w1597 ws62 w19 w1598 k12_heightAt rfl (Nat.le_of_ble_eq_true rfl) d12_wordOf_10 ?_
  refine ev_iconst ci_0 d12_wordOf_13 ?_
  obtain ⟨r6, t7, k8, hf⟩ := bd_some hf
  have q9 := s12_names _ _ _ _ _ _ _ _ _ k8
  refine ev_callV (vs := [.int v2, .int v3, .int v4, .int r2, .int (0 : Int32)]) (sk := []) cls12 (mono_ob q5.1 h1) q9 (by decide) (Nat.le_of_ble_eq_true rfl) w1769 w1771 ws92 w19 w1772 k12_names rfl (Nat.le_of_ble_eq_true rfl) d12_wordOf_14 ?_
  refine ev_aload_n (j := 0) (i := 0) (q := 0) rfl rfl d12_wordOf_17 ?_
  refine ev_aload_n (j := 0) (i := 0) (q := 0) rfl rfl d12_wordOf_18 ?_
  refine ev_iload_n (j := 1) (i := 1) (q := 1) rfl rfl d12_wordOf_19 ?_
  refine ev_iload (i := 4) (q := 4) rfl d12_wordOf_20 ?_
  refine ev_iload (i := 5) (q := 5) rfl d12_wordOf_22 ?_
  obtain ⟨r10, t11, k12, hf⟩ := bd_some hf
  have q13 := s12_textOf _ _ _ _ _ _ _ k12
  refine ev_callV (vs := [.int v1, .int v4, .int v5]) (sk := [.ref v0]) cls12 (mono_ob q9.1 (mono_ob q5.1 h1)) q13 (by decide) (Nat.le_of_ble_eq_true rfl) w1773 w1775 ws93 w19 w1776 k12_textOf rfl (Nat.le_of_ble_eq_true rfl) d12_wordOf_24 ?_
  refine ev_iconst ci_1 d12_wordOf_27 ?_
  refine ev_iconst ci_2 d12_wordOf_28 ?_
  obtain ⟨r14, t15, k16, hf⟩ := bd_some hf
  have q17 := s12_last _ _ _ _ _ _ _ k16
  refine ev_callV (vs := [.int r10, .int (1 : Int32), .int (2 : Int32)]) (sk := []) cls12 (mono_ob q13.1 (mono_ob q9.1 (mono_ob q5.1 h1))) q17 (by decide) (Nat.le_of_ble_eq_true rfl) w1777 w1779 ws94 w19 w1780 k12_last rfl (Nat.le_of_ble_eq_true rfl) d12_wordOf_29 ?_
  obtain ⟨rfl, rfl⟩ := ret_some hf
  exact ev_iret rfl d12_wordOf_32
abbrev m12_hasSay : MD := ("MillBoatsModel", ⟨"MillBoatsModel", "hasSay", "(II)Z"⟩, prog_14_method_71_code, 2, (some Jvm.ClassFile.FieldType.boolean))
theorem k12_hasSay : okY m12_hasSay.2.1 2 := ⟨by decide +kernel, by decide +kernel, by decide +kernel⟩
def f12_hasSay (σ : St) (v0 : Int32) (v1 : Int32) : Option (Int32 × St) :=
  (if v0 = (0 : Int32) then
  (if (v1 / (12 : Int32)) ≤ (3 : Int32) then
  some ((1 : Int32), σ)
  else
  some ((0 : Int32), σ))
  else
  (if (v1 / (12 : Int32)) < (2 : Int32) then
  some ((0 : Int32), σ)
  else
  some ((1 : Int32), σ)))
set_option maxRecDepth 50000 in
theorem s12_hasSay : ∀ (σ : St) (v0 : Int32) (v1 : Int32) (r : Int32) (τ : St), f12_hasSay σ v0 v1 = some (r, τ) → Call 2 m12_hasSay [.int v0, .int v1] σ (some (.int r)) τ := by
  intro σ v0 v1 r τ hf
  unfold f12_hasSay at hf
  refine Call.of (by decide +kernel) rfl (Nat.le_of_ble_eq_true rfl) ?_
  refine ev_iload_n (j := 0) (i := 0) (q := 0) rfl rfl d12_hasSay_0 ?_
  rcases ite_some hf with ⟨c1, hf⟩ | ⟨c1, hf⟩
  · refine ev_if_ne_P (tgt := 20) c1 (by decide) d12_hasSay_1 ?_
    refine ev_iload_n (j := 1) (i := 1) (q := 1) rfl rfl d12_hasSay_4 ?_
    refine ev_bipush cb_12 d12_hasSay_5 ?_
    refine ev_idiv (by decide) d12_hasSay_7 ?_
    refine ev_iconst ci_3 d12_hasSay_8 ?_
    rcases ite_some hf with ⟨c2, hf⟩ | ⟨c2, hf⟩
    · refine ev_icmp_gt_P (tgt := 16) c2 (by decide) d12_hasSay_9 ?_
      refine ev_iconst ci_1 d12_hasSay_12 ?_
      refine ev_goto (tgt := 33) (by decide) d12_hasSay_13 ?_
      obtain ⟨rfl, rfl⟩ := ret_some hf
      exact ev_zret rfl (by decide) d12_hasSay_33
    · refine ev_icmp_gt_Q (tgt := 16) c2 (by decide) d12_hasSay_9 ?_
      refine ev_iconst ci_0 d12_hasSay_16 ?_
      refine ev_goto (tgt := 33) (by decide) d12_hasSay_17 ?_
      obtain ⟨rfl, rfl⟩ := ret_some hf
      exact ev_zret rfl (by decide) d12_hasSay_33
  · refine ev_if_ne_Q (tgt := 20) c1 (by decide) d12_hasSay_1 ?_
    refine ev_iload_n (j := 1) (i := 1) (q := 1) rfl rfl d12_hasSay_20 ?_
    refine ev_bipush cb_12 d12_hasSay_21 ?_
    refine ev_idiv (by decide) d12_hasSay_23 ?_
    refine ev_iconst ci_2 d12_hasSay_24 ?_
    rcases ite_some hf with ⟨c3, hf⟩ | ⟨c3, hf⟩
    · refine ev_icmp_lt_P (tgt := 32) c3 (by decide) d12_hasSay_25 ?_
      refine ev_iconst ci_0 d12_hasSay_32 ?_
      obtain ⟨rfl, rfl⟩ := ret_some hf
      exact ev_zret rfl (by decide) d12_hasSay_33
    · refine ev_icmp_lt_Q (tgt := 32) c3 (by decide) d12_hasSay_25 ?_
      refine ev_iconst ci_1 d12_hasSay_28 ?_
      refine ev_goto (tgt := 33) (by decide) d12_hasSay_29 ?_
      obtain ⟨rfl, rfl⟩ := ret_some hf
      exact ev_zret rfl (by decide) d12_hasSay_33
abbrev m12_saysOf : MD := ("MillBoatsModel", ⟨"MillBoatsModel", "saysOf", "(IIIII)I"⟩, prog_14_method_72_code, 7, (some Jvm.ClassFile.FieldType.int))
theorem k12_saysOf : okY m12_saysOf.2.1 5 := ⟨by decide +kernel, by decide +kernel, by decide +kernel⟩
def f12_saysOf (σ : St) (v0 : Nat) (v1 : Int32) (v2 : Int32) (v3 : Int32) (v4 : Int32) (v5 : Int32) : Option (Int32 × St) :=
  gd (ob σ v0 12) (
  bd (f12_wordOf σ v0 v1 v2 v3 v4 v5) fun r2 t3 => (
  (if r2 = (-1 : Int32) then
  some ((0 : Int32), t3)
  else
  lt (sR t3 v0 26) fun b7 => (
  gd (nz b7) (
  bd (f12_textOf t3 v0 v1 v4 v5) fun r10 t11 => (
  gd (ob t11 b7 14) (
  gd (inb t11 b7 (((20 : Int32) * r10) + r2)) (
  some (sI t11 b7 (ix (((20 : Int32) * r10) + r2)), t11)))))))))
set_option maxRecDepth 50000 in
theorem s12_saysOf : ∀ (σ : St) (v0 : Nat) (v1 : Int32) (v2 : Int32) (v3 : Int32) (v4 : Int32) (v5 : Int32) (r : Int32) (τ : St), f12_saysOf σ v0 v1 v2 v3 v4 v5 = some (r, τ) → Call 7 m12_saysOf [.ref v0, .int v1, .int v2, .int v3, .int v4, .int v5] σ (some (.int r)) τ := by
  intro σ v0 v1 v2 v3 v4 v5 r τ hf
  unfold f12_saysOf at hf
  refine Call.of (by decide +kernel) rfl (Nat.le_of_ble_eq_true rfl) ?_
  refine ev_aload_n (j := 0) (i := 0) (q := 0) rfl rfl d12_saysOf_0 ?_
  refine ev_iload_n (j := 1) (i := 1) (q := 1) rfl rfl d12_saysOf_1 ?_
  refine ev_iload_n (j := 2) (i := 2) (q := 2) rfl rfl d12_saysOf_2 ?_
  refine ev_iload_n (j := 3) (i := 3) (q := 3) rfl rfl d12_saysOf_3 ?_
  refine ev_iload (i := 4) (q := 4) rfl d12_saysOf_4 ?_
  refine ev_iload (i := 5) (q := 5) rfl d12_saysOf_6 ?_
  obtain ⟨h1, hf⟩ := gd_some hf
  obtain ⟨r2, t3, k4, hf⟩ := bd_some hf
  have q5 := s12_wordOf _ _ _ _ _ _ _ _ _ k4
  refine ev_callV (vs := [.int v1, .int v2, .int v3, .int v4, .int v5]) (sk := []) cls12 h1 q5 (by decide) (Nat.le_of_ble_eq_true rfl) w1765 w1767 ws91 w19 w1768 k12_wordOf rfl (Nat.le_of_ble_eq_true rfl) d12_saysOf_8 ?_
  refine ev_istore (lv2 := [(6, .int r2), (0, .ref v0), (1, .int v1), (2, .int v2), (3, .int v3), (4, .int v4), (5, .int v5)]) (i := 6) (by decide) rfl d12_saysOf_11 ?_
  refine ev_iload (i := 6) (q := 0) rfl d12_saysOf_13 ?_
  refine ev_iconst ci_m1 d12_saysOf_15 ?_
  rcases ite_some hf with ⟨c6, hf⟩ | ⟨c6, hf⟩
  · refine ev_icmp_ne_P (tgt := 23) c6 (by decide) d12_saysOf_16 ?_
    refine ev_iconst ci_0 d12_saysOf_19 ?_
    refine ev_goto (tgt := 43) (by decide) d12_saysOf_20 ?_
    obtain ⟨rfl, rfl⟩ := ret_some hf
    exact ev_iret rfl d12_saysOf_43
  · refine ev_icmp_ne_Q (tgt := 23) c6 (by decide) d12_saysOf_16 ?_
    refine ev_aload_n (j := 0) (i := 0) (q := 1) rfl rfl d12_saysOf_23 ?_
    obtain ⟨b7, e8, hf⟩ := lt_some hf
    obtain ⟨h9, hf⟩ := gd_some hf
    refine ev_getRb cls12 (j := 26) (by decide) rfl w1277 (mono_ob q5.1 h1) e8 (nz_ne h9) d12_saysOf_24 ?_
    refine ev_bipush cb_20 d12_saysOf_27 ?_
    refine ev_aload_n (j := 0) (i := 0) (q := 1) rfl rfl d12_saysOf_29 ?_
    refine ev_iload_n (j := 1) (i := 1) (q := 2) rfl rfl d12_saysOf_30 ?_
    refine ev_iload (i := 4) (q := 5) rfl d12_saysOf_31 ?_
    refine ev_iload (i := 5) (q := 6) rfl d12_saysOf_33 ?_
    obtain ⟨r10, t11, k12, hf⟩ := bd_some hf
    have q13 := s12_textOf _ _ _ _ _ _ _ k12
    refine ev_callV (vs := [.int v1, .int v4, .int v5]) (sk := [.int (20 : Int32), .ref b7]) cls12 (mono_ob q5.1 h1) q13 (by decide) (Nat.le_of_ble_eq_true rfl) w1773 w1775 ws93 w19 w1776 k12_textOf rfl (Nat.le_of_ble_eq_true rfl) d12_saysOf_35 ?_
    refine ev_imul d12_saysOf_38 ?_
    refine ev_iload (i := 6) (q := 0) rfl d12_saysOf_39 ?_
    refine ev_iadd d12_saysOf_41 ?_
    obtain ⟨h14, hf⟩ := gd_some hf
    obtain ⟨h15, hf⟩ := gd_some hf
    refine ev_iald h14 h15 d12_saysOf_42 ?_
    obtain ⟨rfl, rfl⟩ := ret_some hf
    exact ev_iret rfl d12_saysOf_43
abbrev m12_barredBy : MD := ("MillBoatsModel", ⟨"MillBoatsModel", "barredBy", "(IIII)I"⟩, prog_14_method_73_code, 8, (some Jvm.ClassFile.FieldType.int))
theorem k12_barredBy : okY m12_barredBy.2.1 4 := ⟨by decide +kernel, by decide +kernel, by decide +kernel⟩
def f12_barredBy_p70 (σ : St) (v5 : Int32) (v6 : Int32) (x0 : Int32) (x1 : Int32) : Option (Int32 × St) :=
  lt (x1 + x0) fun y23 => (
  (if (v5 * v6) = (2 : Int32) then
  some (y23 + (4 : Int32), σ)
  else
  some (y23 + (0 : Int32), σ)))
set_option maxRecDepth 20000 in
theorem s12_barredBy_p70 : ∀ (σ : St) (v5 : Int32) (v6 : Int32) (x0 : Int32) (x1 : Int32) (r : Int32) (τ : St), f12_barredBy_p70 σ v5 v6 x0 x1 = some (r, τ) → Ev 8 m12_barredBy 70 [(5, .int v5), (6, .int v6)] [.int x0, .int x1] σ (some (.int r)) τ := by
  intro σ v5 v6 x0 x1 r τ hf
  unfold f12_barredBy_p70 at hf
  refine ev_iadd d12_barredBy_70 ?_
  obtain ⟨y23, e24, hf⟩ := lt_some hf
  refine ev_nmI e24 ?_
  refine ev_istore (lv2 := [(7, .int y23), (5, .int v5), (6, .int v6)]) (i := 7) (by decide) rfl d12_barredBy_71 ?_
  refine ev_iload (i := 7) (q := 0) rfl d12_barredBy_73 ?_
  refine ev_iload (i := 5) (q := 1) rfl d12_barredBy_75 ?_
  refine ev_iload (i := 6) (q := 2) rfl d12_barredBy_77 ?_
  refine ev_imul d12_barredBy_79 ?_
  refine ev_iconst ci_2 d12_barredBy_80 ?_
  rcases ite_some hf with ⟨c25, hf⟩ | ⟨c25, hf⟩
  · refine ev_icmp_ne_P (tgt := 88) c25 (by decide) d12_barredBy_81 ?_
    refine ev_iconst ci_4 d12_barredBy_84 ?_
    refine ev_goto (tgt := 89) (by decide) d12_barredBy_85 ?_
    refine ev_iadd d12_barredBy_89 ?_
    obtain ⟨rfl, rfl⟩ := ret_some hf
    exact ev_iret rfl d12_barredBy_90
  · refine ev_icmp_ne_Q (tgt := 88) c25 (by decide) d12_barredBy_81 ?_
    refine ev_iconst ci_0 d12_barredBy_88 ?_
    refine ev_iadd d12_barredBy_89 ?_
    obtain ⟨rfl, rfl⟩ := ret_some hf
    exact ev_iret rfl d12_barredBy_90
def f12_barredBy_p59 (σ : St) (v5 : Int32) (v6 : Int32) (x0 : Int32) : Option (Int32 × St) :=
  (if v6 = (1 : Int32) then
  f12_barredBy_p70 σ v5 v6 (2 : Int32) x0
  else
  f12_barredBy_p70 σ v5 v6 (0 : Int32) x0)
set_option maxRecDepth 20000 in
theorem s12_barredBy_p59 : ∀ (σ : St) (v5 : Int32) (v6 : Int32) (x0 : Int32) (r : Int32) (τ : St), f12_barredBy_p59 σ v5 v6 x0 = some (r, τ) → Ev 8 m12_barredBy 59 [(5, .int v5), (6, .int v6)] [.int x0] σ (some (.int r)) τ := by
  intro σ v5 v6 x0 r τ hf
  unfold f12_barredBy_p59 at hf
  refine ev_iload (i := 6) (q := 1) rfl d12_barredBy_59 ?_
  refine ev_iconst ci_1 d12_barredBy_61 ?_
  rcases ite_some hf with ⟨c22, hf⟩ | ⟨c22, hf⟩
  · refine ev_icmp_ne_P (tgt := 69) c22 (by decide) d12_barredBy_62 ?_
    refine ev_iconst ci_2 d12_barredBy_65 ?_
    refine ev_goto (tgt := 70) (by decide) d12_barredBy_66 ?_
    exact Ev.sub [0, 1] rfl (s12_barredBy_p70 _ _ _ _ _ _ _ hf)
  · refine ev_icmp_ne_Q (tgt := 69) c22 (by decide) d12_barredBy_62 ?_
    refine ev_iconst ci_0 d12_barredBy_69 ?_
    exact Ev.sub [0, 1] rfl (s12_barredBy_p70 _ _ _ _ _ _ _ hf)
def f12_barredBy_p46 (σ : St) (v5 : Int32) (x0 : Int32) : Option (Int32 × St) :=
  (if v5 = (1 : Int32) then
  f12_barredBy_p59 σ v5 x0 (1 : Int32)
  else
  f12_barredBy_p59 σ v5 x0 (0 : Int32))
set_option maxRecDepth 20000 in
theorem s12_barredBy_p46 : ∀ (σ : St) (v5 : Int32) (x0 : Int32) (r : Int32) (τ : St), f12_barredBy_p46 σ v5 x0 = some (r, τ) → Ev 8 m12_barredBy 46 [(5, .int v5)] [.int x0] σ (some (.int r)) τ := by
  intro σ v5 x0 r τ hf
  unfold f12_barredBy_p46 at hf
  refine ev_istore (lv2 := [(6, .int x0), (5, .int v5)]) (i := 6) (by decide) rfl d12_barredBy_46 ?_
  refine ev_iload (i := 5) (q := 1) rfl d12_barredBy_48 ?_
  refine ev_iconst ci_1 d12_barredBy_50 ?_
  rcases ite_some hf with ⟨c21, hf⟩ | ⟨c21, hf⟩
  · refine ev_icmp_ne_P (tgt := 58) c21 (by decide) d12_barredBy_51 ?_
    refine ev_iconst ci_1 d12_barredBy_54 ?_
    refine ev_goto (tgt := 59) (by decide) d12_barredBy_55 ?_
    exact Ev.sub [1, 0] rfl (s12_barredBy_p59 _ _ _ _ _ _ hf)
  · refine ev_icmp_ne_Q (tgt := 58) c21 (by decide) d12_barredBy_51 ?_
    refine ev_iconst ci_0 d12_barredBy_58 ?_
    exact Ev.sub [1, 0] rfl (s12_barredBy_p59 _ _ _ _ _ _ hf)
def f12_barredBy_p22 (σ : St) (v0 : Nat) (v1 : Int32) (v2 : Int32) (v3 : Int32) (v4 : Int32) (x0 : Int32) : Option (Int32 × St) :=
  bd (f12_hasSay σ (1 : Int32) v2) fun r11 t12 => (
  (if r11 = (0 : Int32) then
  f12_barredBy_p46 t12 x0 (0 : Int32)
  else
  gd (ob t12 v0 12) (
  bd (f12_saysOf t12 v0 (1 : Int32) v1 v2 v3 v4) fun r17 t18 => (
  f12_barredBy_p46 t18 x0 r17))))
set_option maxRecDepth 20000 in
theorem s12_barredBy_p22 : ∀ (σ : St) (v0 : Nat) (v1 : Int32) (v2 : Int32) (v3 : Int32) (v4 : Int32) (x0 : Int32) (r : Int32) (τ : St), f12_barredBy_p22 σ v0 v1 v2 v3 v4 x0 = some (r, τ) → Ev 8 m12_barredBy 22 [(0, .ref v0), (1, .int v1), (2, .int v2), (3, .int v3), (4, .int v4)] [.int x0] σ (some (.int r)) τ := by
  intro σ v0 v1 v2 v3 v4 x0 r τ hf
  unfold f12_barredBy_p22 at hf
  refine ev_istore (lv2 := [(5, .int x0), (0, .ref v0), (1, .int v1), (2, .int v2), (3, .int v3), (4, .int v4)]) (i := 5) (by decide) rfl d12_barredBy_22 ?_
  refine ev_iconst ci_1 d12_barredBy_24 ?_
  refine ev_iload_n (j := 2) (i := 2) (q := 3) rfl rfl d12_barredBy_25 ?_
  obtain ⟨r11, t12, k13, hf⟩ := bd_some hf
  have q14 := s12_hasSay _ _ _ _ _ k13
  refine ev_callS (vs := [.int (1 : Int32), .int v2]) (sk := []) q14 (by decide) (Nat.le_of_ble_eq_true rfl) w1758 w1759 w19 w1760 k12_hasSay rfl (Nat.le_of_ble_eq_true rfl) d12_barredBy_26 ?_
  rcases ite_some hf with ⟨c15, hf⟩ | ⟨c15, hf⟩
  · refine ev_if_eq_P (tgt := 45) c15 (by decide) d12_barredBy_29 ?_
    refine ev_iconst ci_0 d12_barredBy_45 ?_
    exact Ev.sub [0] rfl (s12_barredBy_p46 _ _ _ _ _ hf)
  · refine ev_if_eq_Q (tgt := 45) c15 (by decide) d12_barredBy_29 ?_
    refine ev_aload_n (j := 0) (i := 0) (q := 1) rfl rfl d12_barredBy_32 ?_
    refine ev_iconst ci_1 d12_barredBy_33 ?_
    refine ev_iload_n (j := 1) (i := 1) (q := 2) rfl rfl d12_barredBy_34 ?_
    refine ev_iload_n (j := 2) (i := 2) (q := 3) rfl rfl d12_barredBy_35 ?_
    refine ev_iload_n (j := 3) (i := 3) (q := 4) rfl rfl d12_barredBy_36 ?_
    refine ev_iload (i := 4) (q := 5) rfl d12_barredBy_37 ?_
    obtain ⟨h16, hf⟩ := gd_some hf
    obtain ⟨r17, t18, k19, hf⟩ := bd_some hf
    have q20 := s12_saysOf _ _ _ _ _ _ _ _ _ k19
    refine ev_callV (vs := [.int (1 : Int32), .int v1, .int v2, .int v3, .int v4]) (sk := []) cls12 h16 q20 (by decide) (Nat.le_of_ble_eq_true rfl) w1761 w1763 ws90 w19 w1764 k12_saysOf rfl (Nat.le_of_ble_eq_true rfl) d12_barredBy_39 ?_
    refine ev_goto (tgt := 46) (by decide) d12_barredBy_42 ?_
    exact Ev.sub [0] rfl (s12_barredBy_p46 _ _ _ _ _ hf)
def f12_barredBy (σ : St) (v0 : Nat) (v1 : Int32) (v2 : Int32) (v3 : Int32) (v4 : Int32) : Option (Int32 × St) :=
  bd (f12_hasSay σ (0 : Int32) v2) fun r1 t2 => (
  (if r1 = (0 : Int32) then
  f12_barredBy_p22 t2 v0 v1 v2 v3 v4 (0 : Int32)
  else
  gd (ob t2 v0 12) (
  bd (f12_saysOf t2 v0 (0 : Int32) v1 v2 v3 v4) fun r7 t8 => (
  f12_barredBy_p22 t8 v0 v1 v2 v3 v4 r7))))
set_option maxRecDepth 50000 in
theorem s12_barredBy : ∀ (σ : St) (v0 : Nat) (v1 : Int32) (v2 : Int32) (v3 : Int32) (v4 : Int32) (r : Int32) (τ : St), f12_barredBy σ v0 v1 v2 v3 v4 = some (r, τ) → Call 8 m12_barredBy [.ref v0, .int v1, .int v2, .int v3, .int v4] σ (some (.int r)) τ := by
  intro σ v0 v1 v2 v3 v4 r τ hf
  unfold f12_barredBy at hf
  refine Call.of (by decide +kernel) rfl (Nat.le_of_ble_eq_true rfl) ?_
  refine ev_iconst ci_0 d12_barredBy_0 ?_
  refine ev_iload_n (j := 2) (i := 2) (q := 2) rfl rfl d12_barredBy_1 ?_
  obtain ⟨r1, t2, k3, hf⟩ := bd_some hf
  have q4 := s12_hasSay _ _ _ _ _ k3
  refine ev_callS (vs := [.int (0 : Int32), .int v2]) (sk := []) q4 (by decide) (Nat.le_of_ble_eq_true rfl) w1758 w1759 w19 w1760 k12_hasSay rfl (Nat.le_of_ble_eq_true rfl) d12_barredBy_2 ?_
  rcases ite_some hf with ⟨c5, hf⟩ | ⟨c5, hf⟩
  · refine ev_if_eq_P (tgt := 21) c5 (by decide) d12_barredBy_5 ?_
    refine ev_iconst ci_0 d12_barredBy_21 ?_
    exact Ev.sub [0, 1, 2, 3, 4] rfl (s12_barredBy_p22 _ _ _ _ _ _ _ _ _ hf)
  · refine ev_if_eq_Q (tgt := 21) c5 (by decide) d12_barredBy_5 ?_
    refine ev_aload_n (j := 0) (i := 0) (q := 0) rfl rfl d12_barredBy_8 ?_
    refine ev_iconst ci_0 d12_barredBy_9 ?_
    refine ev_iload_n (j := 1) (i := 1) (q := 1) rfl rfl d12_barredBy_10 ?_
    refine ev_iload_n (j := 2) (i := 2) (q := 2) rfl rfl d12_barredBy_11 ?_
    refine ev_iload_n (j := 3) (i := 3) (q := 3) rfl rfl d12_barredBy_12 ?_
    refine ev_iload (i := 4) (q := 4) rfl d12_barredBy_13 ?_
    obtain ⟨h6, hf⟩ := gd_some hf
    obtain ⟨r7, t8, k9, hf⟩ := bd_some hf
    have q10 := s12_saysOf _ _ _ _ _ _ _ _ _ k9
    refine ev_callV (vs := [.int (0 : Int32), .int v1, .int v2, .int v3, .int v4]) (sk := []) cls12 h6 q10 (by decide) (Nat.le_of_ble_eq_true rfl) w1761 w1763 ws90 w19 w1764 k12_saysOf rfl (Nat.le_of_ble_eq_true rfl) d12_barredBy_15 ?_
    refine ev_goto (tgt := 22) (by decide) d12_barredBy_18 ?_
    exact Ev.sub [0, 1, 2, 3, 4] rfl (s12_barredBy_p22 _ _ _ _ _ _ _ _ _ hf)
abbrev m12_isBarred : MD := ("MillBoatsModel", ⟨"MillBoatsModel", "isBarred", "(IIII)Z"⟩, prog_14_method_74_code, 5, (some Jvm.ClassFile.FieldType.boolean))
theorem k12_isBarred : okY m12_isBarred.2.1 4 := ⟨by decide +kernel, by decide +kernel, by decide +kernel⟩
def f12_isBarred (σ : St) (v0 : Nat) (v1 : Int32) (v2 : Int32) (v3 : Int32) (v4 : Int32) : Option (Int32 × St) :=
  gd (ob σ v0 12) (
  bd (f12_barredBy σ v0 v1 v2 v3 v4) fun r2 t3 => (
  (if (r2 &&& (3 : Int32)) = (0 : Int32) then
  some ((0 : Int32), t3)
  else
  some ((1 : Int32), t3))))
set_option maxRecDepth 50000 in
theorem s12_isBarred : ∀ (σ : St) (v0 : Nat) (v1 : Int32) (v2 : Int32) (v3 : Int32) (v4 : Int32) (r : Int32) (τ : St), f12_isBarred σ v0 v1 v2 v3 v4 = some (r, τ) → Call 9 m12_isBarred [.ref v0, .int v1, .int v2, .int v3, .int v4] σ (some (.int r)) τ := by
  intro σ v0 v1 v2 v3 v4 r τ hf
  unfold f12_isBarred at hf
  refine Call.of (by decide +kernel) rfl (Nat.le_of_ble_eq_true rfl) ?_
  refine ev_aload_n (j := 0) (i := 0) (q := 0) rfl rfl d12_isBarred_0 ?_
  refine ev_iload_n (j := 1) (i := 1) (q := 1) rfl rfl d12_isBarred_1 ?_
  refine ev_iload_n (j := 2) (i := 2) (q := 2) rfl rfl d12_isBarred_2 ?_
  refine ev_iload_n (j := 3) (i := 3) (q := 3) rfl rfl d12_isBarred_3 ?_
  refine ev_iload (i := 4) (q := 4) rfl d12_isBarred_4 ?_
  obtain ⟨h1, hf⟩ := gd_some hf
  obtain ⟨r2, t3, k4, hf⟩ := bd_some hf
  have q5 := s12_barredBy _ _ _ _ _ _ _ _ k4
  refine ev_callV (vs := [.int v1, .int v2, .int v3, .int v4]) (sk := []) cls12 h1 q5 (by decide) (Nat.le_of_ble_eq_true rfl) w1754 w1756 ws89 w19 w1757 k12_barredBy rfl (Nat.le_of_ble_eq_true rfl) d12_isBarred_6 ?_
  refine ev_iconst ci_3 d12_isBarred_9 ?_
  refine ev_iand d12_isBarred_10 ?_
  rcases ite_some hf with ⟨c6, hf⟩ | ⟨c6, hf⟩
  · refine ev_if_eq_P (tgt := 18) c6 (by decide) d12_isBarred_11 ?_
    refine ev_iconst ci_0 d12_isBarred_18 ?_
    obtain ⟨rfl, rfl⟩ := ret_some hf
    exact ev_zret rfl (by decide) d12_isBarred_19
  · refine ev_if_eq_Q (tgt := 18) c6 (by decide) d12_isBarred_11 ?_
    refine ev_iconst ci_1 d12_isBarred_14 ?_
    refine ev_goto (tgt := 19) (by decide) d12_isBarred_15 ?_
    obtain ⟨rfl, rfl⟩ := ret_some hf
    exact ev_zret rfl (by decide) d12_isBarred_19
abbrev m12_barred : MD := ("MillBoatsModel", ⟨"MillBoatsModel", "barred", "(IIII)I"⟩, prog_14_method_75_code, 5, (some Jvm.ClassFile.FieldType.int))
theorem k12_barred : okY m12_barred.2.1 4 := ⟨by decide +kernel, by decide +kernel, by decide +kernel⟩
def f12_barred (σ : St) (v0 : Nat) (v1 : Int32) (v2 : Int32) (v3 : Int32) (v4 : Int32) : Option (Int32 × St) :=
  gd (ob σ v0 12) (
  lt (wI σ v0 0 (0 : Int32)) fun t2 => (
  bd (f12_isMill t2 v0 v1) fun r4 t5 => (
  (if r4 = (0 : Int32) then
  some ((-1 : Int32), t5)
  else
  bd (f12_isBerth t5 v2) fun r9 t10 => (
  (if r9 = (0 : Int32) then
  some ((-1 : Int32), t10)
  else
  bd (f12_isKnown t10 v0 v3 v4) fun r14 t15 => (
  (if r14 = (0 : Int32) then
  some ((-1 : Int32), t15)
  else
  bd (f12_barredBy t15 v0 v1 v2 v3 v4) fun r19 t20 => (
  some (r19, t20))))))))))
set_option maxRecDepth 50000 in
theorem s12_barred : ∀ (σ : St) (v0 : Nat) (v1 : Int32) (v2 : Int32) (v3 : Int32) (v4 : Int32) (r : Int32) (τ : St), f12_barred σ v0 v1 v2 v3 v4 = some (r, τ) → Call 9 m12_barred [.ref v0, .int v1, .int v2, .int v3, .int v4] σ (some (.int r)) τ := by
  intro σ v0 v1 v2 v3 v4 r τ hf
  unfold f12_barred at hf
  refine Call.of (by decide +kernel) rfl (Nat.le_of_ble_eq_true rfl) ?_
  refine ev_aload_n (j := 0) (i := 0) (q := 0) rfl rfl d12_barred_0 ?_
  refine ev_iconst ci_0 d12_barred_1 ?_
  obtain ⟨h1, hf⟩ := gd_some hf
  obtain ⟨t2, e3, hf⟩ := lt_some hf
  refine ev_putI cls12 (j := 0) (by decide) rfl rfl w1251 h1 (fun _ => ⟨rfl, rfl⟩) d12_barred_2 (ev_nmS e3 ?_)
  refine ev_aload_n (j := 0) (i := 0) (q := 0) rfl rfl d12_barred_5 ?_
  refine ev_iload_n (j := 1) (i := 1) (q := 1) rfl rfl d12_barred_6 ?_
  obtain ⟨r4, t5, k6, hf⟩ := bd_some hf
  have q7 := s12_isMill _ _ _ _ _ k6
  refine ev_callV (vs := [.int v1]) (sk := []) cls12 (mono_ob (mono_eI e3) h1) q7 (by decide) (Nat.le_of_ble_eq_true rfl) w1520 w1522 ws52 w19 w1523 k12_isMill rfl (Nat.le_of_ble_eq_true rfl) d12_barred_7 ?_
  rcases ite_some hf with ⟨c8, hf⟩ | ⟨c8, hf⟩
  · refine ev_if_eq_P (tgt := 42) c8 (by decide) d12_barred_10 ?_
    refine ev_iconst ci_m1 d12_barred_42 ?_
    obtain ⟨rfl, rfl⟩ := ret_some hf
    exact ev_iret rfl d12_barred_43
  · refine ev_if_eq_Q (tgt := 42) c8 (by decide) d12_barred_10 ?_
    refine ev_iload_n (j := 2) (i := 2) (q := 2) rfl rfl d12_barred_13 ?_
    obtain ⟨r9, t10, k11, hf⟩ := bd_some hf
    have q12 := s12_isBerth _ _ _ _ k11
    refine ev_callS (vs := [.int v2]) (sk := []) q12 (by decide) (Nat.le_of_ble_eq_true rfl) w1494 w1495 w19 w1496 k12_isBerth rfl (Nat.le_of_ble_eq_true rfl) d12_barred_14 ?_
    rcases ite_some hf with ⟨c13, hf⟩ | ⟨c13, hf⟩
    · refine ev_if_eq_P (tgt := 42) c13 (by decide) d12_barred_17 ?_
      refine ev_iconst ci_m1 d12_barred_42 ?_
      obtain ⟨rfl, rfl⟩ := ret_some hf
      exact ev_iret rfl d12_barred_43
    · refine ev_if_eq_Q (tgt := 42) c13 (by decide) d12_barred_17 ?_
      refine ev_aload_n (j := 0) (i := 0) (q := 0) rfl rfl d12_barred_20 ?_
      refine ev_iload_n (j := 3) (i := 3) (q := 3) rfl rfl d12_barred_21 ?_
      refine ev_iload (i := 4) (q := 4) rfl d12_barred_22 ?_
      obtain ⟨r14, t15, k16, hf⟩ := bd_some hf
      have q17 := s12_isKnown _ _ _ _ _ _ k16
      refine ev_callV (vs := [.int v3, .int v4]) (sk := []) cls12 (mono_ob q12.1 (mono_ob q7.1 (mono_ob (mono_eI e3) h1))) q17 (by decide) (Nat.le_of_ble_eq_true rfl) w1591 w1593 ws61 w19 w1594 k12_isKnown rfl (Nat.le_of_ble_eq_true rfl) d12_barred_24 ?_
      rcases ite_some hf with ⟨c18, hf⟩ | ⟨c18, hf⟩
      · refine ev_if_eq_P (tgt := 42) c18 (by decide) d12_barred_27 ?_
        refine ev_iconst ci_m1 d12_barred_42 ?_
        obtain ⟨rfl, rfl⟩ := ret_some hf
        exact ev_iret rfl d12_barred_43
      · refine ev_if_eq_Q (tgt := 42) c18 (by decide) d12_barred_27 ?_
        refine ev_aload_n (j := 0) (i := 0) (q := 0) rfl rfl d12_barred_30 ?_
        refine ev_iload_n (j := 1) (i := 1) (q := 1) rfl rfl d12_barred_31 ?_
        refine ev_iload_n (j := 2) (i := 2) (q := 2) rfl rfl d12_barred_32 ?_
        refine ev_iload_n (j := 3) (i := 3) (q := 3) rfl rfl d12_barred_33 ?_
        refine ev_iload (i := 4) (q := 4) rfl d12_barred_34 ?_
        obtain ⟨r19, t20, k21, hf⟩ := bd_some hf
        have q22 := s12_barredBy _ _ _ _ _ _ _ _ k21
        refine ev_callV (vs := [.int v1, .int v2, .int v3, .int v4]) (sk := []) cls12 (mono_ob q17.1 (mono_ob q12.1 (mono_ob q7.1 (mono_ob (mono_eI e3) h1)))) q22 (by decide) (Nat.le_of_ble_eq_true rfl) w1754 w1756 ws89 w19 w1757 k12_barredBy rfl (Nat.le_of_ble_eq_true rfl) d12_barred_36 ?_
        refine ev_goto (tgt := 43) (by decide) d12_barred_39 ?_
        obtain ⟨rfl, rfl⟩ := ret_some hf
        exact ev_iret rfl d12_barred_43
abbrev m12_word : MD := ("MillBoatsModel", ⟨"MillBoatsModel", "word", "(IIIII)I"⟩, prog_14_method_76_code, 6, (some Jvm.ClassFile.FieldType.int))
theorem k12_word : okY m12_word.2.1 5 := ⟨by decide +kernel, by decide +kernel, by decide +kernel⟩
def f12_word (σ : St) (v0 : Nat) (v1 : Int32) (v2 : Int32) (v3 : Int32) (v4 : Int32) (v5 : Int32) : Option (Int32 × St) :=
  gd (ob σ v0 12) (
  lt (wI σ v0 0 (0 : Int32)) fun t2 => (
  bd (f12_within t2 v1 (0 : Int32) (1 : Int32)) fun r4 t5 => (
  (if r4 = (0 : Int32) then
  some ((-1 : Int32), t5)
  else
  bd (f12_isMill t5 v0 v2) fun r9 t10 => (
  (if r9 = (0 : Int32) then
  some ((-1 : Int32), t10)
  else
  bd (f12_isBerth t10 v3) fun r14 t15 => (
  (if r14 = (0 : Int32) then
  some ((-1 : Int32), t15)
  else
  bd (f12_isKnown t15 v0 v4 v5) fun r19 t20 => (
  (if r19 = (0 : Int32) then
  some ((-1 : Int32), t20)
  else
  bd (f12_wordOf t20 v0 v1 v2 v3 v4 v5) fun r24 t25 => (
  some (r24, t25))))))))))))
set_option maxRecDepth 50000 in
theorem s12_word : ∀ (σ : St) (v0 : Nat) (v1 : Int32) (v2 : Int32) (v3 : Int32) (v4 : Int32) (v5 : Int32) (r : Int32) (τ : St), f12_word σ v0 v1 v2 v3 v4 v5 = some (r, τ) → Call 7 m12_word [.ref v0, .int v1, .int v2, .int v3, .int v4, .int v5] σ (some (.int r)) τ := by
  intro σ v0 v1 v2 v3 v4 v5 r τ hf
  unfold f12_word at hf
  refine Call.of (by decide +kernel) rfl (Nat.le_of_ble_eq_true rfl) ?_
  refine ev_aload_n (j := 0) (i := 0) (q := 0) rfl rfl d12_word_0 ?_
  refine ev_iconst ci_0 d12_word_1 ?_
  obtain ⟨h1, hf⟩ := gd_some hf
  obtain ⟨t2, e3, hf⟩ := lt_some hf
  refine ev_putI cls12 (j := 0) (by decide) rfl rfl w1251 h1 (fun _ => ⟨rfl, rfl⟩) d12_word_2 (ev_nmS e3 ?_)
  refine ev_iload_n (j := 1) (i := 1) (q := 1) rfl rfl d12_word_5 ?_
  refine ev_iconst ci_0 d12_word_6 ?_
  refine ev_iconst ci_1 d12_word_7 ?_
  obtain ⟨r4, t5, k6, hf⟩ := bd_some hf
  have q7 := s12_within _ _ _ _ _ _ k6
  refine ev_callS (vs := [.int v1, .int (0 : Int32), .int (1 : Int32)]) (sk := []) q7 (by decide) (Nat.le_of_ble_eq_true rfl) w1497 w1498 w19 w1499 k12_within rfl (Nat.le_of_ble_eq_true rfl) d12_word_8 ?_
  rcases ite_some hf with ⟨c8, hf⟩ | ⟨c8, hf⟩
  · refine ev_if_eq_P (tgt := 54) c8 (by decide) d12_word_11 ?_
    refine ev_iconst ci_m1 d12_word_54 ?_
    obtain ⟨rfl, rfl⟩ := ret_some hf
    exact ev_iret rfl d12_word_55
  · refine ev_if_eq_Q (tgt := 54) c8 (by decide) d12_word_11 ?_
    refine ev_aload_n (j := 0) (i := 0) (q := 0) rfl rfl d12_word_14 ?_
    refine ev_iload_n (j := 2) (i := 2) (q := 2) rfl rfl d12_word_15 ?_
    obtain ⟨r9, t10, k11, hf⟩ := bd_some hf
    have q12 := s12_isMill _ _ _ _ _ k11
    refine ev_callV (vs := [.int v2]) (sk := []) cls12 (mono_ob q7.1 (mono_ob (mono_eI e3) h1)) q12 (by decide) (Nat.le_of_ble_eq_true rfl) w1520 w1522 ws52 w19 w1523 k12_isMill rfl (Nat.le_of_ble_eq_true rfl) d12_word_16 ?_
    rcases ite_some hf with ⟨c13, hf⟩ | ⟨c13, hf⟩
    · refine ev_if_eq_P (tgt := 54) c13 (by decide) d12_word_19 ?_
      refine ev_iconst ci_m1 d12_word_54 ?_
      obtain ⟨rfl, rfl⟩ := ret_some hf
      exact ev_iret rfl d12_word_55
    · refine ev_if_eq_Q (tgt := 54) c13 (by decide) d12_word_19 ?_
      refine ev_iload_n (j := 3) (i := 3) (q := 3) rfl rfl d12_word_22 ?_
      obtain ⟨r14, t15, k16, hf⟩ := bd_some hf
      have q17 := s12_isBerth _ _ _ _ k16
      refine ev_callS (vs := [.int v3]) (sk := []) q17 (by decide) (Nat.le_of_ble_eq_true rfl) w1494 w1495 w19 w1496 k12_isBerth rfl (Nat.le_of_ble_eq_true rfl) d12_word_23 ?_
      rcases ite_some hf with ⟨c18, hf⟩ | ⟨c18, hf⟩
      · refine ev_if_eq_P (tgt := 54) c18 (by decide) d12_word_26 ?_
        refine ev_iconst ci_m1 d12_word_54 ?_
        obtain ⟨rfl, rfl⟩ := ret_some hf
        exact ev_iret rfl d12_word_55
      · refine ev_if_eq_Q (tgt := 54) c18 (by decide) d12_word_26 ?_
        refine ev_aload_n (j := 0) (i := 0) (q := 0) rfl rfl d12_word_29 ?_
        refine ev_iload (i := 4) (q := 4) rfl d12_word_30 ?_
        refine ev_iload (i := 5) (q := 5) rfl d12_word_32 ?_
        obtain ⟨r19, t20, k21, hf⟩ := bd_some hf
        have q22 := s12_isKnown _ _ _ _ _ _ k21
        refine ev_callV (vs := [.int v4, .int v5]) (sk := []) cls12 (mono_ob q17.1 (mono_ob q12.1 (mono_ob q7.1 (mono_ob (mono_eI e3) h1)))) q22 (by decide) (Nat.le_of_ble_eq_true rfl) w1591 w1593 ws61 w19 w1594 k12_isKnown rfl (Nat.le_of_ble_eq_true rfl) d12_word_34 ?_
        rcases ite_some hf with ⟨c23, hf⟩ | ⟨c23, hf⟩
        · refine ev_if_eq_P (tgt := 54) c23 (by decide) d12_word_37 ?_
          refine ev_iconst ci_m1 d12_word_54 ?_
          obtain ⟨rfl, rfl⟩ := ret_some hf
          exact ev_iret rfl d12_word_55
        · refine ev_if_eq_Q (tgt := 54) c23 (by decide) d12_word_37 ?_
          refine ev_aload_n (j := 0) (i := 0) (q := 0) rfl rfl d12_word_40 ?_
          refine ev_iload_n (j := 1) (i := 1) (q := 1) rfl rfl d12_word_41 ?_
          refine ev_iload_n (j := 2) (i := 2) (q := 2) rfl rfl d12_word_42 ?_
          refine ev_iload_n (j := 3) (i := 3) (q := 3) rfl rfl d12_word_43 ?_
          refine ev_iload (i := 4) (q := 4) rfl d12_word_44 ?_
          refine ev_iload (i := 5) (q := 5) rfl d12_word_46 ?_
          obtain ⟨r24, t25, k26, hf⟩ := bd_some hf
          have q27 := s12_wordOf _ _ _ _ _ _ _ _ _ k26
          refine ev_callV (vs := [.int v1, .int v2, .int v3, .int v4, .int v5]) (sk := []) cls12 (mono_ob q22.1 (mono_ob q17.1 (mono_ob q12.1 (mono_ob q7.1 (mono_ob (mono_eI e3) h1))))) q27 (by decide) (Nat.le_of_ble_eq_true rfl) w1765 w1767 ws91 w19 w1768 k12_wordOf rfl (Nat.le_of_ble_eq_true rfl) d12_word_48 ?_
          refine ev_goto (tgt := 55) (by decide) d12_word_51 ?_
          obtain ⟨rfl, rfl⟩ := ret_some hf
          exact ev_iret rfl d12_word_55
abbrev m12_wayOf : MD := ("MillBoatsModel", ⟨"MillBoatsModel", "wayOf", "(III)I"⟩, prog_14_method_77_code, 8, (some Jvm.ClassFile.FieldType.int))
theorem k12_wayOf : okY m12_wayOf.2.1 3 := ⟨by decide +kernel, by decide +kernel, by decide +kernel⟩
def f12_wayOf_p121 (K6 : St → Nat → Int32 → Int32 → Int32 → Int32 → Int32 → Option (Int32 × St)) (σ : St) (v0 : Nat) (v1 : Int32) (v2 : Int32) (v3 : Int32) (v4 : Int32) (v5 : Int32) : Option (Int32 × St) :=
  lt (v5 + (1 : Int32)) fun y52 => (
  K6 σ v0 v1 v2 v3 v4 y52)
set_option maxRecDepth 20000 in
theorem s12_wayOf_p121 {K6 : St → Nat → Int32 → Int32 → Int32 → Int32 → Int32 → Option (Int32 × St)} (hK6 : ∀ (σ : St) (v0 : Nat) (v1 : Int32) (v2 : Int32) (v3 : Int32) (v4 : Int32) (v5 : Int32) (r : Int32) (τ : St), K6 σ v0 v1 v2 v3 v4 v5 = some (r, τ) → Ev 6 m12_wayOf 6 [(0, .ref v0), (1, .int v1), (2, .int v2), (3, .int v3), (4, .int v4), (5, .int v5)] [] σ (some (.int r)) τ) : ∀ (σ : St) (v0 : Nat) (v1 : Int32) (v2 : Int32) (v3 : Int32) (v4 : Int32) (v5 : Int32) (r : Int32) (τ : St), f12_wayOf_p121 K6 σ v0 v1 v2 v3 v4 v5 = some (r, τ) → Ev 6 m12_wayOf 121 [(0, .ref v0), (1, .int v1), (2, .int v2), (3, .int v3), (4, .int v4), (5, .int v5)] [] σ (some (.int r)) τ := by
  intro σ v0 v1 v2 v3 v4 v5 r τ hf
  unfold f12_wayOf_p121 at hf
  obtain ⟨y52, e53, hf⟩ := lt_some hf
  refine ev_iinc (lv2 := [(5, .int y52), (0, .ref v0), (1, .int v1), (2, .int v2), (3, .int v3), (4, .int v4)]) (i := 5) (q := 5) (v := y52) (n := 1) rfl (by rw [ci_1]; exact e53.symm) (by decide) rfl d12_wayOf_121 ?_
  refine ev_goto (tgt := 6) (by decide) d12_wayOf_124 ?_
  exact Ev.sub [1, 2, 3, 4, 5, 0] rfl (hK6 _ _ _ _ _ _ _ _ _ hf)
def f12_wayOf_p15 (K6 : St → Nat → Int32 → Int32 → Int32 → Int32 → Int32 → Option (Int32 × St)) : Nat → St → Nat → Int32 → Int32 → Int32 → Int32 → Int32 → Int32 → Option (Int32 × St)
  | 0, _, _, _, _, _, _, _, _ => none
  | n + 1, σ, v0, v1, v2, v3, v4, v5, v6 =>
  (if v6 < (9 : Int32) then
  gd (ob σ v0 12) (
  lt (sR σ v0 47) fun b4 => (
  gd (nz b4) (
  gd (ob σ b4 14) (
  gd (inb σ b4 v6) (
  lt (wI σ b4 (ix v6) (0 : Int32)) fun t9 => (
  lt (v6 + (1 : Int32)) fun y11 => (
  (f12_wayOf_p15 K6 n) t9 v0 v1 v2 v3 v4 v5 y11)))))))
  else
  gd (ob σ v0 12) (
  lt (sR σ v0 47) fun b14 => (
  gd (nz b14) (
  gd (ob σ b14 14) (
  gd (inb σ b14 (1 : Int32)) (
  lt (wI σ b14 (ix (1 : Int32)) v1) fun t19 => (
  bd (f12_heightAt t19 v0 v2 v3) fun r21 t22 => (
  gd (inb t22 b14 (2 : Int32)) (
  lt (wI t22 b14 (ix (2 : Int32)) r21) fun t26 => (
  lt (sR t26 v0 47) fun b28 => (
  gd (nz b28) (
  gd (ob t26 b28 14) (
  gd (inb t26 b28 (4 : Int32)) (
  lt (wI t26 b28 (ix (4 : Int32)) v2) fun t33 => (
  bd (f12_textOf t33 v0 v5 v2 v3) fun r35 t36 => (
  bd (f12_last t36 v0 r35 (4 : Int32) (4 : Int32)) fun r39 t40 => (
  (if r39 = (-1 : Int32) then
  f12_wayOf_p121 K6 t40 v0 v1 v2 v3 v4 v5
  else
  lt (sR t40 v0 27) fun b44 => (
  gd (nz b44) (
  gd (ob t40 b44 14) (
  gd (inb t40 b44 (((20 : Int32) * r35) + r39)) (
  (if (sI t40 b44 (ix (((20 : Int32) * r35) + r39))) ≤ v4 then
  f12_wayOf_p121 K6 t40 v0 v1 v2 v3 v4 v5
  else
  lt (sI t40 b44 (ix (((20 : Int32) * r35) + r39))) fun y50 => (
  f12_wayOf_p121 K6 t40 v0 v1 v2 v3 y50 v5))))))))))))))))))))))))
set_option maxRecDepth 20000 in
theorem s12_wayOf_p15 {K6 : St → Nat → Int32 → Int32 → Int32 → Int32 → Int32 → Option (Int32 × St)} (hK6 : ∀ (σ : St) (v0 : Nat) (v1 : Int32) (v2 : Int32) (v3 : Int32) (v4 : Int32) (v5 : Int32) (r : Int32) (τ : St), K6 σ v0 v1 v2 v3 v4 v5 = some (r, τ) → Ev 6 m12_wayOf 6 [(0, .ref v0), (1, .int v1), (2, .int v2), (3, .int v3), (4, .int v4), (5, .int v5)] [] σ (some (.int r)) τ) : ∀ (n : Nat) (σ : St) (v0 : Nat) (v1 : Int32) (v2 : Int32) (v3 : Int32) (v4 : Int32) (v5 : Int32) (v6 : Int32) (r : Int32) (τ : St), f12_wayOf_p15 K6 n σ v0 v1 v2 v3 v4 v5 v6 = some (r, τ) → Ev 6 m12_wayOf 15 [(0, .ref v0), (1, .int v1), (2, .int v2), (3, .int v3), (4, .int v4), (5, .int v5), (6, .int v6)] [] σ (some (.int r)) τ := by
  intro n
  induction n with
  | zero =>
    intro σ v0 v1 v2 v3 v4 v5 v6 r τ hf
    cases hf
  | succ n ih =>
    intro σ v0 v1 v2 v3 v4 v5 v6 r τ hf
    rw [f12_wayOf_p15] at hf
    refine ev_iload (i := 6) (q := 6) rfl d12_wayOf_15 ?_
    refine ev_bipush cb_9 d12_wayOf_17 ?_
    rcases ite_some hf with ⟨c2, hf⟩ | ⟨c2, hf⟩
    · refine ev_icmp_ge_P (tgt := 36) c2 (by decide) d12_wayOf_19 ?_
      refine ev_aload_n (j := 0) (i := 0) (q := 0) rfl rfl d12_wayOf_22 ?_
      obtain ⟨h3, hf⟩ := gd_some hf
      obtain ⟨b4, e5, hf⟩ := lt_some hf
      obtain ⟨h6, hf⟩ := gd_some hf
      refine ev_getRb cls12 (j := 47) (by decide) rfl w1298 h3 e5 (nz_ne h6) d12_wayOf_23 ?_
      refine ev_iload (i := 6) (q := 6) rfl d12_wayOf_26 ?_
      refine ev_iconst ci_0 d12_wayOf_28 ?_
      obtain ⟨h7, hf⟩ := gd_some hf
      obtain ⟨h8, hf⟩ := gd_some hf
      obtain ⟨t9, e10, hf⟩ := lt_some hf
      refine ev_iast h7 h8 d12_wayOf_29 (ev_nmS e10 ?_)
      obtain ⟨y11, e12, hf⟩ := lt_some hf
      refine ev_iinc (lv2 := [(6, .int y11), (0, .ref v0), (1, .int v1), (2, .int v2), (3, .int v3), (4, .int v4), (5, .int v5)]) (i := 6) (q := 6) (v := y11) (n := 1) rfl (by rw [ci_1]; exact e12.symm) (by decide) rfl d12_wayOf_30 ?_
      refine ev_goto (tgt := 15) (by decide) d12_wayOf_33 ?_
      exact Ev.sub [1, 2, 3, 4, 5, 6, 0] rfl (ih _ _ _ _ _ _ _ _ _ _ hf)
    · refine ev_icmp_ge_Q (tgt := 36) c2 (by decide) d12_wayOf_19 ?_
      refine ev_aload_n (j := 0) (i := 0) (q := 0) rfl rfl d12_wayOf_36 ?_
      obtain ⟨h13, hf⟩ := gd_some hf
      obtain ⟨b14, e15, hf⟩ := lt_some hf
      obtain ⟨h16, hf⟩ := gd_some hf
      refine ev_getRb cls12 (j := 47) (by decide) rfl w1298 h13 e15 (nz_ne h16) d12_wayOf_37 ?_
      refine ev_iconst ci_1 d12_wayOf_40 ?_
      refine ev_iload_n (j := 1) (i := 1) (q := 1) rfl rfl d12_wayOf_41 ?_
      obtain ⟨h17, hf⟩ := gd_some hf
      obtain ⟨h18, hf⟩ := gd_some hf
      obtain ⟨t19, e20, hf⟩ := lt_some hf
      refine ev_iast h17 h18 d12_wayOf_42 (ev_nmS e20 ?_)
      refine ev_aload_n (j := 0) (i := 0) (q := 0) rfl rfl d12_wayOf_43 ?_
      refine ev_getRb cls12 (j := 47) (by decide) rfl w1298 (mono_ob (mono_eI e20) h13) (tr_I e20 e15) (nz_ne h16) d12_wayOf_44 ?_
      refine ev_iconst ci_2 d12_wayOf_47 ?_
      refine ev_aload_n (j := 0) (i := 0) (q := 0) rfl rfl d12_wayOf_48 ?_
      refine ev_iload_n (j := 2) (i := 2) (q := 2) rfl rfl d12_wayOf_49 ?_
      refine ev_iload_n (j := 3) (i := 3) (q := 3) rfl rfl d12_wayOf_50 ?_
      obtain ⟨r21, t22, k23, hf⟩ := bd_some hf
      have q24 := s12_heightAt _ _ _ _ _ _ k23
      refine ev_callV (vs := [.int v2, .int v3]) (sk := [.int (2 : Int32), .ref b14]) cls12 (mono_ob (mono_eI e20) h13) q24 (by decide) (Nat.le_of_ble_eq_true rfl) w1595 w1597 ws62 w19 w1598 k12_heightAt rfl (Nat.le_of_ble_eq_true rfl) d12_wayOf_51 ?_
      obtain ⟨h25, hf⟩ := gd_some hf
      obtain ⟨t26, e27, hf⟩ := lt_some hf
      refine ev_iast (mono_ob q24.1 (mono_ob (mono_eI e20) h17)) h25 d12_wayOf_54 (ev_nmS e27 ?_)
      refine ev_aload_n (j := 0) (i := 0) (q := 0) rfl rfl d12_wayOf_55 ?_
      obtain ⟨b28, e29, hf⟩ := lt_some hf
      obtain ⟨h30, hf⟩ := gd_some hf
      refine ev_getRb cls12 (j := 47) (by decide) rfl w1298 (mono_ob (mono_eI e27) (mono_ob q24.1 (mono_ob (mono_eI e20) h13))) e29 (nz_ne h30) d12_wayOf_56 ?_
      refine ev_iconst ci_4 d12_wayOf_59 ?_
      refine ev_iload_n (j := 2) (i := 2) (q := 2) rfl rfl d12_wayOf_60 ?_
      obtain ⟨h31, hf⟩ := gd_some hf
      obtain ⟨h32, hf⟩ := gd_some hf
      obtain ⟨t33, e34, hf⟩ := lt_some hf
      refine ev_iast h31 h32 d12_wayOf_61 (ev_nmS e34 ?_)
      refine ev_aload_n (j := 0) (i := 0) (q := 0) rfl rfl d12_wayOf_62 ?_
      refine ev_iload (i := 5) (q := 5) rfl d12_wayOf_63 ?_
      refine ev_iload_n (j := 2) (i := 2) (q := 2) rfl rfl d12_wayOf_65 ?_
      refine ev_iload_n (j := 3) (i := 3) (q := 3) rfl rfl d12_wayOf_66 ?_
      obtain ⟨r35, t36, k37, hf⟩ := bd_some hf
      have q38 := s12_textOf _ _ _ _ _ _ _ k37
      refine ev_callV (vs := [.int v5, .int v2, .int v3]) (sk := []) cls12 (mono_ob (mono_eI e34) (mono_ob (mono_eI e27) (mono_ob q24.1 (mono_ob (mono_eI e20) h13)))) q38 (by decide) (Nat.le_of_ble_eq_true rfl) w1773 w1775 ws93 w19 w1776 k12_textOf rfl (Nat.le_of_ble_eq_true rfl) d12_wayOf_67 ?_
      refine ev_istore (lv2 := [(6, .int r35), (0, .ref v0), (1, .int v1), (2, .int v2), (3, .int v3), (4, .int v4), (5, .int v5)]) (i := 6) (by decide) rfl d12_wayOf_70 ?_
      refine ev_aload_n (j := 0) (i := 0) (q := 1) rfl rfl d12_wayOf_72 ?_
      refine ev_iload (i := 6) (q := 0) rfl d12_wayOf_73 ?_
      refine ev_iconst ci_4 d12_wayOf_75 ?_
      refine ev_iconst ci_4 d12_wayOf_76 ?_
      obtain ⟨r39, t40, k41, hf⟩ := bd_some hf
      have q42 := s12_last _ _ _ _ _ _ _ k41
      refine ev_callV (vs := [.int r35, .int (4 : Int32), .int (4 : Int32)]) (sk := []) cls12 (mono_ob q38.1 (mono_ob (mono_eI e34) (mono_ob (mono_eI e27) (mono_ob q24.1 (mono_ob (mono_eI e20) h13))))) q42 (by decide) (Nat.le_of_ble_eq_true rfl) w1777 w1779 ws94 w19 w1780 k12_last rfl (Nat.le_of_ble_eq_true rfl) d12_wayOf_77 ?_
      refine ev_istore (lv2 := [(7, .int r39), (6, .int r35), (0, .ref v0), (1, .int v1), (2, .int v2), (3, .int v3), (4, .int v4), (5, .int v5)]) (i := 7) (by decide) rfl d12_wayOf_80 ?_
      refine ev_iload (i := 7) (q := 0) rfl d12_wayOf_82 ?_
      refine ev_iconst ci_m1 d12_wayOf_84 ?_
      rcases ite_some hf with ⟨c43, hf⟩ | ⟨c43, hf⟩
      · refine ev_icmp_eq_P (tgt := 121) c43 (by decide) d12_wayOf_85 ?_
        exact Ev.sub [2, 3, 4, 5, 6, 7] rfl (s12_wayOf_p121 hK6 _ _ _ _ _ _ _ _ _ hf)
      · refine ev_icmp_eq_Q (tgt := 121) c43 (by decide) d12_wayOf_85 ?_
        refine ev_aload_n (j := 0) (i := 0) (q := 2) rfl rfl d12_wayOf_88 ?_
        obtain ⟨b44, e45, hf⟩ := lt_some hf
        obtain ⟨h46, hf⟩ := gd_some hf
        refine ev_getRb cls12 (j := 27) (by decide) rfl w1278 (mono_ob q42.1 (mono_ob q38.1 (mono_ob (mono_eI e34) (mono_ob (mono_eI e27) (mono_ob q24.1 (mono_ob (mono_eI e20) h13)))))) e45 (nz_ne h46) d12_wayOf_89 ?_
        refine ev_bipush cb_20 d12_wayOf_92 ?_
        refine ev_iload (i := 6) (q := 1) rfl d12_wayOf_94 ?_
        refine ev_imul d12_wayOf_96 ?_
        refine ev_iload (i := 7) (q := 0) rfl d12_wayOf_97 ?_
        refine ev_iadd d12_wayOf_99 ?_
        obtain ⟨h47, hf⟩ := gd_some hf
        obtain ⟨h48, hf⟩ := gd_some hf
        refine ev_iald h47 h48 d12_wayOf_100 ?_
        refine ev_iload (i := 4) (q := 6) rfl d12_wayOf_101 ?_
        rcases ite_some hf with ⟨c49, hf⟩ | ⟨c49, hf⟩
        · refine ev_icmp_le_P (tgt := 121) c49 (by decide) d12_wayOf_103 ?_
          exact Ev.sub [2, 3, 4, 5, 6, 7] rfl (s12_wayOf_p121 hK6 _ _ _ _ _ _ _ _ _ hf)
        · refine ev_icmp_le_Q (tgt := 121) c49 (by decide) d12_wayOf_103 ?_
          refine ev_aload_n (j := 0) (i := 0) (q := 2) rfl rfl d12_wayOf_106 ?_
          refine ev_getRb cls12 (j := 27) (by decide) rfl w1278 (mono_ob q42.1 (mono_ob q38.1 (mono_ob (mono_eI e34) (mono_ob (mono_eI e27) (mono_ob q24.1 (mono_ob (mono_eI e20) h13)))))) e45 (nz_ne h46) d12_wayOf_107 ?_
          refine ev_bipush cb_20 d12_wayOf_110 ?_
          refine ev_iload (i := 6) (q := 1) rfl d12_wayOf_112 ?_
          refine ev_imul d12_wayOf_114 ?_
          refine ev_iload (i := 7) (q := 0) rfl d12_wayOf_115 ?_
          refine ev_iadd d12_wayOf_117 ?_
          refine ev_iald h47 h48 d12_wayOf_118 ?_
          obtain ⟨y50, e51, hf⟩ := lt_some hf
          refine ev_nmI e51 ?_
          refine ev_istore (lv2 := [(4, .int y50), (7, .int r39), (6, .int r35), (0, .ref v0), (1, .int v1), (2, .int v2), (3, .int v3), (5, .int v5)]) (i := 4) (by decide) rfl d12_wayOf_119 ?_
          exact Ev.sub [3, 4, 5, 6, 0, 7] rfl (s12_wayOf_p121 hK6 _ _ _ _ _ _ _ _ _ hf)
def f12_wayOf_p6 : Nat → St → Nat → Int32 → Int32 → Int32 → Int32 → Int32 → Option (Int32 × St)
  | 0, _, _, _, _, _, _, _ => none
  | n + 1, σ, v0, v1, v2, v3, v4, v5 =>
  (if v5 < (2 : Int32) then
  f12_wayOf_p15 (f12_wayOf_p6 n) FU σ v0 v1 v2 v3 v4 v5 (0 : Int32)
  else
  some (v4, σ))
set_option maxRecDepth 20000 in
theorem s12_wayOf_p6 : ∀ (n : Nat) (σ : St) (v0 : Nat) (v1 : Int32) (v2 : Int32) (v3 : Int32) (v4 : Int32) (v5 : Int32) (r : Int32) (τ : St), f12_wayOf_p6 n σ v0 v1 v2 v3 v4 v5 = some (r, τ) → Ev 6 m12_wayOf 6 [(0, .ref v0), (1, .int v1), (2, .int v2), (3, .int v3), (4, .int v4), (5, .int v5)] [] σ (some (.int r)) τ := by
  intro n
  induction n with
  | zero =>
    intro σ v0 v1 v2 v3 v4 v5 r τ hf
    cases hf
  | succ n ih =>
    intro σ v0 v1 v2 v3 v4 v5 r τ hf
    rw [f12_wayOf_p6] at hf
    refine ev_iload (i := 5) (q := 5) rfl d12_wayOf_6 ?_
    refine ev_iconst ci_2 d12_wayOf_8 ?_
    rcases ite_some hf with ⟨c1, hf⟩ | ⟨c1, hf⟩
    · refine ev_icmp_ge_P (tgt := 127) c1 (by decide) d12_wayOf_9 ?_
      refine ev_iconst ci_0 d12_wayOf_12 ?_
      refine ev_istore (lv2 := [(6, .int (0 : Int32)), (0, .ref v0), (1, .int v1), (2, .int v2), (3, .int v3), (4, .int v4), (5, .int v5)]) (i := 6) (by decide) rfl d12_wayOf_13 ?_
      exact Ev.sub [1, 2, 3, 4, 5, 6, 0] rfl (s12_wayOf_p15 ih FU _ _ _ _ _ _ _ _ _ _ hf)
    · refine ev_icmp_ge_Q (tgt := 127) c1 (by decide) d12_wayOf_9 ?_
      refine ev_iload (i := 4) (q := 4) rfl d12_wayOf_127 ?_
      obtain ⟨rfl, rfl⟩ := ret_some hf
      exact ev_iret rfl d12_wayOf_129
def f12_wayOf (σ : St) (v0 : Nat) (v1 : Int32) (v2 : Int32) (v3 : Int32) : Option (Int32 × St) :=
  f12_wayOf_p6 FU σ v0 v1 v2 v3 (0 : Int32) (0 : Int32)
set_option maxRecDepth 50000 in
theorem s12_wayOf : ∀ (σ : St) (v0 : Nat) (v1 : Int32) (v2 : Int32) (v3 : Int32) (r : Int32) (τ : St), f12_wayOf σ v0 v1 v2 v3 = some (r, τ) → Call 6 m12_wayOf [.ref v0, .int v1, .int v2, .int v3] σ (some (.int r)) τ := by
  intro σ v0 v1 v2 v3 r τ hf
  unfold f12_wayOf at hf
  refine Call.of (by decide +kernel) rfl (Nat.le_of_ble_eq_true rfl) ?_
  refine ev_iconst ci_0 d12_wayOf_0 ?_
  refine ev_istore (lv2 := [(4, .int (0 : Int32)), (0, .ref v0), (1, .int v1), (2, .int v2), (3, .int v3)]) (i := 4) (by decide) rfl d12_wayOf_1 ?_
  refine ev_iconst ci_0 d12_wayOf_3 ?_
  refine ev_istore (lv2 := [(5, .int (0 : Int32)), (4, .int (0 : Int32)), (0, .ref v0), (1, .int v1), (2, .int v2), (3, .int v3)]) (i := 5) (by decide) rfl d12_wayOf_4 ?_
  exact Ev.sub [2, 3, 4, 5, 1, 0] rfl (s12_wayOf_p6 FU _ _ _ _ _ _ _ _ _ hf)
abbrev m12_way : MD := ("MillBoatsModel", ⟨"MillBoatsModel", "way", "(III)I"⟩, prog_14_method_78_code, 4, (some Jvm.ClassFile.FieldType.int))
theorem k12_way : okY m12_way.2.1 3 := ⟨by decide +kernel, by decide +kernel, by decide +kernel⟩
def f12_way (σ : St) (v0 : Nat) (v1 : Int32) (v2 : Int32) (v3 : Int32) : Option (Int32 × St) :=
  gd (ob σ v0 12) (
  lt (wI σ v0 0 (0 : Int32)) fun t2 => (
  bd (f12_within t2 v1 (0 : Int32) (11 : Int32)) fun r4 t5 => (
  (if r4 = (0 : Int32) then
  some ((-1 : Int32), t5)
  else
  bd (f12_isKnown t5 v0 v2 v3) fun r9 t10 => (
  (if r9 = (0 : Int32) then
  some ((-1 : Int32), t10)
  else
  bd (f12_wayOf t10 v0 v1 v2 v3) fun r14 t15 => (
  some (r14, t15))))))))
set_option maxRecDepth 50000 in
theorem s12_way : ∀ (σ : St) (v0 : Nat) (v1 : Int32) (v2 : Int32) (v3 : Int32) (r : Int32) (τ : St), f12_way σ v0 v1 v2 v3 = some (r, τ) → Call 7 m12_way [.ref v0, .int v1, .int v2, .int v3] σ (some (.int r)) τ := by
  intro σ v0 v1 v2 v3 r τ hf
  unfold f12_way at hf
  refine Call.of (by decide +kernel) rfl (Nat.le_of_ble_eq_true rfl) ?_
  refine ev_aload_n (j := 0) (i := 0) (q := 0) rfl rfl d12_way_0 ?_
  refine ev_iconst ci_0 d12_way_1 ?_
  obtain ⟨h1, hf⟩ := gd_some hf
  obtain ⟨t2, e3, hf⟩ := lt_some hf
  refine ev_putI cls12 (j := 0) (by decide) rfl rfl w1251 h1 (fun _ => ⟨rfl, rfl⟩) d12_way_2 (ev_nmS e3 ?_)
  refine ev_iload_n (j := 1) (i := 1) (q := 1) rfl rfl d12_way_5 ?_
  refine ev_iconst ci_0 d12_way_6 ?_
  refine ev_bipush cb_11 d12_way_7 ?_
  obtain ⟨r4, t5, k6, hf⟩ := bd_some hf
  have q7 := s12_within _ _ _ _ _ _ k6
  refine ev_callS (vs := [.int v1, .int (0 : Int32), .int (11 : Int32)]) (sk := []) q7 (by decide) (Nat.le_of_ble_eq_true rfl) w1497 w1498 w19 w1499 k12_within rfl (Nat.le_of_ble_eq_true rfl) d12_way_9 ?_
  rcases ite_some hf with ⟨c8, hf⟩ | ⟨c8, hf⟩
  · refine ev_if_eq_P (tgt := 34) c8 (by decide) d12_way_12 ?_
    refine ev_iconst ci_m1 d12_way_34 ?_
    obtain ⟨rfl, rfl⟩ := ret_some hf
    exact ev_iret rfl d12_way_35
  · refine ev_if_eq_Q (tgt := 34) c8 (by decide) d12_way_12 ?_
    refine ev_aload_n (j := 0) (i := 0) (q := 0) rfl rfl d12_way_15 ?_
    refine ev_iload_n (j := 2) (i := 2) (q := 2) rfl rfl d12_way_16 ?_
    refine ev_iload_n (j := 3) (i := 3) (q := 3) rfl rfl d12_way_17 ?_
    obtain ⟨r9, t10, k11, hf⟩ := bd_some hf
    have q12 := s12_isKnown _ _ _ _ _ _ k11
    refine ev_callV (vs := [.int v2, .int v3]) (sk := []) cls12 (mono_ob q7.1 (mono_ob (mono_eI e3) h1)) q12 (by decide) (Nat.le_of_ble_eq_true rfl) w1591 w1593 ws61 w19 w1594 k12_isKnown rfl (Nat.le_of_ble_eq_true rfl) d12_way_18 ?_
    rcases ite_some hf with ⟨c13, hf⟩ | ⟨c13, hf⟩
    · refine ev_if_eq_P (tgt := 34) c13 (by decide) d12_way_21 ?_
      refine ev_iconst ci_m1 d12_way_34 ?_
      obtain ⟨rfl, rfl⟩ := ret_some hf
      exact ev_iret rfl d12_way_35
    · refine ev_if_eq_Q (tgt := 34) c13 (by decide) d12_way_21 ?_
      refine ev_aload_n (j := 0) (i := 0) (q := 0) rfl rfl d12_way_24 ?_
      refine ev_iload_n (j := 1) (i := 1) (q := 1) rfl rfl d12_way_25 ?_
      refine ev_iload_n (j := 2) (i := 2) (q := 2) rfl rfl d12_way_26 ?_
      refine ev_iload_n (j := 3) (i := 3) (q := 3) rfl rfl d12_way_27 ?_
      obtain ⟨r14, t15, k16, hf⟩ := bd_some hf
      have q17 := s12_wayOf _ _ _ _ _ _ _ k16
      refine ev_callV (vs := [.int v1, .int v2, .int v3]) (sk := []) cls12 (mono_ob q12.1 (mono_ob q7.1 (mono_ob (mono_eI e3) h1))) q17 (by decide) (Nat.le_of_ble_eq_true rfl) w1803 w1805 ws96 w19 w1806 k12_wayOf rfl (Nat.le_of_ble_eq_true rfl) d12_way_28 ?_
      refine ev_goto (tgt := 35) (by decide) d12_way_31 ?_
      obtain ⟨rfl, rfl⟩ := ret_some hf
      exact ev_iret rfl d12_way_35
abbrev m12_freeLanes : MD := ("MillBoatsModel", ⟨"MillBoatsModel", "freeLanes", "(II)I"⟩, prog_14_method_79_code, 7, (some Jvm.ClassFile.FieldType.int))
theorem k12_freeLanes : okY m12_freeLanes.2.1 2 := ⟨by decide +kernel, by decide +kernel, by decide +kernel⟩
def f12_freeLanes_p65 (K8 : St → Nat → Int32 → Int32 → Int32 → Int32 → Int32 → Option (Int32 × St)) (σ : St) (v0 : Nat) (v1 : Int32) (v2 : Int32) (v3 : Int32) (v5 : Int32) (x0 : Int32) : Option (Int32 × St) :=
  lt (v5 + (1 : Int32)) fun y16 => (
  K8 σ v0 v1 v2 v3 x0 y16)
set_option maxRecDepth 20000 in
theorem s12_freeLanes_p65 {K8 : St → Nat → Int32 → Int32 → Int32 → Int32 → Int32 → Option (Int32 × St)} (hK8 : ∀ (σ : St) (v0 : Nat) (v1 : Int32) (v2 : Int32) (v3 : Int32) (v4 : Int32) (v5 : Int32) (r : Int32) (τ : St), K8 σ v0 v1 v2 v3 v4 v5 = some (r, τ) → Ev 3 m12_freeLanes 8 [(0, .ref v0), (1, .int v1), (2, .int v2), (3, .int v3), (4, .int v4), (5, .int v5)] [] σ (some (.int r)) τ) : ∀ (σ : St) (v0 : Nat) (v1 : Int32) (v2 : Int32) (v3 : Int32) (v5 : Int32) (x0 : Int32) (r : Int32) (τ : St), f12_freeLanes_p65 K8 σ v0 v1 v2 v3 v5 x0 = some (r, τ) → Ev 3 m12_freeLanes 65 [(0, .ref v0), (1, .int v1), (2, .int v2), (3, .int v3), (5, .int v5)] [.int x0] σ (some (.int r)) τ := by
  intro σ v0 v1 v2 v3 v5 x0 r τ hf
  unfold f12_freeLanes_p65 at hf
  refine ev_istore (lv2 := [(4, .int x0), (0, .ref v0), (1, .int v1), (2, .int v2), (3, .int v3), (5, .int v5)]) (i := 4) (by decide) rfl d12_freeLanes_65 ?_
  obtain ⟨y16, e17, hf⟩ := lt_some hf
  refine ev_iinc (lv2 := [(5, .int y16), (4, .int x0), (0, .ref v0), (1, .int v1), (2, .int v2), (3, .int v3)]) (i := 5) (q := 5) (v := y16) (n := 1) rfl (by rw [ci_1]; exact e17.symm) (by decide) rfl d12_freeLanes_67 ?_
  refine ev_goto (tgt := 8) (by decide) d12_freeLanes_70 ?_
  exact Ev.sub [2, 3, 4, 5, 1, 0] rfl (hK8 _ _ _ _ _ _ _ _ _ hf)
def f12_freeLanes_p52 (K8 : St → Nat → Int32 → Int32 → Int32 → Int32 → Int32 → Option (Int32 × St)) (σ : St) (v0 : Nat) (v1 : Int32) (v2 : Int32) (v4 : Int32) (v5 : Int32) (x0 : Int32) : Option (Int32 × St) :=
  (if x0 ≤ v4 then
  f12_freeLanes_p65 K8 σ v0 v1 v2 x0 v5 v4
  else
  f12_freeLanes_p65 K8 σ v0 v1 v2 x0 v5 x0)
set_option maxRecDepth 20000 in
theorem s12_freeLanes_p52 {K8 : St → Nat → Int32 → Int32 → Int32 → Int32 → Int32 → Option (Int32 × St)} (hK8 : ∀ (σ : St) (v0 : Nat) (v1 : Int32) (v2 : Int32) (v3 : Int32) (v4 : Int32) (v5 : Int32) (r : Int32) (τ : St), K8 σ v0 v1 v2 v3 v4 v5 = some (r, τ) → Ev 3 m12_freeLanes 8 [(0, .ref v0), (1, .int v1), (2, .int v2), (3, .int v3), (4, .int v4), (5, .int v5)] [] σ (some (.int r)) τ) : ∀ (σ : St) (v0 : Nat) (v1 : Int32) (v2 : Int32) (v4 : Int32) (v5 : Int32) (x0 : Int32) (r : Int32) (τ : St), f12_freeLanes_p52 K8 σ v0 v1 v2 v4 v5 x0 = some (r, τ) → Ev 3 m12_freeLanes 52 [(0, .ref v0), (1, .int v1), (2, .int v2), (4, .int v4), (5, .int v5)] [.int x0] σ (some (.int r)) τ := by
  intro σ v0 v1 v2 v4 v5 x0 r τ hf
  unfold f12_freeLanes_p52 at hf
  refine ev_istore_n (lv2 := [(3, .int x0), (0, .ref v0), (1, .int v1), (2, .int v2), (4, .int v4), (5, .int v5)]) (j := 3) (i := 3) rfl (by decide) rfl d12_freeLanes_52 ?_
  refine ev_iload_n (j := 3) (i := 3) (q := 0) rfl rfl d12_freeLanes_53 ?_
  refine ev_iload (i := 4) (q := 4) rfl d12_freeLanes_54 ?_
  rcases ite_some hf with ⟨c15, hf⟩ | ⟨c15, hf⟩
  · refine ev_icmp_le_P (tgt := 63) c15 (by decide) d12_freeLanes_56 ?_
    refine ev_iload (i := 4) (q := 4) rfl d12_freeLanes_63 ?_
    exact Ev.sub [1, 2, 3, 0, 5] rfl (s12_freeLanes_p65 hK8 _ _ _ _ _ _ _ _ _ hf)
  · refine ev_icmp_le_Q (tgt := 63) c15 (by decide) d12_freeLanes_56 ?_
    refine ev_iload_n (j := 3) (i := 3) (q := 0) rfl rfl d12_freeLanes_59 ?_
    refine ev_goto (tgt := 65) (by decide) d12_freeLanes_60 ?_
    exact Ev.sub [1, 2, 3, 0, 5] rfl (s12_freeLanes_p65 hK8 _ _ _ _ _ _ _ _ _ hf)
def f12_freeLanes_p51 (K8 : St → Nat → Int32 → Int32 → Int32 → Int32 → Int32 → Option (Int32 × St)) (σ : St) (v0 : Nat) (v1 : Int32) (v2 : Int32) (v4 : Int32) (v5 : Int32) : Option (Int32 × St) :=
  f12_freeLanes_p52 K8 σ v0 v1 v2 v4 v5 (0 : Int32)
set_option maxRecDepth 20000 in
theorem s12_freeLanes_p51 {K8 : St → Nat → Int32 → Int32 → Int32 → Int32 → Int32 → Option (Int32 × St)} (hK8 : ∀ (σ : St) (v0 : Nat) (v1 : Int32) (v2 : Int32) (v3 : Int32) (v4 : Int32) (v5 : Int32) (r : Int32) (τ : St), K8 σ v0 v1 v2 v3 v4 v5 = some (r, τ) → Ev 3 m12_freeLanes 8 [(0, .ref v0), (1, .int v1), (2, .int v2), (3, .int v3), (4, .int v4), (5, .int v5)] [] σ (some (.int r)) τ) : ∀ (σ : St) (v0 : Nat) (v1 : Int32) (v2 : Int32) (v4 : Int32) (v5 : Int32) (r : Int32) (τ : St), f12_freeLanes_p51 K8 σ v0 v1 v2 v4 v5 = some (r, τ) → Ev 3 m12_freeLanes 51 [(0, .ref v0), (1, .int v1), (2, .int v2), (4, .int v4), (5, .int v5)] [] σ (some (.int r)) τ := by
  intro σ v0 v1 v2 v4 v5 r τ hf
  unfold f12_freeLanes_p51 at hf
  refine ev_iconst ci_0 d12_freeLanes_51 ?_
  exact Ev.sub [0, 1, 2, 3, 4] rfl (s12_freeLanes_p52 hK8 _ _ _ _ _ _ _ _ _ hf)
def f12_freeLanes_p8 : Nat → St → Nat → Int32 → Int32 → Int32 → Int32 → Int32 → Option (Int32 × St)
  | 0, _, _, _, _, _, _, _ => none
  | n + 1, σ, v0, v1, v2, v3, v4, v5 =>
  (if v5 < (6 : Int32) then
  lt (((12 : Int32) * v5) + v1) fun y2 => (
  gd (ob σ v0 12) (
  bd (f12_millAt σ v0 y2) fun r5 t6 => (
  (if r5 = (-1 : Int32) then
  bd (f12_depth t6 v0 y2 v2) fun r10 t11 => (
  (if r10 < (2 : Int32) then
  f12_freeLanes_p51 (f12_freeLanes_p8 n) t11 v0 v1 v2 v4 v5
  else
  f12_freeLanes_p52 (f12_freeLanes_p8 n) t11 v0 v1 v2 v4 v5 (v3 + (1 : Int32))))
  else
  f12_freeLanes_p51 (f12_freeLanes_p8 n) t6 v0 v1 v2 v4 v5))))
  else
  some (v4, σ))
set_option maxRecDepth 20000 in
theorem s12_freeLanes_p8 : ∀ (n : Nat) (σ : St) (v0 : Nat) (v1 : Int32) (v2 : Int32) (v3 : Int32) (v4 : Int32) (v5 : Int32) (r : Int32) (τ : St), f12_freeLanes_p8 n σ v0 v1 v2 v3 v4 v5 = some (r, τ) → Ev 3 m12_freeLanes 8 [(0, .ref v0), (1, .int v1), (2, .int v2), (3, .int v3), (4, .int v4), (5, .int v5)] [] σ (some (.int r)) τ := by
  intro n
  induction n with
  | zero =>
    intro σ v0 v1 v2 v3 v4 v5 r τ hf
    cases hf
  | succ n ih =>
    intro σ v0 v1 v2 v3 v4 v5 r τ hf
    rw [f12_freeLanes_p8] at hf
    refine ev_iload (i := 5) (q := 5) rfl d12_freeLanes_8 ?_
    refine ev_bipush cb_6 d12_freeLanes_10 ?_
    rcases ite_some hf with ⟨c1, hf⟩ | ⟨c1, hf⟩
    · refine ev_icmp_ge_P (tgt := 73) c1 (by decide) d12_freeLanes_12 ?_
      refine ev_bipush cb_12 d12_freeLanes_15 ?_
      refine ev_iload (i := 5) (q := 5) rfl d12_freeLanes_17 ?_
      refine ev_imul d12_freeLanes_19 ?_
      refine ev_iload_n (j := 1) (i := 1) (q := 1) rfl rfl d12_freeLanes_20 ?_
      refine ev_iadd d12_freeLanes_21 ?_
      obtain ⟨y2, e3, hf⟩ := lt_some hf
      refine ev_nmI e3 ?_
      refine ev_istore (lv2 := [(6, .int y2), (0, .ref v0), (1, .int v1), (2, .int v2), (3, .int v3), (4, .int v4), (5, .int v5)]) (i := 6) (by decide) rfl d12_freeLanes_22 ?_
      refine ev_aload_n (j := 0) (i := 0) (q := 1) rfl rfl d12_freeLanes_24 ?_
      refine ev_iload (i := 6) (q := 0) rfl d12_freeLanes_25 ?_
      obtain ⟨h4, hf⟩ := gd_some hf
      obtain ⟨r5, t6, k7, hf⟩ := bd_some hf
      have q8 := s12_millAt _ _ _ _ _ k7
      refine ev_callV (vs := [.int y2]) (sk := []) cls12 h4 q8 (by decide) (Nat.le_of_ble_eq_true rfl) w1524 w1526 ws53 w19 w1527 k12_millAt rfl (Nat.le_of_ble_eq_true rfl) d12_freeLanes_27 ?_
      refine ev_iconst ci_m1 d12_freeLanes_30 ?_
      rcases ite_some hf with ⟨c9, hf⟩ | ⟨c9, hf⟩
      · refine ev_icmp_ne_P (tgt := 51) c9 (by decide) d12_freeLanes_31 ?_
        refine ev_aload_n (j := 0) (i := 0) (q := 1) rfl rfl d12_freeLanes_34 ?_
        refine ev_iload (i := 6) (q := 0) rfl d12_freeLanes_35 ?_
        refine ev_iload_n (j := 2) (i := 2) (q := 3) rfl rfl d12_freeLanes_37 ?_
        obtain ⟨r10, t11, k12, hf⟩ := bd_some hf
        have q13 := s12_depth _ _ _ _ _ _ k12
        refine ev_callV (vs := [.int y2, .int v2]) (sk := []) cls12 (mono_ob q8.1 h4) q13 (by decide) (Nat.le_of_ble_eq_true rfl) w1556 w1558 ws58 w19 w1559 k12_depth rfl (Nat.le_of_ble_eq_true rfl) d12_freeLanes_38 ?_
        refine ev_iconst ci_2 d12_freeLanes_41 ?_
        rcases ite_some hf with ⟨c14, hf⟩ | ⟨c14, hf⟩
        · refine ev_icmp_lt_P (tgt := 51) c14 (by decide) d12_freeLanes_42 ?_
          exact Ev.sub [1, 2, 3, 5, 6] rfl (s12_freeLanes_p51 ih _ _ _ _ _ _ _ _ hf)
        · refine ev_icmp_lt_Q (tgt := 51) c14 (by decide) d12_freeLanes_42 ?_
          refine ev_iload_n (j := 3) (i := 3) (q := 4) rfl rfl d12_freeLanes_45 ?_
          refine ev_iconst ci_1 d12_freeLanes_46 ?_
          refine ev_iadd d12_freeLanes_47 ?_
          refine ev_goto (tgt := 52) (by decide) d12_freeLanes_48 ?_
          exact Ev.sub [1, 2, 3, 5, 6] rfl (s12_freeLanes_p52 ih _ _ _ _ _ _ _ _ _ hf)
      · refine ev_icmp_ne_Q (tgt := 51) c9 (by decide) d12_freeLanes_31 ?_
        exact Ev.sub [1, 2, 3, 5, 6] rfl (s12_freeLanes_p51 ih _ _ _ _ _ _ _ _ hf)
    · refine ev_icmp_ge_Q (tgt := 73) c1 (by decide) d12_freeLanes_12 ?_
      refine ev_iload (i := 4) (q := 4) rfl d12_freeLanes_73 ?_
      obtain ⟨rfl, rfl⟩ := ret_some hf
      exact ev_iret rfl d12_freeLanes_75
def f12_freeLanes (σ : St) (v0 : Nat) (v1 : Int32) (v2 : Int32) : Option (Int32 × St) :=
  f12_freeLanes_p8 FU σ v0 v1 v2 (0 : Int32) (0 : Int32) (0 : Int32)
set_option maxRecDepth 50000 in
theorem s12_freeLanes : ∀ (σ : St) (v0 : Nat) (v1 : Int32) (v2 : Int32) (r : Int32) (τ : St), f12_freeLanes σ v0 v1 v2 = some (r, τ) → Call 3 m12_freeLanes [.ref v0, .int v1, .int v2] σ (some (.int r)) τ := by
  intro σ v0 v1 v2 r τ hf
  unfold f12_freeLanes at hf
  refine Call.of (by decide +kernel) rfl (Nat.le_of_ble_eq_true rfl) ?_
  refine ev_iconst ci_0 d12_freeLanes_0 ?_
  refine ev_istore_n (lv2 := [(3, .int (0 : Int32)), (0, .ref v0), (1, .int v1), (2, .int v2)]) (j := 3) (i := 3) rfl (by decide) rfl d12_freeLanes_1 ?_
  refine ev_iconst ci_0 d12_freeLanes_2 ?_
  refine ev_istore (lv2 := [(4, .int (0 : Int32)), (3, .int (0 : Int32)), (0, .ref v0), (1, .int v1), (2, .int v2)]) (i := 4) (by decide) rfl d12_freeLanes_3 ?_
  refine ev_iconst ci_0 d12_freeLanes_5 ?_
  refine ev_istore (lv2 := [(5, .int (0 : Int32)), (4, .int (0 : Int32)), (3, .int (0 : Int32)), (0, .ref v0), (1, .int v1), (2, .int v2)]) (i := 5) (by decide) rfl d12_freeLanes_6 ?_
  exact Ev.sub [3, 4, 5, 2, 1, 0] rfl (s12_freeLanes_p8 FU _ _ _ _ _ _ _ _ _ hf)
abbrev m12_kept : MD := ("MillBoatsModel", ⟨"MillBoatsModel", "kept", "(I)I"⟩, prog_14_method_80_code, 2, (some Jvm.ClassFile.FieldType.int))
theorem k12_kept : okY m12_kept.2.1 1 := ⟨by decide +kernel, by decide +kernel, by decide +kernel⟩
def f12_kept (σ : St) (v0 : Nat) (v1 : Int32) : Option (Int32 × St) :=
  gd (ob σ v0 12) (
  lt (wI σ v0 0 (0 : Int32)) fun t2 => (
  bd (f12_within t2 v1 (0 : Int32) (11 : Int32)) fun r4 t5 => (
  (if r4 = (0 : Int32) then
  some ((-1 : Int32), t5)
  else
  bd (f12_heightAt t5 v0 (sI t5 v0 14) (sI t5 v0 14)) fun r9 t10 => (
  bd (f12_freeLanes t10 v0 v1 r9) fun r13 t14 => (
  bd (f12_wayOf t14 v0 v1 (sI t14 v0 14) (sI t14 v0 14)) fun r17 t18 => (
  (if r13 < r17 then
  some ((0 : Int32), t18)
  else
  some ((1 : Int32), t18)))))))))
set_option maxRecDepth 50000 in
theorem s12_kept : ∀ (σ : St) (v0 : Nat) (v1 : Int32) (r : Int32) (τ : St), f12_kept σ v0 v1 = some (r, τ) → Call 7 m12_kept [.ref v0, .int v1] σ (some (.int r)) τ := by
  intro σ v0 v1 r τ hf
  unfold f12_kept at hf
  refine Call.of (by decide +kernel) rfl (Nat.le_of_ble_eq_true rfl) ?_
  refine ev_aload_n (j := 0) (i := 0) (q := 0) rfl rfl d12_kept_0 ?_
  refine ev_iconst ci_0 d12_kept_1 ?_
  obtain ⟨h1, hf⟩ := gd_some hf
  obtain ⟨t2, e3, hf⟩ := lt_some hf
  refine ev_putI cls12 (j := 0) (by decide) rfl rfl w1251 h1 (fun _ => ⟨rfl, rfl⟩) d12_kept_2 (ev_nmS e3 ?_)
  refine ev_iload_n (j := 1) (i := 1) (q := 1) rfl rfl d12_kept_5 ?_
  refine ev_iconst ci_0 d12_kept_6 ?_
  refine ev_bipush cb_11 d12_kept_7 ?_
  obtain ⟨r4, t5, k6, hf⟩ := bd_some hf
  have q7 := s12_within _ _ _ _ _ _ k6
  refine ev_callS (vs := [.int v1, .int (0 : Int32), .int (11 : Int32)]) (sk := []) q7 (by decide) (Nat.le_of_ble_eq_true rfl) w1497 w1498 w19 w1499 k12_within rfl (Nat.le_of_ble_eq_true rfl) d12_kept_9 ?_
  rcases ite_some hf with ⟨c8, hf⟩ | ⟨c8, hf⟩
  · refine ev_if_ne_P (tgt := 17) c8 (by decide) d12_kept_12 ?_
    refine ev_iconst ci_m1 d12_kept_15 ?_
    obtain ⟨rfl, rfl⟩ := ret_some hf
    exact ev_iret rfl d12_kept_16
  · refine ev_if_ne_Q (tgt := 17) c8 (by decide) d12_kept_12 ?_
    refine ev_aload_n (j := 0) (i := 0) (q := 0) rfl rfl d12_kept_17 ?_
    refine ev_iload_n (j := 1) (i := 1) (q := 1) rfl rfl d12_kept_18 ?_
    refine ev_aload_n (j := 0) (i := 0) (q := 0) rfl rfl d12_kept_19 ?_
    refine ev_aload_n (j := 0) (i := 0) (q := 0) rfl rfl d12_kept_20 ?_
    refine ev_getI cls12 (j := 14) (by decide) rfl w1265 (mono_ob q7.1 (mono_ob (mono_eI e3) h1)) d12_kept_21 ?_
    refine ev_aload_n (j := 0) (i := 0) (q := 0) rfl rfl d12_kept_24 ?_
    refine ev_getI cls12 (j := 14) (by decide) rfl w1265 (mono_ob q7.1 (mono_ob (mono_eI e3) h1)) d12_kept_25 ?_
    obtain ⟨r9, t10, k11, hf⟩ := bd_some hf
    have q12 := s12_heightAt _ _ _ _ _ _ k11
    refine ev_callV (vs := [.int (sI t5 v0 14), .int (sI t5 v0 14)]) (sk := [.int v1, .ref v0]) cls12 (mono_ob q7.1 (mono_ob (mono_eI e3) h1)) q12 (by decide) (Nat.le_of_ble_eq_true rfl) w1595 w1597 ws62 w19 w1598 k12_heightAt rfl (Nat.le_of_ble_eq_true rfl) d12_kept_28 ?_
    obtain ⟨r13, t14, k15, hf⟩ := bd_some hf
    have q16 := s12_freeLanes _ _ _ _ _ _ k15
    refine ev_callV (vs := [.int v1, .int r9]) (sk := []) cls12 (mono_ob q12.1 (mono_ob q7.1 (mono_ob (mono_eI e3) h1))) q16 (by decide) (Nat.le_of_ble_eq_true rfl) w1811 w1813 ws97 w19 w1814 k12_freeLanes rfl (Nat.le_of_ble_eq_true rfl) d12_kept_31 ?_
    refine ev_aload_n (j := 0) (i := 0) (q := 0) rfl rfl d12_kept_34 ?_
    refine ev_iload_n (j := 1) (i := 1) (q := 1) rfl rfl d12_kept_35 ?_
    refine ev_aload_n (j := 0) (i := 0) (q := 0) rfl rfl d12_kept_36 ?_
    refine ev_getI cls12 (j := 14) (by decide) rfl w1265 (mono_ob q16.1 (mono_ob q12.1 (mono_ob q7.1 (mono_ob (mono_eI e3) h1)))) d12_kept_37 ?_
    refine ev_aload_n (j := 0) (i := 0) (q := 0) rfl rfl d12_kept_40 ?_
    refine ev_getI cls12 (j := 14) (by decide) rfl w1265 (mono_ob q16.1 (mono_ob q12.1 (mono_ob q7.1 (mono_ob (mono_eI e3) h1)))) d12_kept_41 ?_
    obtain ⟨r17, t18, k19, hf⟩ := bd_some hf
    have q20 := s12_wayOf _ _ _ _ _ _ _ k19
    refine ev_callV (vs := [.int v1, .int (sI t14 v0 14), .int (sI t14 v0 14)]) (sk := [.int r13]) cls12 (mono_ob q16.1 (mono_ob q12.1 (mono_ob q7.1 (mono_ob (mono_eI e3) h1)))) q20 (by decide) (Nat.le_of_ble_eq_true rfl) w1803 w1805 ws96 w19 w1806 k12_wayOf rfl (Nat.le_of_ble_eq_true rfl) d12_kept_44 ?_
    rcases ite_some hf with ⟨c21, hf⟩ | ⟨c21, hf⟩
    · refine ev_icmp_lt_P (tgt := 54) c21 (by decide) d12_kept_47 ?_
      refine ev_iconst ci_0 d12_kept_54 ?_
      obtain ⟨rfl, rfl⟩ := ret_some hf
      exact ev_iret rfl d12_kept_55
    · refine ev_icmp_lt_Q (tgt := 54) c21 (by decide) d12_kept_47 ?_
      refine ev_iconst ci_1 d12_kept_50 ?_
      refine ev_goto (tgt := 55) (by decide) d12_kept_51 ?_
      obtain ⟨rfl, rfl⟩ := ret_some hf
      exact ev_iret rfl d12_kept_55
abbrev m12_tells : MD := ("MillBoatsModel", ⟨"MillBoatsModel", "tells", "(IIII)V"⟩, prog_14_method_81_code, 6, (none : Option Jvm.ClassFile.FieldType))
theorem k12_tells : okY m12_tells.2.1 4 := ⟨by decide +kernel, by decide +kernel, by decide +kernel⟩
def f12_tells (σ : St) (v0 : Nat) (v1 : Int32) (v2 : Int32) (v3 : Int32) (v4 : Int32) : Option (Unit × St) :=
  gd (ob σ v0 12) (
  (if (sI σ v0 49) = (300 : Int32) then
  some ((), σ)
  else
  lt ((5 : Int32) * (sI σ v0 49)) fun y3 => (
  lt (sR σ v0 50) fun b5 => (
  gd (nz b5) (
  gd (ob σ b5 14) (
  gd (inb σ b5 y3) (
  lt (wI σ b5 (ix y3) (sI σ v0 14)) fun t10 => (
  gd (inb t10 b5 (y3 + (1 : Int32))) (
  lt (wI t10 b5 (ix (y3 + (1 : Int32))) v1) fun t13 => (
  gd (inb t13 b5 (y3 + (2 : Int32))) (
  lt (wI t13 b5 (ix (y3 + (2 : Int32))) v2) fun t16 => (
  gd (inb t16 b5 (y3 + (3 : Int32))) (
  lt (wI t16 b5 (ix (y3 + (3 : Int32))) v3) fun t19 => (
  gd (inb t19 b5 (y3 + (4 : Int32))) (
  lt (wI t19 b5 (ix (y3 + (4 : Int32))) v4) fun t22 => (
  lt (wI t22 v0 49 ((sI t22 v0 49) + (1 : Int32))) fun t24 => (
  some ((), t24))))))))))))))))))
set_option maxRecDepth 50000 in
theorem s12_tells : ∀ (σ : St) (v0 : Nat) (v1 : Int32) (v2 : Int32) (v3 : Int32) (v4 : Int32) (r : Unit) (τ : St), f12_tells σ v0 v1 v2 v3 v4 = some (r, τ) → Call 2 m12_tells [.ref v0, .int v1, .int v2, .int v3, .int v4] σ none τ := by
  intro σ v0 v1 v2 v3 v4 r τ hf
  unfold f12_tells at hf
  refine Call.of (by decide +kernel) rfl (Nat.le_of_ble_eq_true rfl) ?_
  refine ev_aload_n (j := 0) (i := 0) (q := 0) rfl rfl d12_tells_0 ?_
  obtain ⟨h1, hf⟩ := gd_some hf
  refine ev_getI cls12 (j := 49) (by decide) rfl w1300 h1 d12_tells_1 ?_
  refine ev_sipush cs_300 d12_tells_4 ?_
  rcases ite_some hf with ⟨c2, hf⟩ | ⟨c2, hf⟩
  · refine ev_icmp_ne_P (tgt := 11) c2 (by decide) d12_tells_7 ?_
    obtain ⟨-, rfl⟩ := ret_some hf
    exact ev_vret rfl d12_tells_10
  · refine ev_icmp_ne_Q (tgt := 11) c2 (by decide) d12_tells_7 ?_
    refine ev_iconst ci_5 d12_tells_11 ?_
    refine ev_aload_n (j := 0) (i := 0) (q := 0) rfl rfl d12_tells_12 ?_
    refine ev_getI cls12 (j := 49) (by decide) rfl w1300 h1 d12_tells_13 ?_
    refine ev_imul d12_tells_16 ?_
    obtain ⟨y3, e4, hf⟩ := lt_some hf
    refine ev_nmI e4 ?_
    refine ev_istore (lv2 := [(5, .int y3), (0, .ref v0), (1, .int v1), (2, .int v2), (3, .int v3), (4, .int v4)]) (i := 5) (by decide) rfl d12_tells_17 ?_
    refine ev_aload_n (j := 0) (i := 0) (q := 1) rfl rfl d12_tells_19 ?_
    obtain ⟨b5, e6, hf⟩ := lt_some hf
    obtain ⟨h7, hf⟩ := gd_some hf
    refine ev_getRb cls12 (j := 50) (by decide) rfl w1301 h1 e6 (nz_ne h7) d12_tells_20 ?_
    refine ev_iload (i := 5) (q := 0) rfl d12_tells_23 ?_
    refine ev_aload_n (j := 0) (i := 0) (q := 1) rfl rfl d12_tells_25 ?_
    refine ev_getI cls12 (j := 14) (by decide) rfl w1265 h1 d12_tells_26 ?_
    obtain ⟨h8, hf⟩ := gd_some hf
    obtain ⟨h9, hf⟩ := gd_some hf
    obtain ⟨t10, e11, hf⟩ := lt_some hf
    refine ev_iast h8 h9 d12_tells_29 (ev_nmS e11 ?_)
    refine ev_aload_n (j := 0) (i := 0) (q := 1) rfl rfl d12_tells_30 ?_
    refine ev_getRb cls12 (j := 50) (by decide) rfl w1301 (mono_ob (mono_eI e11) h1) (tr_I e11 e6) (nz_ne h7) d12_tells_31 ?_
    refine ev_iload (i := 5) (q := 0) rfl d12_tells_34 ?_
    refine ev_iconst ci_1 d12_tells_36 ?_
    refine ev_iadd d12_tells_37 ?_
    refine ev_iload_n (j := 1) (i := 1) (q := 2) rfl rfl d12_tells_38 ?_
    obtain ⟨h12, hf⟩ := gd_some hf
    obtain ⟨t13, e14, hf⟩ := lt_some hf
    refine ev_iast (mono_ob (mono_eI e11) h8) h12 d12_tells_39 (ev_nmS e14 ?_)
    refine ev_aload_n (j := 0) (i := 0) (q := 1) rfl rfl d12_tells_40 ?_
    refine ev_getRb cls12 (j := 50) (by decide) rfl w1301 (mono_ob (mono_eI e14) (mono_ob (mono_eI e11) h1)) (tr_I e14 (tr_I e11 e6)) (nz_ne h7) d12_tells_41 ?_
    refine ev_iload (i := 5) (q := 0) rfl d12_tells_44 ?_
    refine ev_iconst ci_2 d12_tells_46 ?_
    refine ev_iadd d12_tells_47 ?_
    refine ev_iload_n (j := 2) (i := 2) (q := 3) rfl rfl d12_tells_48 ?_
    obtain ⟨h15, hf⟩ := gd_some hf
    obtain ⟨t16, e17, hf⟩ := lt_some hf
    refine ev_iast (mono_ob (mono_eI e14) (mono_ob (mono_eI e11) h8)) h15 d12_tells_49 (ev_nmS e17 ?_)
    refine ev_aload_n (j := 0) (i := 0) (q := 1) rfl rfl d12_tells_50 ?_
    refine ev_getRb cls12 (j := 50) (by decide) rfl w1301 (mono_ob (mono_eI e17) (mono_ob (mono_eI e14) (mono_ob (mono_eI e11) h1))) (tr_I e17 (tr_I e14 (tr_I e11 e6))) (nz_ne h7) d12_tells_51 ?_
    refine ev_iload (i := 5) (q := 0) rfl d12_tells_54 ?_
    refine ev_iconst ci_3 d12_tells_56 ?_
    refine ev_iadd d12_tells_57 ?_
    refine ev_iload_n (j := 3) (i := 3) (q := 4) rfl rfl d12_tells_58 ?_
    obtain ⟨h18, hf⟩ := gd_some hf
    obtain ⟨t19, e20, hf⟩ := lt_some hf
    refine ev_iast (mono_ob (mono_eI e17) (mono_ob (mono_eI e14) (mono_ob (mono_eI e11) h8))) h18 d12_tells_59 (ev_nmS e20 ?_)
    refine ev_aload_n (j := 0) (i := 0) (q := 1) rfl rfl d12_tells_60 ?_
    refine ev_getRb cls12 (j := 50) (by decide) rfl w1301 (mono_ob (mono_eI e20) (mono_ob (mono_eI e17) (mono_ob (mono_eI e14) (mono_ob (mono_eI e11) h1)))) (tr_I e20 (tr_I e17 (tr_I e14 (tr_I e11 e6)))) (nz_ne h7) d12_tells_61 ?_
    refine ev_iload (i := 5) (q := 0) rfl d12_tells_64 ?_
    refine ev_iconst ci_4 d12_tells_66 ?_
    refine ev_iadd d12_tells_67 ?_
    refine ev_iload (i := 4) (q := 5) rfl d12_tells_68 ?_
    obtain ⟨h21, hf⟩ := gd_some hf
    obtain ⟨t22, e23, hf⟩ := lt_some hf
    refine ev_iast (mono_ob (mono_eI e20) (mono_ob (mono_eI e17) (mono_ob (mono_eI e14) (mono_ob (mono_eI e11) h8)))) h21 d12_tells_70 (ev_nmS e23 ?_)
    refine ev_aload_n (j := 0) (i := 0) (q := 1) rfl rfl d12_tells_71 ?_
    refine ev_dup rfl d12_tells_72 ?_
    refine ev_getI cls12 (j := 49) (by decide) rfl w1300 (mono_ob (mono_eI e23) (mono_ob (mono_eI e20) (mono_ob (mono_eI e17) (mono_ob (mono_eI e14) (mono_ob (mono_eI e11) h1))))) d12_tells_73 ?_
    refine ev_iconst ci_1 d12_tells_76 ?_
    refine ev_iadd d12_tells_77 ?_
    obtain ⟨t24, e25, hf⟩ := lt_some hf
    refine ev_putI cls12 (j := 49) (by decide) rfl rfl w1300 (mono_ob (mono_eI e23) (mono_ob (mono_eI e20) (mono_ob (mono_eI e17) (mono_ob (mono_eI e14) (mono_ob (mono_eI e11) h1))))) (fun _ => ⟨rfl, rfl⟩) d12_tells_78 (ev_nmS e25 ?_)
    obtain ⟨-, rfl⟩ := ret_some hf
    exact ev_vret rfl d12_tells_81
