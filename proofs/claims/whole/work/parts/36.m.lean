theorem d12_event_0 : decode prog_14_method_82_code 0 = .ok (.aload_n 0, 1) := by decide +kernel
theorem d12_event_1 : decode prog_14_method_82_code 1 = .ok (.iconst 0, 1) := by decide +kernel
theorem d12_event_2 : decode prog_14_method_82_code 2 = .ok (.putfield 1, 3) := by decide +kernel
theorem d12_event_5 : decode prog_14_method_82_code 5 = .ok (.iload_n 1, 1) := by decide +kernel
theorem d12_event_6 : decode prog_14_method_82_code 6 = .ok (.ifCond .lt 33, 3) := by decide +kernel
theorem d12_event_9 : decode prog_14_method_82_code 9 = .ok (.iload_n 1, 1) := by decide +kernel
theorem d12_event_10 : decode prog_14_method_82_code 10 = .ok (.aload_n 0, 1) := by decide +kernel
theorem d12_event_11 : decode prog_14_method_82_code 11 = .ok (.getfield 442, 3) := by decide +kernel
theorem d12_event_14 : decode prog_14_method_82_code 14 = .ok (.if_icmp .ge 25, 3) := by decide +kernel
theorem d12_event_17 : decode prog_14_method_82_code 17 = .ok (.iload_n 2, 1) := by decide +kernel
theorem d12_event_18 : decode prog_14_method_82_code 18 = .ok (.iconst 0, 1) := by decide +kernel
theorem d12_event_19 : decode prog_14_method_82_code 19 = .ok (.iconst 4, 1) := by decide +kernel
theorem d12_event_20 : decode prog_14_method_82_code 20 = .ok (.invokestatic 176, 3) := by decide +kernel
theorem d12_event_23 : decode prog_14_method_82_code 23 = .ok (.ifCond .eq 16, 3) := by decide +kernel
theorem d12_event_26 : decode prog_14_method_82_code 26 = .ok (.aload_n 0, 1) := by decide +kernel
theorem d12_event_27 : decode prog_14_method_82_code 27 = .ok (.getfield 121, 3) := by decide +kernel
theorem d12_event_30 : decode prog_14_method_82_code 30 = .ok (.iconst 5, 1) := by decide +kernel
theorem d12_event_31 : decode prog_14_method_82_code 31 = .ok (.iload_n 1, 1) := by decide +kernel
theorem d12_event_32 : decode prog_14_method_82_code 32 = .ok (.imul, 1) := by decide +kernel
theorem d12_event_33 : decode prog_14_method_82_code 33 = .ok (.iload_n 2, 1) := by decide +kernel
theorem d12_event_34 : decode prog_14_method_82_code 34 = .ok (.iadd, 1) := by decide +kernel
theorem d12_event_35 : decode prog_14_method_82_code 35 = .ok (.iaload, 1) := by decide +kernel
theorem d12_event_36 : decode prog_14_method_82_code 36 = .ok (.goto 4, 3) := by decide +kernel
theorem d12_event_39 : decode prog_14_method_82_code 39 = .ok (.iconst (-1), 1) := by decide +kernel
theorem d12_event_40 : decode prog_14_method_82_code 40 = .ok (.ireturn, 1) := by decide +kernel
theorem d12_driftsTo_0 : decode prog_14_method_83_code 0 = .ok (.aload_n 0, 1) := by decide +kernel
theorem d12_driftsTo_1 : decode prog_14_method_83_code 1 = .ok (.getfield 35, 3) := by decide +kernel
theorem d12_driftsTo_4 : decode prog_14_method_83_code 4 = .ok (.iload_n 1, 1) := by decide +kernel
theorem d12_driftsTo_5 : decode prog_14_method_83_code 5 = .ok (.iaload, 1) := by decide +kernel
theorem d12_driftsTo_6 : decode prog_14_method_83_code 6 = .ok (.bipush 12, 2) := by decide +kernel
theorem d12_driftsTo_8 : decode prog_14_method_83_code 8 = .ok (.idiv, 1) := by decide +kernel
theorem d12_driftsTo_9 : decode prog_14_method_83_code 9 = .ok (.istore_n 2, 1) := by decide +kernel
theorem d12_driftsTo_10 : decode prog_14_method_83_code 10 = .ok (.aload_n 0, 1) := by decide +kernel
theorem d12_driftsTo_11 : decode prog_14_method_83_code 11 = .ok (.getfield 35, 3) := by decide +kernel
theorem d12_driftsTo_14 : decode prog_14_method_83_code 14 = .ok (.iload_n 1, 1) := by decide +kernel
theorem d12_driftsTo_15 : decode prog_14_method_83_code 15 = .ok (.iaload, 1) := by decide +kernel
theorem d12_driftsTo_16 : decode prog_14_method_83_code 16 = .ok (.bipush 12, 2) := by decide +kernel
theorem d12_driftsTo_18 : decode prog_14_method_83_code 18 = .ok (.irem, 1) := by decide +kernel
theorem d12_driftsTo_19 : decode prog_14_method_83_code 19 = .ok (.iconst 1, 1) := by decide +kernel
theorem d12_driftsTo_20 : decode prog_14_method_83_code 20 = .ok (.iadd, 1) := by decide +kernel
theorem d12_driftsTo_21 : decode prog_14_method_83_code 21 = .ok (.istore_n 3, 1) := by decide +kernel
theorem d12_driftsTo_22 : decode prog_14_method_83_code 22 = .ok (.iconst (-1), 1) := by decide +kernel
theorem d12_driftsTo_23 : decode prog_14_method_83_code 23 = .ok (.istore 4, 2) := by decide +kernel
theorem d12_driftsTo_25 : decode prog_14_method_83_code 25 = .ok (.iconst 0, 1) := by decide +kernel
theorem d12_driftsTo_26 : decode prog_14_method_83_code 26 = .ok (.istore 5, 2) := by decide +kernel
theorem d12_driftsTo_28 : decode prog_14_method_83_code 28 = .ok (.iload 5, 2) := by decide +kernel
theorem d12_driftsTo_30 : decode prog_14_method_83_code 30 = .ok (.iconst 3, 1) := by decide +kernel
theorem d12_driftsTo_31 : decode prog_14_method_83_code 31 = .ok (.if_icmp .ge 113, 3) := by decide +kernel
theorem d12_driftsTo_34 : decode prog_14_method_83_code 34 = .ok (.iload 5, 2) := by decide +kernel
theorem d12_driftsTo_36 : decode prog_14_method_83_code 36 = .ok (.ifCond .ne 7, 3) := by decide +kernel
theorem d12_driftsTo_39 : decode prog_14_method_83_code 39 = .ok (.iload_n 2, 1) := by decide +kernel
theorem d12_driftsTo_40 : decode prog_14_method_83_code 40 = .ok (.goto 18, 3) := by decide +kernel
theorem d12_driftsTo_43 : decode prog_14_method_83_code 43 = .ok (.iload 5, 2) := by decide +kernel
theorem d12_driftsTo_45 : decode prog_14_method_83_code 45 = .ok (.iconst 1, 1) := by decide +kernel
theorem d12_driftsTo_46 : decode prog_14_method_83_code 46 = .ok (.if_icmp .ne 9, 3) := by decide +kernel
theorem d12_driftsTo_49 : decode prog_14_method_83_code 49 = .ok (.iload_n 2, 1) := by decide +kernel
theorem d12_driftsTo_50 : decode prog_14_method_83_code 50 = .ok (.iconst 1, 1) := by decide +kernel
theorem d12_driftsTo_51 : decode prog_14_method_83_code 51 = .ok (.isub, 1) := by decide +kernel
theorem d12_driftsTo_52 : decode prog_14_method_83_code 52 = .ok (.goto 6, 3) := by decide +kernel
theorem d12_driftsTo_55 : decode prog_14_method_83_code 55 = .ok (.iload_n 2, 1) := by decide +kernel
theorem d12_driftsTo_56 : decode prog_14_method_83_code 56 = .ok (.iconst 1, 1) := by decide +kernel
theorem d12_driftsTo_57 : decode prog_14_method_83_code 57 = .ok (.iadd, 1) := by decide +kernel
theorem d12_driftsTo_58 : decode prog_14_method_83_code 58 = .ok (.istore 6, 2) := by decide +kernel
theorem d12_driftsTo_60 : decode prog_14_method_83_code 60 = .ok (.iload 6, 2) := by decide +kernel
theorem d12_driftsTo_62 : decode prog_14_method_83_code 62 = .ok (.iconst 0, 1) := by decide +kernel
theorem d12_driftsTo_63 : decode prog_14_method_83_code 63 = .ok (.iconst 5, 1) := by decide +kernel
theorem d12_driftsTo_64 : decode prog_14_method_83_code 64 = .ok (.invokestatic 176, 3) := by decide +kernel
theorem d12_driftsTo_67 : decode prog_14_method_83_code 67 = .ok (.ifCond .eq 71, 3) := by decide +kernel
theorem d12_driftsTo_70 : decode prog_14_method_83_code 70 = .ok (.aload_n 0, 1) := by decide +kernel
theorem d12_driftsTo_71 : decode prog_14_method_83_code 71 = .ok (.bipush 12, 2) := by decide +kernel
theorem d12_driftsTo_73 : decode prog_14_method_83_code 73 = .ok (.iload 6, 2) := by decide +kernel
theorem d12_driftsTo_75 : decode prog_14_method_83_code 75 = .ok (.imul, 1) := by decide +kernel
theorem d12_driftsTo_76 : decode prog_14_method_83_code 76 = .ok (.iload_n 3, 1) := by decide +kernel
theorem d12_driftsTo_77 : decode prog_14_method_83_code 77 = .ok (.iadd, 1) := by decide +kernel
theorem d12_driftsTo_78 : decode prog_14_method_83_code 78 = .ok (.aload_n 0, 1) := by decide +kernel
theorem d12_driftsTo_79 : decode prog_14_method_83_code 79 = .ok (.getfield 445, 3) := by decide +kernel
theorem d12_driftsTo_82 : decode prog_14_method_83_code 82 = .ok (.invokevirtual 197, 3) := by decide +kernel
theorem d12_driftsTo_85 : decode prog_14_method_83_code 85 = .ok (.aload_n 0, 1) := by decide +kernel
theorem d12_driftsTo_86 : decode prog_14_method_83_code 86 = .ok (.getfield 26, 3) := by decide +kernel
theorem d12_driftsTo_89 : decode prog_14_method_83_code 89 = .ok (.iload_n 1, 1) := by decide +kernel
theorem d12_driftsTo_90 : decode prog_14_method_83_code 90 = .ok (.iaload, 1) := by decide +kernel
theorem d12_driftsTo_91 : decode prog_14_method_83_code 91 = .ok (.if_icmp .ge 6, 3) := by decide +kernel
theorem d12_driftsTo_94 : decode prog_14_method_83_code 94 = .ok (.goto 44, 3) := by decide +kernel
theorem d12_driftsTo_97 : decode prog_14_method_83_code 97 = .ok (.iload 4, 2) := by decide +kernel
theorem d12_driftsTo_99 : decode prog_14_method_83_code 99 = .ok (.iconst (-1), 1) := by decide +kernel
theorem d12_driftsTo_100 : decode prog_14_method_83_code 100 = .ok (.if_icmp .eq 29, 3) := by decide +kernel
theorem d12_driftsTo_103 : decode prog_14_method_83_code 103 = .ok (.aload_n 0, 1) := by decide +kernel
theorem d12_driftsTo_104 : decode prog_14_method_83_code 104 = .ok (.iload 6, 2) := by decide +kernel
theorem d12_driftsTo_106 : decode prog_14_method_83_code 106 = .ok (.aload_n 0, 1) := by decide +kernel
theorem d12_driftsTo_107 : decode prog_14_method_83_code 107 = .ok (.getfield 445, 3) := by decide +kernel
theorem d12_driftsTo_110 : decode prog_14_method_83_code 110 = .ok (.invokevirtual 180, 3) := by decide +kernel
theorem d12_driftsTo_113 : decode prog_14_method_83_code 113 = .ok (.aload_n 0, 1) := by decide +kernel
theorem d12_driftsTo_114 : decode prog_14_method_83_code 114 = .ok (.iload 4, 2) := by decide +kernel
theorem d12_driftsTo_116 : decode prog_14_method_83_code 116 = .ok (.bipush 12, 2) := by decide +kernel
theorem d12_driftsTo_118 : decode prog_14_method_83_code 118 = .ok (.idiv, 1) := by decide +kernel
theorem d12_driftsTo_119 : decode prog_14_method_83_code 119 = .ok (.aload_n 0, 1) := by decide +kernel
theorem d12_driftsTo_120 : decode prog_14_method_83_code 120 = .ok (.getfield 445, 3) := by decide +kernel
theorem d12_driftsTo_123 : decode prog_14_method_83_code 123 = .ok (.invokevirtual 180, 3) := by decide +kernel
theorem d12_driftsTo_126 : decode prog_14_method_83_code 126 = .ok (.if_icmp .le 12, 3) := by decide +kernel
theorem d12_driftsTo_129 : decode prog_14_method_83_code 129 = .ok (.bipush 12, 2) := by decide +kernel
theorem d12_driftsTo_131 : decode prog_14_method_83_code 131 = .ok (.iload 6, 2) := by decide +kernel
theorem d12_driftsTo_133 : decode prog_14_method_83_code 133 = .ok (.imul, 1) := by decide +kernel
theorem d12_driftsTo_134 : decode prog_14_method_83_code 134 = .ok (.iload_n 3, 1) := by decide +kernel
theorem d12_driftsTo_135 : decode prog_14_method_83_code 135 = .ok (.iadd, 1) := by decide +kernel
theorem d12_driftsTo_136 : decode prog_14_method_83_code 136 = .ok (.istore 4, 2) := by decide +kernel
theorem d12_driftsTo_138 : decode prog_14_method_83_code 138 = .ok (.iinc 5 1, 3) := by decide +kernel
theorem d12_driftsTo_141 : decode prog_14_method_83_code 141 = .ok (.goto (-113), 3) := by decide +kernel
theorem d12_driftsTo_144 : decode prog_14_method_83_code 144 = .ok (.iload 4, 2) := by decide +kernel
theorem d12_driftsTo_146 : decode prog_14_method_83_code 146 = .ok (.ireturn, 1) := by decide +kernel
theorem d12_drifts_0 : decode prog_14_method_84_code 0 = .ok (.iconst 1, 1) := by decide +kernel
theorem d12_drifts_1 : decode prog_14_method_84_code 1 = .ok (.istore_n 3, 1) := by decide +kernel
theorem d12_drifts_2 : decode prog_14_method_84_code 2 = .ok (.iload_n 3, 1) := by decide +kernel
theorem d12_drifts_3 : decode prog_14_method_84_code 3 = .ok (.ifCond .eq 175, 3) := by decide +kernel
theorem d12_drifts_6 : decode prog_14_method_84_code 6 = .ok (.aload_n 0, 1) := by decide +kernel
theorem d12_drifts_7 : decode prog_14_method_84_code 7 = .ok (.getfield 35, 3) := by decide +kernel
theorem d12_drifts_10 : decode prog_14_method_84_code 10 = .ok (.iload_n 1, 1) := by decide +kernel
theorem d12_drifts_11 : decode prog_14_method_84_code 11 = .ok (.iaload, 1) := by decide +kernel
theorem d12_drifts_12 : decode prog_14_method_84_code 12 = .ok (.bipush 12, 2) := by decide +kernel
theorem d12_drifts_14 : decode prog_14_method_84_code 14 = .ok (.irem, 1) := by decide +kernel
theorem d12_drifts_15 : decode prog_14_method_84_code 15 = .ok (.bipush 11, 2) := by decide +kernel
theorem d12_drifts_17 : decode prog_14_method_84_code 17 = .ok (.if_icmp .ne 20, 3) := by decide +kernel
theorem d12_drifts_20 : decode prog_14_method_84_code 20 = .ok (.aload_n 0, 1) := by decide +kernel
theorem d12_drifts_21 : decode prog_14_method_84_code 21 = .ok (.getfield 35, 3) := by decide +kernel
theorem d12_drifts_24 : decode prog_14_method_84_code 24 = .ok (.iload_n 1, 1) := by decide +kernel
theorem d12_drifts_25 : decode prog_14_method_84_code 25 = .ok (.bipush (-2), 2) := by decide +kernel
theorem d12_drifts_27 : decode prog_14_method_84_code 27 = .ok (.iastore, 1) := by decide +kernel
theorem d12_drifts_28 : decode prog_14_method_84_code 28 = .ok (.aload_n 0, 1) := by decide +kernel
theorem d12_drifts_29 : decode prog_14_method_84_code 29 = .ok (.iconst 5, 1) := by decide +kernel
theorem d12_drifts_30 : decode prog_14_method_84_code 30 = .ok (.iload_n 1, 1) := by decide +kernel
theorem d12_drifts_31 : decode prog_14_method_84_code 31 = .ok (.iconst (-1), 1) := by decide +kernel
theorem d12_drifts_32 : decode prog_14_method_84_code 32 = .ok (.iconst (-1), 1) := by decide +kernel
theorem d12_drifts_33 : decode prog_14_method_84_code 33 = .ok (.invokevirtual 448, 3) := by decide +kernel
theorem d12_drifts_36 : decode prog_14_method_84_code 36 = .ok (.return_, 1) := by decide +kernel
theorem d12_drifts_37 : decode prog_14_method_84_code 37 = .ok (.aload_n 0, 1) := by decide +kernel
theorem d12_drifts_38 : decode prog_14_method_84_code 38 = .ok (.iload_n 1, 1) := by decide +kernel
theorem d12_drifts_39 : decode prog_14_method_84_code 39 = .ok (.invokevirtual 452, 3) := by decide +kernel
theorem d12_drifts_42 : decode prog_14_method_84_code 42 = .ok (.istore 4, 2) := by decide +kernel
theorem d12_drifts_44 : decode prog_14_method_84_code 44 = .ok (.iload 4, 2) := by decide +kernel
theorem d12_drifts_46 : decode prog_14_method_84_code 46 = .ok (.iconst (-1), 1) := by decide +kernel
theorem d12_drifts_47 : decode prog_14_method_84_code 47 = .ok (.if_icmp .ne 17, 3) := by decide +kernel
theorem d12_drifts_50 : decode prog_14_method_84_code 50 = .ok (.aload_n 0, 1) := by decide +kernel
theorem d12_drifts_51 : decode prog_14_method_84_code 51 = .ok (.iconst 4, 1) := by decide +kernel
theorem d12_drifts_52 : decode prog_14_method_84_code 52 = .ok (.iload_n 1, 1) := by decide +kernel
theorem d12_drifts_53 : decode prog_14_method_84_code 53 = .ok (.iconst (-1), 1) := by decide +kernel
theorem d12_drifts_54 : decode prog_14_method_84_code 54 = .ok (.aload_n 0, 1) := by decide +kernel
theorem d12_drifts_55 : decode prog_14_method_84_code 55 = .ok (.getfield 35, 3) := by decide +kernel
theorem d12_drifts_58 : decode prog_14_method_84_code 58 = .ok (.iload_n 1, 1) := by decide +kernel
theorem d12_drifts_59 : decode prog_14_method_84_code 59 = .ok (.iaload, 1) := by decide +kernel
theorem d12_drifts_60 : decode prog_14_method_84_code 60 = .ok (.invokevirtual 448, 3) := by decide +kernel
theorem d12_drifts_63 : decode prog_14_method_84_code 63 = .ok (.return_, 1) := by decide +kernel
theorem d12_drifts_64 : decode prog_14_method_84_code 64 = .ok (.aload_n 0, 1) := by decide +kernel
theorem d12_drifts_65 : decode prog_14_method_84_code 65 = .ok (.iload 4, 2) := by decide +kernel
theorem d12_drifts_67 : decode prog_14_method_84_code 67 = .ok (.invokevirtual 190, 3) := by decide +kernel
theorem d12_drifts_70 : decode prog_14_method_84_code 70 = .ok (.istore 5, 2) := by decide +kernel
theorem d12_drifts_72 : decode prog_14_method_84_code 72 = .ok (.iload 5, 2) := by decide +kernel
theorem d12_drifts_74 : decode prog_14_method_84_code 74 = .ok (.iconst (-1), 1) := by decide +kernel
theorem d12_drifts_75 : decode prog_14_method_84_code 75 = .ok (.if_icmp .eq 51, 3) := by decide +kernel
theorem d12_drifts_78 : decode prog_14_method_84_code 78 = .ok (.aload_n 0, 1) := by decide +kernel
theorem d12_drifts_79 : decode prog_14_method_84_code 79 = .ok (.iload 5, 2) := by decide +kernel
theorem d12_drifts_81 : decode prog_14_method_84_code 81 = .ok (.aload_n 0, 1) := by decide +kernel
theorem d12_drifts_82 : decode prog_14_method_84_code 82 = .ok (.getfield 445, 3) := by decide +kernel
theorem d12_drifts_85 : decode prog_14_method_84_code 85 = .ok (.aload_n 0, 1) := by decide +kernel
theorem d12_drifts_86 : decode prog_14_method_84_code 86 = .ok (.getfield 455, 3) := by decide +kernel
theorem d12_drifts_89 : decode prog_14_method_84_code 89 = .ok (.invokevirtual 216, 3) := by decide +kernel
theorem d12_drifts_92 : decode prog_14_method_84_code 92 = .ok (.istore 6, 2) := by decide +kernel
theorem d12_drifts_94 : decode prog_14_method_84_code 94 = .ok (.iload 6, 2) := by decide +kernel
theorem d12_drifts_96 : decode prog_14_method_84_code 96 = .ok (.iload_n 2, 1) := by decide +kernel
theorem d12_drifts_97 : decode prog_14_method_84_code 97 = .ok (.iadd, 1) := by decide +kernel
theorem d12_drifts_98 : decode prog_14_method_84_code 98 = .ok (.aload_n 0, 1) := by decide +kernel
theorem d12_drifts_99 : decode prog_14_method_84_code 99 = .ok (.getfield 32, 3) := by decide +kernel
theorem d12_drifts_102 : decode prog_14_method_84_code 102 = .ok (.iload 5, 2) := by decide +kernel
theorem d12_drifts_104 : decode prog_14_method_84_code 104 = .ok (.iaload, 1) := by decide +kernel
theorem d12_drifts_105 : decode prog_14_method_84_code 105 = .ok (.if_icmp .le 21, 3) := by decide +kernel
theorem d12_drifts_108 : decode prog_14_method_84_code 108 = .ok (.aload_n 0, 1) := by decide +kernel
theorem d12_drifts_109 : decode prog_14_method_84_code 109 = .ok (.iconst 2, 1) := by decide +kernel
theorem d12_drifts_110 : decode prog_14_method_84_code 110 = .ok (.iload 5, 2) := by decide +kernel
theorem d12_drifts_112 : decode prog_14_method_84_code 112 = .ok (.iload_n 1, 1) := by decide +kernel
theorem d12_drifts_113 : decode prog_14_method_84_code 113 = .ok (.iload 4, 2) := by decide +kernel
theorem d12_drifts_115 : decode prog_14_method_84_code 115 = .ok (.invokevirtual 448, 3) := by decide +kernel
theorem d12_drifts_118 : decode prog_14_method_84_code 118 = .ok (.aload_n 0, 1) := by decide +kernel
theorem d12_drifts_119 : decode prog_14_method_84_code 119 = .ok (.iload 5, 2) := by decide +kernel
theorem d12_drifts_121 : decode prog_14_method_84_code 121 = .ok (.iload 6, 2) := by decide +kernel
theorem d12_drifts_123 : decode prog_14_method_84_code 123 = .ok (.invokevirtual 459, 3) := by decide +kernel
theorem d12_drifts_126 : decode prog_14_method_84_code 126 = .ok (.aload_n 0, 1) := by decide +kernel
theorem d12_drifts_127 : decode prog_14_method_84_code 127 = .ok (.iload 4, 2) := by decide +kernel
theorem d12_drifts_129 : decode prog_14_method_84_code 129 = .ok (.invokevirtual 190, 3) := by decide +kernel
theorem d12_drifts_132 : decode prog_14_method_84_code 132 = .ok (.istore 6, 2) := by decide +kernel
theorem d12_drifts_134 : decode prog_14_method_84_code 134 = .ok (.iload 6, 2) := by decide +kernel
theorem d12_drifts_136 : decode prog_14_method_84_code 136 = .ok (.iconst (-1), 1) := by decide +kernel
theorem d12_drifts_137 : decode prog_14_method_84_code 137 = .ok (.if_icmp .ne 7, 3) := by decide +kernel
theorem d12_drifts_140 : decode prog_14_method_84_code 140 = .ok (.iconst 1, 1) := by decide +kernel
theorem d12_drifts_141 : decode prog_14_method_84_code 141 = .ok (.goto 4, 3) := by decide +kernel
theorem d12_drifts_144 : decode prog_14_method_84_code 144 = .ok (.iconst 0, 1) := by decide +kernel
theorem d12_drifts_145 : decode prog_14_method_84_code 145 = .ok (.istore_n 3, 1) := by decide +kernel
theorem d12_drifts_146 : decode prog_14_method_84_code 146 = .ok (.iload_n 3, 1) := by decide +kernel
theorem d12_drifts_147 : decode prog_14_method_84_code 147 = .ok (.ifCond .eq 14, 3) := by decide +kernel
theorem d12_drifts_150 : decode prog_14_method_84_code 150 = .ok (.aload_n 0, 1) := by decide +kernel
theorem d12_drifts_151 : decode prog_14_method_84_code 151 = .ok (.getfield 35, 3) := by decide +kernel
theorem d12_drifts_154 : decode prog_14_method_84_code 154 = .ok (.iload_n 1, 1) := by decide +kernel
theorem d12_drifts_155 : decode prog_14_method_84_code 155 = .ok (.iload 4, 2) := by decide +kernel
theorem d12_drifts_157 : decode prog_14_method_84_code 157 = .ok (.iastore, 1) := by decide +kernel
theorem d12_drifts_158 : decode prog_14_method_84_code 158 = .ok (.goto 17, 3) := by decide +kernel
theorem d12_drifts_161 : decode prog_14_method_84_code 161 = .ok (.aload_n 0, 1) := by decide +kernel
theorem d12_drifts_162 : decode prog_14_method_84_code 162 = .ok (.iconst 3, 1) := by decide +kernel
theorem d12_drifts_163 : decode prog_14_method_84_code 163 = .ok (.iload_n 1, 1) := by decide +kernel
theorem d12_drifts_164 : decode prog_14_method_84_code 164 = .ok (.iload 6, 2) := by decide +kernel
theorem d12_drifts_166 : decode prog_14_method_84_code 166 = .ok (.aload_n 0, 1) := by decide +kernel
theorem d12_drifts_167 : decode prog_14_method_84_code 167 = .ok (.getfield 35, 3) := by decide +kernel
theorem d12_drifts_170 : decode prog_14_method_84_code 170 = .ok (.iload_n 1, 1) := by decide +kernel
theorem d12_drifts_171 : decode prog_14_method_84_code 171 = .ok (.iaload, 1) := by decide +kernel
theorem d12_drifts_172 : decode prog_14_method_84_code 172 = .ok (.invokevirtual 448, 3) := by decide +kernel
theorem d12_drifts_175 : decode prog_14_method_84_code 175 = .ok (.goto (-173), 3) := by decide +kernel
theorem d12_drifts_178 : decode prog_14_method_84_code 178 = .ok (.return_, 1) := by decide +kernel
theorem d12_chains_0 : decode prog_14_method_85_code 0 = .ok (.iconst 0, 1) := by decide +kernel
theorem d12_chains_1 : decode prog_14_method_85_code 1 = .ok (.istore_n 1, 1) := by decide +kernel
theorem d12_chains_2 : decode prog_14_method_85_code 2 = .ok (.iload_n 1, 1) := by decide +kernel
theorem d12_chains_3 : decode prog_14_method_85_code 3 = .ok (.aload_n 0, 1) := by decide +kernel
theorem d12_chains_4 : decode prog_14_method_85_code 4 = .ok (.getfield 184, 3) := by decide +kernel
theorem d12_chains_7 : decode prog_14_method_85_code 7 = .ok (.if_icmp .ge 67, 3) := by decide +kernel
theorem d12_chains_10 : decode prog_14_method_85_code 10 = .ok (.aload_n 0, 1) := by decide +kernel
theorem d12_chains_11 : decode prog_14_method_85_code 11 = .ok (.getfield 35, 3) := by decide +kernel
theorem d12_chains_14 : decode prog_14_method_85_code 14 = .ok (.iload_n 1, 1) := by decide +kernel
theorem d12_chains_15 : decode prog_14_method_85_code 15 = .ok (.iaload, 1) := by decide +kernel
theorem d12_chains_16 : decode prog_14_method_85_code 16 = .ok (.ifCond .ge 6, 3) := by decide +kernel
theorem d12_chains_19 : decode prog_14_method_85_code 19 = .ok (.goto 49, 3) := by decide +kernel
theorem d12_chains_22 : decode prog_14_method_85_code 22 = .ok (.aload_n 0, 1) := by decide +kernel
theorem d12_chains_23 : decode prog_14_method_85_code 23 = .ok (.iload_n 1, 1) := by decide +kernel
theorem d12_chains_24 : decode prog_14_method_85_code 24 = .ok (.aload_n 0, 1) := by decide +kernel
theorem d12_chains_25 : decode prog_14_method_85_code 25 = .ok (.getfield 445, 3) := by decide +kernel
theorem d12_chains_28 : decode prog_14_method_85_code 28 = .ok (.aload_n 0, 1) := by decide +kernel
theorem d12_chains_29 : decode prog_14_method_85_code 29 = .ok (.getfield 455, 3) := by decide +kernel
theorem d12_chains_32 : decode prog_14_method_85_code 32 = .ok (.invokevirtual 216, 3) := by decide +kernel
theorem d12_chains_35 : decode prog_14_method_85_code 35 = .ok (.istore_n 2, 1) := by decide +kernel
theorem d12_chains_36 : decode prog_14_method_85_code 36 = .ok (.iload_n 2, 1) := by decide +kernel
theorem d12_chains_37 : decode prog_14_method_85_code 37 = .ok (.aload_n 0, 1) := by decide +kernel
theorem d12_chains_38 : decode prog_14_method_85_code 38 = .ok (.getfield 32, 3) := by decide +kernel
theorem d12_chains_41 : decode prog_14_method_85_code 41 = .ok (.iload_n 1, 1) := by decide +kernel
theorem d12_chains_42 : decode prog_14_method_85_code 42 = .ok (.iaload, 1) := by decide +kernel
theorem d12_chains_43 : decode prog_14_method_85_code 43 = .ok (.if_icmp .gt 6, 3) := by decide +kernel
theorem d12_chains_46 : decode prog_14_method_85_code 46 = .ok (.goto 22, 3) := by decide +kernel
theorem d12_chains_49 : decode prog_14_method_85_code 49 = .ok (.aload_n 0, 1) := by decide +kernel
theorem d12_chains_50 : decode prog_14_method_85_code 50 = .ok (.iconst 1, 1) := by decide +kernel
theorem d12_chains_51 : decode prog_14_method_85_code 51 = .ok (.iload_n 1, 1) := by decide +kernel
theorem d12_chains_52 : decode prog_14_method_85_code 52 = .ok (.iconst (-1), 1) := by decide +kernel
theorem d12_chains_53 : decode prog_14_method_85_code 53 = .ok (.aload_n 0, 1) := by decide +kernel
theorem d12_chains_54 : decode prog_14_method_85_code 54 = .ok (.getfield 35, 3) := by decide +kernel
theorem d12_chains_57 : decode prog_14_method_85_code 57 = .ok (.iload_n 1, 1) := by decide +kernel
theorem d12_chains_58 : decode prog_14_method_85_code 58 = .ok (.iaload, 1) := by decide +kernel
theorem d12_chains_59 : decode prog_14_method_85_code 59 = .ok (.invokevirtual 448, 3) := by decide +kernel
theorem d12_chains_62 : decode prog_14_method_85_code 62 = .ok (.aload_n 0, 1) := by decide +kernel
theorem d12_chains_63 : decode prog_14_method_85_code 63 = .ok (.iload_n 1, 1) := by decide +kernel
theorem d12_chains_64 : decode prog_14_method_85_code 64 = .ok (.iload_n 2, 1) := by decide +kernel
theorem d12_chains_65 : decode prog_14_method_85_code 65 = .ok (.invokevirtual 459, 3) := by decide +kernel
theorem d12_chains_68 : decode prog_14_method_85_code 68 = .ok (.iinc 1 1, 3) := by decide +kernel
theorem d12_chains_71 : decode prog_14_method_85_code 71 = .ok (.goto (-69), 3) := by decide +kernel
theorem d12_chains_74 : decode prog_14_method_85_code 74 = .ok (.return_, 1) := by decide +kernel
theorem d12_skiffs_0 : decode prog_14_method_86_code 0 = .ok (.aload_n 0, 1) := by decide +kernel
theorem d12_skiffs_1 : decode prog_14_method_86_code 1 = .ok (.iconst 0, 1) := by decide +kernel
theorem d12_skiffs_2 : decode prog_14_method_86_code 2 = .ok (.putfield 1, 3) := by decide +kernel
theorem d12_skiffs_5 : decode prog_14_method_86_code 5 = .ok (.iload_n 1, 1) := by decide +kernel
theorem d12_skiffs_6 : decode prog_14_method_86_code 6 = .ok (.iconst 0, 1) := by decide +kernel
theorem d12_skiffs_7 : decode prog_14_method_86_code 7 = .ok (.iconst 1, 1) := by decide +kernel
theorem d12_skiffs_8 : decode prog_14_method_86_code 8 = .ok (.invokestatic 176, 3) := by decide +kernel
theorem d12_skiffs_11 : decode prog_14_method_86_code 11 = .ok (.ifCond .eq 13, 3) := by decide +kernel
theorem d12_skiffs_14 : decode prog_14_method_86_code 14 = .ok (.iload_n 2, 1) := by decide +kernel
theorem d12_skiffs_15 : decode prog_14_method_86_code 15 = .ok (.iconst 0, 1) := by decide +kernel
theorem d12_skiffs_16 : decode prog_14_method_86_code 16 = .ok (.bipush 20, 2) := by decide +kernel
theorem d12_skiffs_18 : decode prog_14_method_86_code 18 = .ok (.invokestatic 176, 3) := by decide +kernel
theorem d12_skiffs_21 : decode prog_14_method_86_code 21 = .ok (.ifCond .ne 5, 3) := by decide +kernel
theorem d12_skiffs_24 : decode prog_14_method_86_code 24 = .ok (.iconst 0, 1) := by decide +kernel
theorem d12_skiffs_25 : decode prog_14_method_86_code 25 = .ok (.ireturn, 1) := by decide +kernel
theorem d12_skiffs_26 : decode prog_14_method_86_code 26 = .ok (.aload_n 0, 1) := by decide +kernel
theorem d12_skiffs_27 : decode prog_14_method_86_code 27 = .ok (.getfield 124, 3) := by decide +kernel
theorem d12_skiffs_30 : decode prog_14_method_86_code 30 = .ok (.iload_n 1, 1) := by decide +kernel
theorem d12_skiffs_31 : decode prog_14_method_86_code 31 = .ok (.iload_n 2, 1) := by decide +kernel
theorem d12_skiffs_32 : decode prog_14_method_86_code 32 = .ok (.iastore, 1) := by decide +kernel
theorem d12_skiffs_33 : decode prog_14_method_86_code 33 = .ok (.iconst 1, 1) := by decide +kernel
theorem d12_skiffs_34 : decode prog_14_method_86_code 34 = .ok (.ireturn, 1) := by decide +kernel
theorem d12_order_0 : decode prog_14_method_87_code 0 = .ok (.aload_n 0, 1) := by decide +kernel
theorem d12_order_1 : decode prog_14_method_87_code 1 = .ok (.iconst 0, 1) := by decide +kernel
theorem d12_order_2 : decode prog_14_method_87_code 2 = .ok (.putfield 1, 3) := by decide +kernel
theorem d12_order_5 : decode prog_14_method_87_code 5 = .ok (.iload_n 1, 1) := by decide +kernel
theorem d12_order_6 : decode prog_14_method_87_code 6 = .ok (.iconst 0, 1) := by decide +kernel
theorem d12_order_7 : decode prog_14_method_87_code 7 = .ok (.iconst 1, 1) := by decide +kernel
theorem d12_order_8 : decode prog_14_method_87_code 8 = .ok (.invokestatic 176, 3) := by decide +kernel
theorem d12_order_11 : decode prog_14_method_87_code 11 = .ok (.ifCond .eq 23, 3) := by decide +kernel
theorem d12_order_14 : decode prog_14_method_87_code 14 = .ok (.iload_n 2, 1) := by decide +kernel
theorem d12_order_15 : decode prog_14_method_87_code 15 = .ok (.iconst 1, 1) := by decide +kernel
theorem d12_order_16 : decode prog_14_method_87_code 16 = .ok (.sipush 500, 3) := by decide +kernel
theorem d12_order_19 : decode prog_14_method_87_code 19 = .ok (.invokestatic 176, 3) := by decide +kernel
theorem d12_order_22 : decode prog_14_method_87_code 22 = .ok (.ifCond .eq 12, 3) := by decide +kernel
theorem d12_order_25 : decode prog_14_method_87_code 25 = .ok (.aload_n 0, 1) := by decide +kernel
theorem d12_order_26 : decode prog_14_method_87_code 26 = .ok (.getfield 463, 3) := by decide +kernel
theorem d12_order_29 : decode prog_14_method_87_code 29 = .ok (.bipush 60, 2) := by decide +kernel
theorem d12_order_31 : decode prog_14_method_87_code 31 = .ok (.if_icmp .ne 5, 3) := by decide +kernel
theorem d12_order_34 : decode prog_14_method_87_code 34 = .ok (.iconst (-1), 1) := by decide +kernel
theorem d12_order_35 : decode prog_14_method_87_code 35 = .ok (.ireturn, 1) := by decide +kernel
theorem d12_order_36 : decode prog_14_method_87_code 36 = .ok (.aload_n 0, 1) := by decide +kernel
theorem d12_order_37 : decode prog_14_method_87_code 37 = .ok (.getfield 130, 3) := by decide +kernel
theorem d12_order_40 : decode prog_14_method_87_code 40 = .ok (.aload_n 0, 1) := by decide +kernel
theorem d12_order_41 : decode prog_14_method_87_code 41 = .ok (.getfield 463, 3) := by decide +kernel
theorem d12_order_44 : decode prog_14_method_87_code 44 = .ok (.iload_n 1, 1) := by decide +kernel
theorem d12_order_45 : decode prog_14_method_87_code 45 = .ok (.iastore, 1) := by decide +kernel
theorem d12_order_46 : decode prog_14_method_87_code 46 = .ok (.aload_n 0, 1) := by decide +kernel
theorem d12_order_47 : decode prog_14_method_87_code 47 = .ok (.getfield 133, 3) := by decide +kernel
theorem d12_order_50 : decode prog_14_method_87_code 50 = .ok (.aload_n 0, 1) := by decide +kernel
theorem d12_order_51 : decode prog_14_method_87_code 51 = .ok (.getfield 463, 3) := by decide +kernel
theorem d12_order_54 : decode prog_14_method_87_code 54 = .ok (.iload_n 2, 1) := by decide +kernel
theorem d12_order_55 : decode prog_14_method_87_code 55 = .ok (.iastore, 1) := by decide +kernel
theorem d12_order_56 : decode prog_14_method_87_code 56 = .ok (.aload_n 0, 1) := by decide +kernel
theorem d12_order_57 : decode prog_14_method_87_code 57 = .ok (.getfield 136, 3) := by decide +kernel
theorem d12_order_60 : decode prog_14_method_87_code 60 = .ok (.aload_n 0, 1) := by decide +kernel
theorem d12_order_61 : decode prog_14_method_87_code 61 = .ok (.getfield 463, 3) := by decide +kernel
theorem d12_order_64 : decode prog_14_method_87_code 64 = .ok (.iload_n 2, 1) := by decide +kernel
theorem d12_order_65 : decode prog_14_method_87_code 65 = .ok (.iastore, 1) := by decide +kernel
theorem d12_order_66 : decode prog_14_method_87_code 66 = .ok (.aload_n 0, 1) := by decide +kernel
theorem d12_order_67 : decode prog_14_method_87_code 67 = .ok (.getfield 139, 3) := by decide +kernel
theorem d12_order_70 : decode prog_14_method_87_code 70 = .ok (.aload_n 0, 1) := by decide +kernel
theorem d12_order_71 : decode prog_14_method_87_code 71 = .ok (.getfield 463, 3) := by decide +kernel
theorem d12_order_74 : decode prog_14_method_87_code 74 = .ok (.iconst 0, 1) := by decide +kernel
theorem d12_order_75 : decode prog_14_method_87_code 75 = .ok (.iastore, 1) := by decide +kernel
theorem d12_order_76 : decode prog_14_method_87_code 76 = .ok (.aload_n 0, 1) := by decide +kernel
theorem d12_order_77 : decode prog_14_method_87_code 77 = .ok (.getfield 142, 3) := by decide +kernel
theorem d12_order_80 : decode prog_14_method_87_code 80 = .ok (.aload_n 0, 1) := by decide +kernel
theorem d12_order_81 : decode prog_14_method_87_code 81 = .ok (.getfield 463, 3) := by decide +kernel
theorem d12_order_84 : decode prog_14_method_87_code 84 = .ok (.iconst (-1), 1) := by decide +kernel
theorem d12_order_85 : decode prog_14_method_87_code 85 = .ok (.iastore, 1) := by decide +kernel
theorem d12_order_86 : decode prog_14_method_87_code 86 = .ok (.aload_n 0, 1) := by decide +kernel
theorem d12_order_87 : decode prog_14_method_87_code 87 = .ok (.dup, 1) := by decide +kernel
theorem d12_order_88 : decode prog_14_method_87_code 88 = .ok (.getfield 463, 3) := by decide +kernel
theorem d12_order_91 : decode prog_14_method_87_code 91 = .ok (.iconst 1, 1) := by decide +kernel
theorem d12_order_92 : decode prog_14_method_87_code 92 = .ok (.iadd, 1) := by decide +kernel
theorem d12_order_93 : decode prog_14_method_87_code 93 = .ok (.putfield 463, 3) := by decide +kernel
theorem d12_order_96 : decode prog_14_method_87_code 96 = .ok (.aload_n 0, 1) := by decide +kernel
theorem d12_order_97 : decode prog_14_method_87_code 97 = .ok (.getfield 463, 3) := by decide +kernel
theorem d12_order_100 : decode prog_14_method_87_code 100 = .ok (.iconst 1, 1) := by decide +kernel
theorem d12_order_101 : decode prog_14_method_87_code 101 = .ok (.isub, 1) := by decide +kernel
theorem d12_order_102 : decode prog_14_method_87_code 102 = .ok (.ireturn, 1) := by decide +kernel
theorem d12_tollOf_0 : decode prog_14_method_88_code 0 = .ok (.aload_n 0, 1) := by decide +kernel
theorem d12_tollOf_1 : decode prog_14_method_88_code 1 = .ok (.iload_n 1, 1) := by decide +kernel
theorem d12_tollOf_2 : decode prog_14_method_88_code 2 = .ok (.aload_n 0, 1) := by decide +kernel
theorem d12_tollOf_3 : decode prog_14_method_88_code 3 = .ok (.getfield 35, 3) := by decide +kernel
theorem d12_tollOf_6 : decode prog_14_method_88_code 6 = .ok (.iload_n 1, 1) := by decide +kernel
theorem d12_tollOf_7 : decode prog_14_method_88_code 7 = .ok (.iaload, 1) := by decide +kernel
theorem d12_tollOf_8 : decode prog_14_method_88_code 8 = .ok (.aload_n 0, 1) := by decide +kernel
theorem d12_tollOf_9 : decode prog_14_method_88_code 9 = .ok (.getfield 194, 3) := by decide +kernel
theorem d12_tollOf_12 : decode prog_14_method_88_code 12 = .ok (.aload_n 0, 1) := by decide +kernel
theorem d12_tollOf_13 : decode prog_14_method_88_code 13 = .ok (.getfield 445, 3) := by decide +kernel
theorem d12_tollOf_16 : decode prog_14_method_88_code 16 = .ok (.aload_n 0, 1) := by decide +kernel
theorem d12_tollOf_17 : decode prog_14_method_88_code 17 = .ok (.getfield 133, 3) := by decide +kernel
theorem d12_tollOf_20 : decode prog_14_method_88_code 20 = .ok (.iload_n 2, 1) := by decide +kernel
theorem d12_tollOf_21 : decode prog_14_method_88_code 21 = .ok (.iaload, 1) := by decide +kernel
theorem d12_tollOf_22 : decode prog_14_method_88_code 22 = .ok (.invokevirtual 412, 3) := by decide +kernel
theorem d12_tollOf_25 : decode prog_14_method_88_code 25 = .ok (.aload_n 0, 1) := by decide +kernel
theorem d12_tollOf_26 : decode prog_14_method_88_code 26 = .ok (.aload_n 0, 1) := by decide +kernel
theorem d12_tollOf_27 : decode prog_14_method_88_code 27 = .ok (.getfield 130, 3) := by decide +kernel
theorem d12_tollOf_30 : decode prog_14_method_88_code 30 = .ok (.iload_n 2, 1) := by decide +kernel
theorem d12_tollOf_31 : decode prog_14_method_88_code 31 = .ok (.iaload, 1) := by decide +kernel
theorem d12_tollOf_32 : decode prog_14_method_88_code 32 = .ok (.aload_n 0, 1) := by decide +kernel
theorem d12_tollOf_33 : decode prog_14_method_88_code 33 = .ok (.getfield 194, 3) := by decide +kernel
theorem d12_tollOf_36 : decode prog_14_method_88_code 36 = .ok (.aload_n 0, 1) := by decide +kernel
theorem d12_tollOf_37 : decode prog_14_method_88_code 37 = .ok (.getfield 194, 3) := by decide +kernel
theorem d12_tollOf_40 : decode prog_14_method_88_code 40 = .ok (.invokevirtual 416, 3) := by decide +kernel
theorem d12_tollOf_43 : decode prog_14_method_88_code 43 = .ok (.istore 4, 2) := by decide +kernel
theorem d12_tollOf_45 : decode prog_14_method_88_code 45 = .ok (.aload_n 0, 1) := by decide +kernel
theorem d12_tollOf_46 : decode prog_14_method_88_code 46 = .ok (.iload 4, 2) := by decide +kernel
theorem d12_tollOf_48 : decode prog_14_method_88_code 48 = .ok (.iconst 3, 1) := by decide +kernel
theorem d12_tollOf_49 : decode prog_14_method_88_code 49 = .ok (.iconst 3, 1) := by decide +kernel
theorem d12_tollOf_50 : decode prog_14_method_88_code 50 = .ok (.invokevirtual 419, 3) := by decide +kernel
theorem d12_tollOf_53 : decode prog_14_method_88_code 53 = .ok (.istore 5, 2) := by decide +kernel
theorem d12_tollOf_55 : decode prog_14_method_88_code 55 = .ok (.iload 5, 2) := by decide +kernel
theorem d12_tollOf_57 : decode prog_14_method_88_code 57 = .ok (.iconst (-1), 1) := by decide +kernel
theorem d12_tollOf_58 : decode prog_14_method_88_code 58 = .ok (.if_icmp .ne 10, 3) := by decide +kernel
theorem d12_tollOf_61 : decode prog_14_method_88_code 61 = .ok (.iload_n 3, 1) := by decide +kernel
theorem d12_tollOf_62 : decode prog_14_method_88_code 62 = .ok (.bipush 16, 2) := by decide +kernel
theorem d12_tollOf_64 : decode prog_14_method_88_code 64 = .ok (.idiv, 1) := by decide +kernel
theorem d12_tollOf_65 : decode prog_14_method_88_code 65 = .ok (.goto 32, 3) := by decide +kernel
theorem d12_tollOf_68 : decode prog_14_method_88_code 68 = .ok (.iload_n 3, 1) := by decide +kernel
theorem d12_tollOf_69 : decode prog_14_method_88_code 69 = .ok (.aload_n 0, 1) := by decide +kernel
theorem d12_tollOf_70 : decode prog_14_method_88_code 70 = .ok (.getfield 81, 3) := by decide +kernel
theorem d12_tollOf_73 : decode prog_14_method_88_code 73 = .ok (.bipush 20, 2) := by decide +kernel
theorem d12_tollOf_75 : decode prog_14_method_88_code 75 = .ok (.iload 4, 2) := by decide +kernel
theorem d12_tollOf_77 : decode prog_14_method_88_code 77 = .ok (.imul, 1) := by decide +kernel
theorem d12_tollOf_78 : decode prog_14_method_88_code 78 = .ok (.iload 5, 2) := by decide +kernel
theorem d12_tollOf_80 : decode prog_14_method_88_code 80 = .ok (.iadd, 1) := by decide +kernel
theorem d12_tollOf_81 : decode prog_14_method_88_code 81 = .ok (.iaload, 1) := by decide +kernel
theorem d12_tollOf_82 : decode prog_14_method_88_code 82 = .ok (.imul, 1) := by decide +kernel
theorem d12_tollOf_83 : decode prog_14_method_88_code 83 = .ok (.aload_n 0, 1) := by decide +kernel
theorem d12_tollOf_84 : decode prog_14_method_88_code 84 = .ok (.getfield 84, 3) := by decide +kernel
theorem d12_tollOf_87 : decode prog_14_method_88_code 87 = .ok (.bipush 20, 2) := by decide +kernel
theorem d12_tollOf_89 : decode prog_14_method_88_code 89 = .ok (.iload 4, 2) := by decide +kernel
theorem d12_tollOf_91 : decode prog_14_method_88_code 91 = .ok (.imul, 1) := by decide +kernel
theorem d12_tollOf_92 : decode prog_14_method_88_code 92 = .ok (.iload 5, 2) := by decide +kernel
theorem d12_tollOf_94 : decode prog_14_method_88_code 94 = .ok (.iadd, 1) := by decide +kernel
theorem d12_tollOf_95 : decode prog_14_method_88_code 95 = .ok (.iaload, 1) := by decide +kernel
theorem d12_tollOf_96 : decode prog_14_method_88_code 96 = .ok (.idiv, 1) := by decide +kernel
theorem d12_tollOf_97 : decode prog_14_method_88_code 97 = .ok (.ireturn, 1) := by decide +kernel
theorem d12_grinds_0 : decode prog_14_method_89_code 0 = .ok (.aload_n 0, 1) := by decide +kernel
theorem d12_grinds_1 : decode prog_14_method_89_code 1 = .ok (.iload_n 1, 1) := by decide +kernel
theorem d12_grinds_2 : decode prog_14_method_89_code 2 = .ok (.aload_n 0, 1) := by decide +kernel
theorem d12_grinds_3 : decode prog_14_method_89_code 3 = .ok (.getfield 445, 3) := by decide +kernel
theorem d12_grinds_6 : decode prog_14_method_89_code 6 = .ok (.invokevirtual 213, 3) := by decide +kernel
theorem d12_grinds_9 : decode prog_14_method_89_code 9 = .ok (.istore_n 2, 1) := by decide +kernel
theorem d12_grinds_10 : decode prog_14_method_89_code 10 = .ok (.iconst 0, 1) := by decide +kernel
theorem d12_grinds_11 : decode prog_14_method_89_code 11 = .ok (.istore_n 3, 1) := by decide +kernel
theorem d12_grinds_12 : decode prog_14_method_89_code 12 = .ok (.iconst 0, 1) := by decide +kernel
theorem d12_grinds_13 : decode prog_14_method_89_code 13 = .ok (.istore 4, 2) := by decide +kernel
theorem d12_grinds_15 : decode prog_14_method_89_code 15 = .ok (.iload 4, 2) := by decide +kernel
theorem d12_grinds_17 : decode prog_14_method_89_code 17 = .ok (.aload_n 0, 1) := by decide +kernel
theorem d12_grinds_18 : decode prog_14_method_89_code 18 = .ok (.getfield 463, 3) := by decide +kernel
theorem d12_grinds_21 : decode prog_14_method_89_code 21 = .ok (.if_icmp .ge 177, 3) := by decide +kernel
theorem d12_grinds_24 : decode prog_14_method_89_code 24 = .ok (.iload_n 2, 1) := by decide +kernel
theorem d12_grinds_25 : decode prog_14_method_89_code 25 = .ok (.ifCond .le 173, 3) := by decide +kernel
theorem d12_grinds_28 : decode prog_14_method_89_code 28 = .ok (.aload_n 0, 1) := by decide +kernel
theorem d12_grinds_29 : decode prog_14_method_89_code 29 = .ok (.getfield 130, 3) := by decide +kernel
theorem d12_grinds_32 : decode prog_14_method_89_code 32 = .ok (.iload 4, 2) := by decide +kernel
theorem d12_grinds_34 : decode prog_14_method_89_code 34 = .ok (.iaload, 1) := by decide +kernel
theorem d12_grinds_35 : decode prog_14_method_89_code 35 = .ok (.istore 5, 2) := by decide +kernel
theorem d12_grinds_37 : decode prog_14_method_89_code 37 = .ok (.aload_n 0, 1) := by decide +kernel
theorem d12_grinds_38 : decode prog_14_method_89_code 38 = .ok (.getfield 35, 3) := by decide +kernel
theorem d12_grinds_41 : decode prog_14_method_89_code 41 = .ok (.iload_n 1, 1) := by decide +kernel
theorem d12_grinds_42 : decode prog_14_method_89_code 42 = .ok (.iaload, 1) := by decide +kernel
theorem d12_grinds_43 : decode prog_14_method_89_code 43 = .ok (.bipush 12, 2) := by decide +kernel
theorem d12_grinds_45 : decode prog_14_method_89_code 45 = .ok (.idiv, 1) := by decide +kernel
theorem d12_grinds_46 : decode prog_14_method_89_code 46 = .ok (.istore 6, 2) := by decide +kernel
theorem d12_grinds_48 : decode prog_14_method_89_code 48 = .ok (.iconst 1, 1) := by decide +kernel
theorem d12_grinds_49 : decode prog_14_method_89_code 49 = .ok (.iload 5, 2) := by decide +kernel
theorem d12_grinds_51 : decode prog_14_method_89_code 51 = .ok (.ifCond .ne 8, 3) := by decide +kernel
theorem d12_grinds_54 : decode prog_14_method_89_code 54 = .ok (.iload 6, 2) := by decide +kernel
theorem d12_grinds_56 : decode prog_14_method_89_code 56 = .ok (.goto 7, 3) := by decide +kernel
theorem d12_grinds_59 : decode prog_14_method_89_code 59 = .ok (.iconst 5, 1) := by decide +kernel
theorem d12_grinds_60 : decode prog_14_method_89_code 60 = .ok (.iload 6, 2) := by decide +kernel
theorem d12_grinds_62 : decode prog_14_method_89_code 62 = .ok (.isub, 1) := by decide +kernel
theorem d12_grinds_63 : decode prog_14_method_89_code 63 = .ok (.iadd, 1) := by decide +kernel
theorem d12_grinds_64 : decode prog_14_method_89_code 64 = .ok (.istore 7, 2) := by decide +kernel
theorem d12_grinds_66 : decode prog_14_method_89_code 66 = .ok (.aload_n 0, 1) := by decide +kernel
theorem d12_grinds_67 : decode prog_14_method_89_code 67 = .ok (.getfield 136, 3) := by decide +kernel
theorem d12_grinds_70 : decode prog_14_method_89_code 70 = .ok (.iload 4, 2) := by decide +kernel
theorem d12_grinds_72 : decode prog_14_method_89_code 72 = .ok (.iaload, 1) := by decide +kernel
theorem d12_grinds_73 : decode prog_14_method_89_code 73 = .ok (.iload_n 2, 1) := by decide +kernel
theorem d12_grinds_74 : decode prog_14_method_89_code 74 = .ok (.invokestatic 466, 3) := by decide +kernel
theorem d12_grinds_77 : decode prog_14_method_89_code 77 = .ok (.aload_n 0, 1) := by decide +kernel
theorem d12_grinds_78 : decode prog_14_method_89_code 78 = .ok (.getfield 127, 3) := by decide +kernel
theorem d12_grinds_81 : decode prog_14_method_89_code 81 = .ok (.iload 5, 2) := by decide +kernel
theorem d12_grinds_83 : decode prog_14_method_89_code 83 = .ok (.iaload, 1) := by decide +kernel
theorem d12_grinds_84 : decode prog_14_method_89_code 84 = .ok (.iload 7, 2) := by decide +kernel
theorem d12_grinds_86 : decode prog_14_method_89_code 86 = .ok (.idiv, 1) := by decide +kernel
theorem d12_grinds_87 : decode prog_14_method_89_code 87 = .ok (.invokestatic 466, 3) := by decide +kernel
theorem d12_grinds_90 : decode prog_14_method_89_code 90 = .ok (.istore 8, 2) := by decide +kernel
theorem d12_grinds_92 : decode prog_14_method_89_code 92 = .ok (.iload 8, 2) := by decide +kernel
theorem d12_grinds_94 : decode prog_14_method_89_code 94 = .ok (.ifCond .ne 6, 3) := by decide +kernel
theorem d12_grinds_97 : decode prog_14_method_89_code 97 = .ok (.goto 95, 3) := by decide +kernel
theorem d12_grinds_100 : decode prog_14_method_89_code 100 = .ok (.aload_n 0, 1) := by decide +kernel
theorem d12_grinds_101 : decode prog_14_method_89_code 101 = .ok (.iload_n 1, 1) := by decide +kernel
theorem d12_grinds_102 : decode prog_14_method_89_code 102 = .ok (.iload 4, 2) := by decide +kernel
theorem d12_grinds_104 : decode prog_14_method_89_code 104 = .ok (.iload 8, 2) := by decide +kernel
theorem d12_grinds_106 : decode prog_14_method_89_code 106 = .ok (.invokevirtual 471, 3) := by decide +kernel
theorem d12_grinds_109 : decode prog_14_method_89_code 109 = .ok (.istore 9, 2) := by decide +kernel
theorem d12_grinds_111 : decode prog_14_method_89_code 111 = .ok (.aload_n 0, 1) := by decide +kernel
theorem d12_grinds_112 : decode prog_14_method_89_code 112 = .ok (.getfield 136, 3) := by decide +kernel
theorem d12_grinds_115 : decode prog_14_method_89_code 115 = .ok (.iload 4, 2) := by decide +kernel
theorem d12_grinds_117 : decode prog_14_method_89_code 117 = .ok (.dup2, 1) := by decide +kernel
theorem d12_grinds_118 : decode prog_14_method_89_code 118 = .ok (.iaload, 1) := by decide +kernel
theorem d12_grinds_119 : decode prog_14_method_89_code 119 = .ok (.iload 8, 2) := by decide +kernel
theorem d12_grinds_121 : decode prog_14_method_89_code 121 = .ok (.isub, 1) := by decide +kernel
theorem d12_grinds_122 : decode prog_14_method_89_code 122 = .ok (.iastore, 1) := by decide +kernel
theorem d12_grinds_123 : decode prog_14_method_89_code 123 = .ok (.aload_n 0, 1) := by decide +kernel
theorem d12_grinds_124 : decode prog_14_method_89_code 124 = .ok (.getfield 139, 3) := by decide +kernel
theorem d12_grinds_127 : decode prog_14_method_89_code 127 = .ok (.iload 4, 2) := by decide +kernel
theorem d12_grinds_129 : decode prog_14_method_89_code 129 = .ok (.dup2, 1) := by decide +kernel
theorem d12_grinds_130 : decode prog_14_method_89_code 130 = .ok (.iaload, 1) := by decide +kernel
theorem d12_grinds_131 : decode prog_14_method_89_code 131 = .ok (.iload 9, 2) := by decide +kernel
theorem d12_grinds_133 : decode prog_14_method_89_code 133 = .ok (.iadd, 1) := by decide +kernel
theorem d12_grinds_134 : decode prog_14_method_89_code 134 = .ok (.iastore, 1) := by decide +kernel
theorem d12_grinds_135 : decode prog_14_method_89_code 135 = .ok (.aload_n 0, 1) := by decide +kernel
theorem d12_grinds_136 : decode prog_14_method_89_code 136 = .ok (.getfield 136, 3) := by decide +kernel
theorem d12_grinds_139 : decode prog_14_method_89_code 139 = .ok (.iload 4, 2) := by decide +kernel
theorem d12_grinds_141 : decode prog_14_method_89_code 141 = .ok (.iaload, 1) := by decide +kernel
theorem d12_grinds_142 : decode prog_14_method_89_code 142 = .ok (.ifCond .ne 14, 3) := by decide +kernel
theorem d12_grinds_145 : decode prog_14_method_89_code 145 = .ok (.aload_n 0, 1) := by decide +kernel
theorem d12_grinds_146 : decode prog_14_method_89_code 146 = .ok (.getfield 142, 3) := by decide +kernel
theorem d12_grinds_149 : decode prog_14_method_89_code 149 = .ok (.iload 4, 2) := by decide +kernel
theorem d12_grinds_151 : decode prog_14_method_89_code 151 = .ok (.aload_n 0, 1) := by decide +kernel
theorem d12_grinds_152 : decode prog_14_method_89_code 152 = .ok (.getfield 194, 3) := by decide +kernel
theorem d12_grinds_155 : decode prog_14_method_89_code 155 = .ok (.iastore, 1) := by decide +kernel
theorem d12_grinds_156 : decode prog_14_method_89_code 156 = .ok (.aload_n 0, 1) := by decide +kernel
theorem d12_grinds_157 : decode prog_14_method_89_code 157 = .ok (.getfield 127, 3) := by decide +kernel
theorem d12_grinds_160 : decode prog_14_method_89_code 160 = .ok (.iload 5, 2) := by decide +kernel
theorem d12_grinds_162 : decode prog_14_method_89_code 162 = .ok (.dup2, 1) := by decide +kernel
theorem d12_grinds_163 : decode prog_14_method_89_code 163 = .ok (.iaload, 1) := by decide +kernel
theorem d12_grinds_164 : decode prog_14_method_89_code 164 = .ok (.iload 8, 2) := by decide +kernel
theorem d12_grinds_166 : decode prog_14_method_89_code 166 = .ok (.iload 7, 2) := by decide +kernel
theorem d12_grinds_168 : decode prog_14_method_89_code 168 = .ok (.imul, 1) := by decide +kernel
theorem d12_grinds_169 : decode prog_14_method_89_code 169 = .ok (.isub, 1) := by decide +kernel
theorem d12_grinds_170 : decode prog_14_method_89_code 170 = .ok (.iastore, 1) := by decide +kernel
theorem d12_grinds_171 : decode prog_14_method_89_code 171 = .ok (.aload_n 0, 1) := by decide +kernel
theorem d12_grinds_172 : decode prog_14_method_89_code 172 = .ok (.getfield 44, 3) := by decide +kernel
theorem d12_grinds_175 : decode prog_14_method_89_code 175 = .ok (.iload_n 1, 1) := by decide +kernel
theorem d12_grinds_176 : decode prog_14_method_89_code 176 = .ok (.dup2, 1) := by decide +kernel
theorem d12_grinds_177 : decode prog_14_method_89_code 177 = .ok (.iaload, 1) := by decide +kernel
theorem d12_grinds_178 : decode prog_14_method_89_code 178 = .ok (.iload 9, 2) := by decide +kernel
theorem d12_grinds_180 : decode prog_14_method_89_code 180 = .ok (.iadd, 1) := by decide +kernel
theorem d12_grinds_181 : decode prog_14_method_89_code 181 = .ok (.iastore, 1) := by decide +kernel
theorem d12_grinds_182 : decode prog_14_method_89_code 182 = .ok (.iload_n 2, 1) := by decide +kernel
theorem d12_grinds_183 : decode prog_14_method_89_code 183 = .ok (.iload 8, 2) := by decide +kernel
theorem d12_grinds_185 : decode prog_14_method_89_code 185 = .ok (.isub, 1) := by decide +kernel
theorem d12_grinds_186 : decode prog_14_method_89_code 186 = .ok (.istore_n 2, 1) := by decide +kernel
theorem d12_grinds_187 : decode prog_14_method_89_code 187 = .ok (.iload_n 3, 1) := by decide +kernel
theorem d12_grinds_188 : decode prog_14_method_89_code 188 = .ok (.iload 8, 2) := by decide +kernel
theorem d12_grinds_190 : decode prog_14_method_89_code 190 = .ok (.iadd, 1) := by decide +kernel
theorem d12_grinds_191 : decode prog_14_method_89_code 191 = .ok (.istore_n 3, 1) := by decide +kernel
theorem d12_grinds_192 : decode prog_14_method_89_code 192 = .ok (.iinc 4 1, 3) := by decide +kernel
theorem d12_grinds_195 : decode prog_14_method_89_code 195 = .ok (.goto (-180), 3) := by decide +kernel
theorem d12_grinds_198 : decode prog_14_method_89_code 198 = .ok (.aload_n 0, 1) := by decide +kernel
theorem d12_grinds_199 : decode prog_14_method_89_code 199 = .ok (.getfield 41, 3) := by decide +kernel
theorem d12_grinds_202 : decode prog_14_method_89_code 202 = .ok (.iload_n 1, 1) := by decide +kernel
theorem d12_grinds_203 : decode prog_14_method_89_code 203 = .ok (.dup2, 1) := by decide +kernel
theorem d12_grinds_204 : decode prog_14_method_89_code 204 = .ok (.iaload, 1) := by decide +kernel
theorem d12_grinds_205 : decode prog_14_method_89_code 205 = .ok (.iload_n 3, 1) := by decide +kernel
theorem d12_grinds_206 : decode prog_14_method_89_code 206 = .ok (.iadd, 1) := by decide +kernel
theorem d12_grinds_207 : decode prog_14_method_89_code 207 = .ok (.iastore, 1) := by decide +kernel
theorem d12_grinds_208 : decode prog_14_method_89_code 208 = .ok (.aload_n 0, 1) := by decide +kernel
theorem d12_grinds_209 : decode prog_14_method_89_code 209 = .ok (.getfield 38, 3) := by decide +kernel
theorem d12_grinds_212 : decode prog_14_method_89_code 212 = .ok (.iload_n 1, 1) := by decide +kernel
theorem d12_grinds_213 : decode prog_14_method_89_code 213 = .ok (.dup2, 1) := by decide +kernel
theorem d12_grinds_214 : decode prog_14_method_89_code 214 = .ok (.iaload, 1) := by decide +kernel
theorem d12_grinds_215 : decode prog_14_method_89_code 215 = .ok (.iload_n 3, 1) := by decide +kernel
theorem d12_grinds_216 : decode prog_14_method_89_code 216 = .ok (.iadd, 1) := by decide +kernel
theorem d12_grinds_217 : decode prog_14_method_89_code 217 = .ok (.iastore, 1) := by decide +kernel
theorem d12_grinds_218 : decode prog_14_method_89_code 218 = .ok (.return_, 1) := by decide +kernel
theorem d12_day_0 : decode prog_14_method_90_code 0 = .ok (.aload_n 0, 1) := by decide +kernel
theorem d12_day_1 : decode prog_14_method_90_code 1 = .ok (.iconst 0, 1) := by decide +kernel
theorem d12_day_2 : decode prog_14_method_90_code 2 = .ok (.putfield 1, 3) := by decide +kernel
theorem d12_day_5 : decode prog_14_method_90_code 5 = .ok (.aload_n 0, 1) := by decide +kernel
theorem d12_day_6 : decode prog_14_method_90_code 6 = .ok (.getfield 194, 3) := by decide +kernel
theorem d12_day_9 : decode prog_14_method_90_code 9 = .ok (.sipush 999, 3) := by decide +kernel
theorem d12_day_12 : decode prog_14_method_90_code 12 = .ok (.if_icmp .ne 5, 3) := by decide +kernel
theorem d12_day_15 : decode prog_14_method_90_code 15 = .ok (.iconst (-1), 1) := by decide +kernel
theorem d12_day_16 : decode prog_14_method_90_code 16 = .ok (.ireturn, 1) := by decide +kernel
theorem d12_day_17 : decode prog_14_method_90_code 17 = .ok (.aload_n 0, 1) := by decide +kernel
theorem d12_day_18 : decode prog_14_method_90_code 18 = .ok (.aload_n 0, 1) := by decide +kernel
theorem d12_day_19 : decode prog_14_method_90_code 19 = .ok (.aload_n 0, 1) := by decide +kernel
theorem d12_day_20 : decode prog_14_method_90_code 20 = .ok (.getfield 194, 3) := by decide +kernel
theorem d12_day_23 : decode prog_14_method_90_code 23 = .ok (.aload_n 0, 1) := by decide +kernel
theorem d12_day_24 : decode prog_14_method_90_code 24 = .ok (.getfield 194, 3) := by decide +kernel
theorem d12_day_27 : decode prog_14_method_90_code 27 = .ok (.invokevirtual 232, 3) := by decide +kernel
theorem d12_day_30 : decode prog_14_method_90_code 30 = .ok (.putfield 445, 3) := by decide +kernel
theorem d12_day_33 : decode prog_14_method_90_code 33 = .ok (.aload_n 0, 1) := by decide +kernel
theorem d12_day_34 : decode prog_14_method_90_code 34 = .ok (.aload_n 0, 1) := by decide +kernel
theorem d12_day_35 : decode prog_14_method_90_code 35 = .ok (.aload_n 0, 1) := by decide +kernel
theorem d12_day_36 : decode prog_14_method_90_code 36 = .ok (.getfield 194, 3) := by decide +kernel
theorem d12_day_39 : decode prog_14_method_90_code 39 = .ok (.aload_n 0, 1) := by decide +kernel
theorem d12_day_40 : decode prog_14_method_90_code 40 = .ok (.getfield 194, 3) := by decide +kernel
theorem d12_day_43 : decode prog_14_method_90_code 43 = .ok (.invokevirtual 235, 3) := by decide +kernel
theorem d12_day_46 : decode prog_14_method_90_code 46 = .ok (.putfield 455, 3) := by decide +kernel
theorem d12_day_49 : decode prog_14_method_90_code 49 = .ok (.aload_n 0, 1) := by decide +kernel
theorem d12_day_50 : decode prog_14_method_90_code 50 = .ok (.invokevirtual 474, 3) := by decide +kernel
theorem d12_day_53 : decode prog_14_method_90_code 53 = .ok (.aload_n 0, 1) := by decide +kernel
theorem d12_day_54 : decode prog_14_method_90_code 54 = .ok (.getfield 127, 3) := by decide +kernel
theorem d12_day_57 : decode prog_14_method_90_code 57 = .ok (.iconst 0, 1) := by decide +kernel
theorem d12_day_58 : decode prog_14_method_90_code 58 = .ok (.bipush 30, 2) := by decide +kernel
theorem d12_day_60 : decode prog_14_method_90_code 60 = .ok (.aload_n 0, 1) := by decide +kernel
theorem d12_day_61 : decode prog_14_method_90_code 61 = .ok (.getfield 124, 3) := by decide +kernel
theorem d12_day_64 : decode prog_14_method_90_code 64 = .ok (.iconst 0, 1) := by decide +kernel
theorem d12_day_65 : decode prog_14_method_90_code 65 = .ok (.iaload, 1) := by decide +kernel
theorem d12_day_66 : decode prog_14_method_90_code 66 = .ok (.imul, 1) := by decide +kernel
theorem d12_day_67 : decode prog_14_method_90_code 67 = .ok (.iastore, 1) := by decide +kernel
theorem d12_day_68 : decode prog_14_method_90_code 68 = .ok (.aload_n 0, 1) := by decide +kernel
theorem d12_day_69 : decode prog_14_method_90_code 69 = .ok (.getfield 127, 3) := by decide +kernel
theorem d12_day_72 : decode prog_14_method_90_code 72 = .ok (.iconst 1, 1) := by decide +kernel
theorem d12_day_73 : decode prog_14_method_90_code 73 = .ok (.bipush 30, 2) := by decide +kernel
theorem d12_day_75 : decode prog_14_method_90_code 75 = .ok (.aload_n 0, 1) := by decide +kernel
theorem d12_day_76 : decode prog_14_method_90_code 76 = .ok (.getfield 124, 3) := by decide +kernel
theorem d12_day_79 : decode prog_14_method_90_code 79 = .ok (.iconst 1, 1) := by decide +kernel
theorem d12_day_80 : decode prog_14_method_90_code 80 = .ok (.iaload, 1) := by decide +kernel
theorem d12_day_81 : decode prog_14_method_90_code 81 = .ok (.imul, 1) := by decide +kernel
theorem d12_day_82 : decode prog_14_method_90_code 82 = .ok (.iastore, 1) := by decide +kernel
theorem d12_day_83 : decode prog_14_method_90_code 83 = .ok (.iconst 0, 1) := by decide +kernel
theorem d12_day_84 : decode prog_14_method_90_code 84 = .ok (.istore_n 1, 1) := by decide +kernel
theorem d12_day_85 : decode prog_14_method_90_code 85 = .ok (.iload_n 1, 1) := by decide +kernel
theorem d12_day_86 : decode prog_14_method_90_code 86 = .ok (.aload_n 0, 1) := by decide +kernel
theorem d12_day_87 : decode prog_14_method_90_code 87 = .ok (.getfield 184, 3) := by decide +kernel
theorem d12_day_90 : decode prog_14_method_90_code 90 = .ok (.if_icmp .ge 70, 3) := by decide +kernel
theorem d12_day_93 : decode prog_14_method_90_code 93 = .ok (.aload_n 0, 1) := by decide +kernel
theorem d12_day_94 : decode prog_14_method_90_code 94 = .ok (.getfield 194, 3) := by decide +kernel
theorem d12_day_97 : decode prog_14_method_90_code 97 = .ok (.iload_n 1, 1) := by decide +kernel
theorem d12_day_98 : decode prog_14_method_90_code 98 = .ok (.iadd, 1) := by decide +kernel
theorem d12_day_99 : decode prog_14_method_90_code 99 = .ok (.aload_n 0, 1) := by decide +kernel
theorem d12_day_100 : decode prog_14_method_90_code 100 = .ok (.getfield 184, 3) := by decide +kernel
theorem d12_day_103 : decode prog_14_method_90_code 103 = .ok (.irem, 1) := by decide +kernel
theorem d12_day_104 : decode prog_14_method_90_code 104 = .ok (.istore_n 2, 1) := by decide +kernel
theorem d12_day_105 : decode prog_14_method_90_code 105 = .ok (.aload_n 0, 1) := by decide +kernel
theorem d12_day_106 : decode prog_14_method_90_code 106 = .ok (.getfield 35, 3) := by decide +kernel
theorem d12_day_109 : decode prog_14_method_90_code 109 = .ok (.iload_n 2, 1) := by decide +kernel
theorem d12_day_110 : decode prog_14_method_90_code 110 = .ok (.iaload, 1) := by decide +kernel
theorem d12_day_111 : decode prog_14_method_90_code 111 = .ok (.ifCond .lt 43, 3) := by decide +kernel
theorem d12_day_114 : decode prog_14_method_90_code 114 = .ok (.aload_n 0, 1) := by decide +kernel
theorem d12_day_115 : decode prog_14_method_90_code 115 = .ok (.getfield 47, 3) := by decide +kernel
theorem d12_day_118 : decode prog_14_method_90_code 118 = .ok (.iload_n 2, 1) := by decide +kernel
theorem d12_day_119 : decode prog_14_method_90_code 119 = .ok (.iaload, 1) := by decide +kernel
theorem d12_day_120 : decode prog_14_method_90_code 120 = .ok (.aload_n 0, 1) := by decide +kernel
theorem d12_day_121 : decode prog_14_method_90_code 121 = .ok (.getfield 194, 3) := by decide +kernel
theorem d12_day_124 : decode prog_14_method_90_code 124 = .ok (.if_icmp .eq 30, 3) := by decide +kernel
theorem d12_day_127 : decode prog_14_method_90_code 127 = .ok (.aload_n 0, 1) := by decide +kernel
theorem d12_day_128 : decode prog_14_method_90_code 128 = .ok (.iload_n 2, 1) := by decide +kernel
theorem d12_day_129 : decode prog_14_method_90_code 129 = .ok (.aload_n 0, 1) := by decide +kernel
theorem d12_day_130 : decode prog_14_method_90_code 130 = .ok (.getfield 35, 3) := by decide +kernel
theorem d12_day_133 : decode prog_14_method_90_code 133 = .ok (.iload_n 2, 1) := by decide +kernel
theorem d12_day_134 : decode prog_14_method_90_code 134 = .ok (.iaload, 1) := by decide +kernel
theorem d12_day_135 : decode prog_14_method_90_code 135 = .ok (.aload_n 0, 1) := by decide +kernel
theorem d12_day_136 : decode prog_14_method_90_code 136 = .ok (.getfield 194, 3) := by decide +kernel
theorem d12_day_139 : decode prog_14_method_90_code 139 = .ok (.aload_n 0, 1) := by decide +kernel
theorem d12_day_140 : decode prog_14_method_90_code 140 = .ok (.getfield 194, 3) := by decide +kernel
theorem d12_day_143 : decode prog_14_method_90_code 143 = .ok (.invokevirtual 477, 3) := by decide +kernel
theorem d12_day_146 : decode prog_14_method_90_code 146 = .ok (.ifCond .ne 8, 3) := by decide +kernel
theorem d12_day_149 : decode prog_14_method_90_code 149 = .ok (.aload_n 0, 1) := by decide +kernel
theorem d12_day_150 : decode prog_14_method_90_code 150 = .ok (.iload_n 2, 1) := by decide +kernel
theorem d12_day_151 : decode prog_14_method_90_code 151 = .ok (.invokevirtual 481, 3) := by decide +kernel
theorem d12_day_154 : decode prog_14_method_90_code 154 = .ok (.iinc 1 1, 3) := by decide +kernel
theorem d12_day_157 : decode prog_14_method_90_code 157 = .ok (.goto (-72), 3) := by decide +kernel
theorem d12_day_160 : decode prog_14_method_90_code 160 = .ok (.aload_n 0, 1) := by decide +kernel
theorem d12_day_161 : decode prog_14_method_90_code 161 = .ok (.dup, 1) := by decide +kernel
theorem d12_day_162 : decode prog_14_method_90_code 162 = .ok (.getfield 194, 3) := by decide +kernel
theorem d12_day_165 : decode prog_14_method_90_code 165 = .ok (.iconst 1, 1) := by decide +kernel
theorem d12_day_166 : decode prog_14_method_90_code 166 = .ok (.iadd, 1) := by decide +kernel
theorem d12_day_167 : decode prog_14_method_90_code 167 = .ok (.putfield 194, 3) := by decide +kernel
theorem d12_day_170 : decode prog_14_method_90_code 170 = .ok (.aload_n 0, 1) := by decide +kernel
theorem d12_day_171 : decode prog_14_method_90_code 171 = .ok (.getfield 194, 3) := by decide +kernel
theorem d12_day_174 : decode prog_14_method_90_code 174 = .ok (.ireturn, 1) := by decide +kernel
theorem d12_isIn_0 : decode prog_14_method_91_code 0 = .ok (.aload_n 0, 1) := by decide +kernel
theorem d12_isIn_1 : decode prog_14_method_91_code 1 = .ok (.getfield 484, 3) := by decide +kernel
theorem d12_isIn_4 : decode prog_14_method_91_code 4 = .ok (.iload_n 1, 1) := by decide +kernel
theorem d12_isIn_5 : decode prog_14_method_91_code 5 = .ok (.ishr, 1) := by decide +kernel
theorem d12_isIn_6 : decode prog_14_method_91_code 6 = .ok (.iconst 1, 1) := by decide +kernel
theorem d12_isIn_7 : decode prog_14_method_91_code 7 = .ok (.iand, 1) := by decide +kernel
theorem d12_isIn_8 : decode prog_14_method_91_code 8 = .ok (.iconst 1, 1) := by decide +kernel
theorem d12_isIn_9 : decode prog_14_method_91_code 9 = .ok (.if_icmp .ne 7, 3) := by decide +kernel
theorem d12_isIn_12 : decode prog_14_method_91_code 12 = .ok (.iconst 1, 1) := by decide +kernel
theorem d12_isIn_13 : decode prog_14_method_91_code 13 = .ok (.goto 4, 3) := by decide +kernel
theorem d12_isIn_16 : decode prog_14_method_91_code 16 = .ok (.iconst 0, 1) := by decide +kernel
theorem d12_isIn_17 : decode prog_14_method_91_code 17 = .ok (.ireturn, 1) := by decide +kernel
abbrev m12_event : MD := ("MillBoatsModel", ⟨"MillBoatsModel", "event", "(II)I"⟩, prog_14_method_82_code, 3, (some Jvm.ClassFile.FieldType.int))
theorem k12_event : okY m12_event.2.1 2 := ⟨by decide +kernel, by decide +kernel, by decide +kernel⟩
def f12_event (σ : St) (v0 : Nat) (v1 : Int32) (v2 : Int32) : Option (Int32 × St) :=
  gd (ob σ v0 12) (
  lt (wI σ v0 0 (0 : Int32)) fun t2 => (
  (if v1 < (0 : Int32) then
  some ((-1 : Int32), t2)
  else
  (if v1 < (sI t2 v0 49) then
  bd (f12_within t2 v2 (0 : Int32) (4 : Int32)) fun r6 t7 => (
  (if r6 = (0 : Int32) then
  some ((-1 : Int32), t7)
  else
  lt (sR t7 v0 50) fun b11 => (
  gd (nz b11) (
  gd (ob t7 b11 14) (
  gd (inb t7 b11 (((5 : Int32) * v1) + v2)) (
  some (sI t7 b11 (ix (((5 : Int32) * v1) + v2)), t7)))))))
  else
  some ((-1 : Int32), t2)))))
set_option maxRecDepth 50000 in
theorem s12_event : ∀ (σ : St) (v0 : Nat) (v1 : Int32) (v2 : Int32) (r : Int32) (τ : St), f12_event σ v0 v1 v2 = some (r, τ) → Call 3 m12_event [.ref v0, .int v1, .int v2] σ (some (.int r)) τ := by
  intro σ v0 v1 v2 r τ hf
  unfold f12_event at hf
  refine Call.of (by decide +kernel) rfl (Nat.le_of_ble_eq_true rfl) ?_
  refine ev_aload_n (j := 0) (i := 0) (q := 0) rfl rfl d12_event_0 ?_
  refine ev_iconst ci_0 d12_event_1 ?_
  obtain ⟨h1, hf⟩ := gd_some hf
  obtain ⟨t2, e3, hf⟩ := lt_some hf
  refine ev_putI cls12 (j := 0) (by decide) rfl rfl w1251 h1 (fun _ => ⟨rfl, rfl⟩) d12_event_2 (ev_nmS e3 ?_)
  refine ev_iload_n (j := 1) (i := 1) (q := 1) rfl rfl d12_event_5 ?_
  rcases ite_some hf with ⟨c4, hf⟩ | ⟨c4, hf⟩
  · refine ev_if_lt_P (tgt := 39) c4 (by decide) d12_event_6 ?_
    refine ev_iconst ci_m1 d12_event_39 ?_
    obtain ⟨rfl, rfl⟩ := ret_some hf
    exact ev_iret rfl d12_event_40
  · refine ev_if_lt_Q (tgt := 39) c4 (by decide) d12_event_6 ?_
    refine ev_iload_n (j := 1) (i := 1) (q := 1) rfl rfl d12_event_9 ?_
    refine ev_aload_n (j := 0) (i := 0) (q := 0) rfl rfl d12_event_10 ?_
    refine ev_getI cls12 (j := 49) (by decide) rfl w1300 (mono_ob (mono_eI e3) h1) d12_event_11 ?_
    rcases ite_some hf with ⟨c5, hf⟩ | ⟨c5, hf⟩
    · refine ev_icmp_ge_P (tgt := 39) c5 (by decide) d12_event_14 ?_
      refine ev_iload_n (j := 2) (i := 2) (q := 2) rfl rfl d12_event_17 ?_
      refine ev_iconst ci_0 d12_event_18 ?_
      refine ev_iconst ci_4 d12_event_19 ?_
      obtain ⟨r6, t7, k8, hf⟩ := bd_some hf
      have q9 := s12_within _ _ _ _ _ _ k8
      refine ev_callS (vs := [.int v2, .int (0 : Int32), .int (4 : Int32)]) (sk := []) q9 (by decide) (Nat.le_of_ble_eq_true rfl) w1497 w1498 w19 w1499 k12_within rfl (Nat.le_of_ble_eq_true rfl) d12_event_20 ?_
      rcases ite_some hf with ⟨c10, hf⟩ | ⟨c10, hf⟩
      · refine ev_if_eq_P (tgt := 39) c10 (by decide) d12_event_23 ?_
        refine ev_iconst ci_m1 d12_event_39 ?_
        obtain ⟨rfl, rfl⟩ := ret_some hf
        exact ev_iret rfl d12_event_40
      · refine ev_if_eq_Q (tgt := 39) c10 (by decide) d12_event_23 ?_
        refine ev_aload_n (j := 0) (i := 0) (q := 0) rfl rfl d12_event_26 ?_
        obtain ⟨b11, e12, hf⟩ := lt_some hf
        obtain ⟨h13, hf⟩ := gd_some hf
        refine ev_getRb cls12 (j := 50) (by decide) rfl w1301 (mono_ob q9.1 (mono_ob (mono_eI e3) h1)) e12 (nz_ne h13) d12_event_27 ?_
        refine ev_iconst ci_5 d12_event_30 ?_
        refine ev_iload_n (j := 1) (i := 1) (q := 1) rfl rfl d12_event_31 ?_
        refine ev_imul d12_event_32 ?_
        refine ev_iload_n (j := 2) (i := 2) (q := 2) rfl rfl d12_event_33 ?_
        refine ev_iadd d12_event_34 ?_
        obtain ⟨h14, hf⟩ := gd_some hf
        obtain ⟨h15, hf⟩ := gd_some hf
        refine ev_iald h14 h15 d12_event_35 ?_
        refine ev_goto (tgt := 40) (by decide) d12_event_36 ?_
        obtain ⟨rfl, rfl⟩ := ret_some hf
        exact ev_iret rfl d12_event_40
    · refine ev_icmp_ge_Q (tgt := 39) c5 (by decide) d12_event_14 ?_
      refine ev_iconst ci_m1 d12_event_39 ?_
      obtain ⟨rfl, rfl⟩ := ret_some hf
      exact ev_iret rfl d12_event_40
abbrev m12_driftsTo : MD := ("MillBoatsModel", ⟨"MillBoatsModel", "driftsTo", "(I)I"⟩, prog_14_method_83_code, 7, (some Jvm.ClassFile.FieldType.int))
theorem k12_driftsTo : okY m12_driftsTo.2.1 1 := ⟨by decide +kernel, by decide +kernel, by decide +kernel⟩
def f12_driftsTo_p138 (K28 : St → Nat → Int32 → Int32 → Int32 → Int32 → Int32 → Option (Int32 × St)) (σ : St) (v0 : Nat) (v1 : Int32) (v2 : Int32) (v3 : Int32) (v4 : Int32) (v5 : Int32) : Option (Int32 × St) :=
  lt (v5 + (1 : Int32)) fun y40 => (
  K28 σ v0 v1 v2 v3 v4 y40)
set_option maxRecDepth 20000 in
theorem s12_driftsTo_p138 {K28 : St → Nat → Int32 → Int32 → Int32 → Int32 → Int32 → Option (Int32 × St)} (hK28 : ∀ (σ : St) (v0 : Nat) (v1 : Int32) (v2 : Int32) (v3 : Int32) (v4 : Int32) (v5 : Int32) (r : Int32) (τ : St), K28 σ v0 v1 v2 v3 v4 v5 = some (r, τ) → Ev 3 m12_driftsTo 28 [(0, .ref v0), (1, .int v1), (2, .int v2), (3, .int v3), (4, .int v4), (5, .int v5)] [] σ (some (.int r)) τ) : ∀ (σ : St) (v0 : Nat) (v1 : Int32) (v2 : Int32) (v3 : Int32) (v4 : Int32) (v5 : Int32) (r : Int32) (τ : St), f12_driftsTo_p138 K28 σ v0 v1 v2 v3 v4 v5 = some (r, τ) → Ev 3 m12_driftsTo 138 [(0, .ref v0), (1, .int v1), (2, .int v2), (3, .int v3), (4, .int v4), (5, .int v5)] [] σ (some (.int r)) τ := by
  intro σ v0 v1 v2 v3 v4 v5 r τ hf
  unfold f12_driftsTo_p138 at hf
  obtain ⟨y40, e41, hf⟩ := lt_some hf
  refine ev_iinc (lv2 := [(5, .int y40), (0, .ref v0), (1, .int v1), (2, .int v2), (3, .int v3), (4, .int v4)]) (i := 5) (q := 5) (v := y40) (n := 1) rfl (by rw [ci_1]; exact e41.symm) (by decide) rfl d12_driftsTo_138 ?_
  refine ev_goto (tgt := 28) (by decide) d12_driftsTo_141 ?_
  exact Ev.sub [1, 2, 3, 4, 5, 0] rfl (hK28 _ _ _ _ _ _ _ _ _ hf)
def f12_driftsTo_p129 (K28 : St → Nat → Int32 → Int32 → Int32 → Int32 → Int32 → Option (Int32 × St)) (σ : St) (v0 : Nat) (v1 : Int32) (v2 : Int32) (v3 : Int32) (v5 : Int32) (v6 : Int32) : Option (Int32 × St) :=
  lt (((12 : Int32) * v6) + v3) fun y42 => (
  f12_driftsTo_p138 K28 σ v0 v1 v2 v3 y42 v5)
set_option maxRecDepth 20000 in
theorem s12_driftsTo_p129 {K28 : St → Nat → Int32 → Int32 → Int32 → Int32 → Int32 → Option (Int32 × St)} (hK28 : ∀ (σ : St) (v0 : Nat) (v1 : Int32) (v2 : Int32) (v3 : Int32) (v4 : Int32) (v5 : Int32) (r : Int32) (τ : St), K28 σ v0 v1 v2 v3 v4 v5 = some (r, τ) → Ev 3 m12_driftsTo 28 [(0, .ref v0), (1, .int v1), (2, .int v2), (3, .int v3), (4, .int v4), (5, .int v5)] [] σ (some (.int r)) τ) : ∀ (σ : St) (v0 : Nat) (v1 : Int32) (v2 : Int32) (v3 : Int32) (v5 : Int32) (v6 : Int32) (r : Int32) (τ : St), f12_driftsTo_p129 K28 σ v0 v1 v2 v3 v5 v6 = some (r, τ) → Ev 3 m12_driftsTo 129 [(0, .ref v0), (1, .int v1), (2, .int v2), (3, .int v3), (5, .int v5), (6, .int v6)] [] σ (some (.int r)) τ := by
  intro σ v0 v1 v2 v3 v5 v6 r τ hf
  unfold f12_driftsTo_p129 at hf
  refine ev_bipush cb_12 d12_driftsTo_129 ?_
  refine ev_iload (i := 6) (q := 5) rfl d12_driftsTo_131 ?_
  refine ev_imul d12_driftsTo_133 ?_
  refine ev_iload_n (j := 3) (i := 3) (q := 3) rfl rfl d12_driftsTo_134 ?_
  refine ev_iadd d12_driftsTo_135 ?_
  obtain ⟨y42, e43, hf⟩ := lt_some hf
  refine ev_nmI e43 ?_
  refine ev_istore (lv2 := [(4, .int y42), (0, .ref v0), (1, .int v1), (2, .int v2), (3, .int v3), (5, .int v5), (6, .int v6)]) (i := 4) (by decide) rfl d12_driftsTo_136 ?_
  exact Ev.sub [1, 2, 3, 4, 0, 5] rfl (s12_driftsTo_p138 hK28 _ _ _ _ _ _ _ _ _ hf)
def f12_driftsTo_p58 (K28 : St → Nat → Int32 → Int32 → Int32 → Int32 → Int32 → Option (Int32 × St)) (σ : St) (v0 : Nat) (v1 : Int32) (v2 : Int32) (v3 : Int32) (v4 : Int32) (v5 : Int32) (x0 : Int32) : Option (Int32 × St) :=
  bd (f12_within σ x0 (0 : Int32) (5 : Int32)) fun r14 t15 => (
  (if r14 = (0 : Int32) then
  f12_driftsTo_p138 K28 t15 v0 v1 v2 v3 v4 v5
  else
  gd (ob t15 v0 12) (
  bd (f12_depth t15 v0 (((12 : Int32) * x0) + v3) (sI t15 v0 51)) fun r20 t21 => (
  lt (sR t21 v0 6) fun b24 => (
  gd (nz b24) (
  gd (ob t21 b24 14) (
  gd (inb t21 b24 v1) (
  (if r20 < (sI t21 b24 (ix v1)) then
  f12_driftsTo_p138 K28 t21 v0 v1 v2 v3 v4 v5
  else
  (if v4 = (-1 : Int32) then
  f12_driftsTo_p129 K28 t21 v0 v1 v2 v3 v5 x0
  else
  bd (f12_valueOf t21 v0 x0 (sI t21 v0 51)) fun r31 t32 => (
  bd (f12_valueOf t32 v0 (v4 / (12 : Int32)) (sI t32 v0 51)) fun r35 t36 => (
  (if r31 ≤ r35 then
  f12_driftsTo_p138 K28 t36 v0 v1 v2 v3 v4 v5
  else
  f12_driftsTo_p129 K28 t36 v0 v1 v2 v3 v5 x0)))))))))))))
set_option maxRecDepth 20000 in
theorem s12_driftsTo_p58 {K28 : St → Nat → Int32 → Int32 → Int32 → Int32 → Int32 → Option (Int32 × St)} (hK28 : ∀ (σ : St) (v0 : Nat) (v1 : Int32) (v2 : Int32) (v3 : Int32) (v4 : Int32) (v5 : Int32) (r : Int32) (τ : St), K28 σ v0 v1 v2 v3 v4 v5 = some (r, τ) → Ev 3 m12_driftsTo 28 [(0, .ref v0), (1, .int v1), (2, .int v2), (3, .int v3), (4, .int v4), (5, .int v5)] [] σ (some (.int r)) τ) : ∀ (σ : St) (v0 : Nat) (v1 : Int32) (v2 : Int32) (v3 : Int32) (v4 : Int32) (v5 : Int32) (x0 : Int32) (r : Int32) (τ : St), f12_driftsTo_p58 K28 σ v0 v1 v2 v3 v4 v5 x0 = some (r, τ) → Ev 3 m12_driftsTo 58 [(0, .ref v0), (1, .int v1), (2, .int v2), (3, .int v3), (4, .int v4), (5, .int v5)] [.int x0] σ (some (.int r)) τ := by
  intro σ v0 v1 v2 v3 v4 v5 x0 r τ hf
  unfold f12_driftsTo_p58 at hf
  refine ev_istore (lv2 := [(6, .int x0), (0, .ref v0), (1, .int v1), (2, .int v2), (3, .int v3), (4, .int v4), (5, .int v5)]) (i := 6) (by decide) rfl d12_driftsTo_58 ?_
  refine ev_iload (i := 6) (q := 0) rfl d12_driftsTo_60 ?_
  refine ev_iconst ci_0 d12_driftsTo_62 ?_
  refine ev_iconst ci_5 d12_driftsTo_63 ?_
  obtain ⟨r14, t15, k16, hf⟩ := bd_some hf
  have q17 := s12_within _ _ _ _ _ _ k16
  refine ev_callS (vs := [.int x0, .int (0 : Int32), .int (5 : Int32)]) (sk := []) q17 (by decide) (Nat.le_of_ble_eq_true rfl) w1497 w1498 w19 w1499 k12_within rfl (Nat.le_of_ble_eq_true rfl) d12_driftsTo_64 ?_
  rcases ite_some hf with ⟨c18, hf⟩ | ⟨c18, hf⟩
  · refine ev_if_eq_P (tgt := 138) c18 (by decide) d12_driftsTo_67 ?_
    exact Ev.sub [1, 2, 3, 4, 5, 6] rfl (s12_driftsTo_p138 hK28 _ _ _ _ _ _ _ _ _ hf)
  · refine ev_if_eq_Q (tgt := 138) c18 (by decide) d12_driftsTo_67 ?_
    refine ev_aload_n (j := 0) (i := 0) (q := 1) rfl rfl d12_driftsTo_70 ?_
    refine ev_bipush cb_12 d12_driftsTo_71 ?_
    refine ev_iload (i := 6) (q := 0) rfl d12_driftsTo_73 ?_
    refine ev_imul d12_driftsTo_75 ?_
    refine ev_iload_n (j := 3) (i := 3) (q := 4) rfl rfl d12_driftsTo_76 ?_
    refine ev_iadd d12_driftsTo_77 ?_
    refine ev_aload_n (j := 0) (i := 0) (q := 1) rfl rfl d12_driftsTo_78 ?_
    obtain ⟨h19, hf⟩ := gd_some hf
    refine ev_getI cls12 (j := 51) (by decide) rfl w1302 h19 d12_driftsTo_79 ?_
    obtain ⟨r20, t21, k22, hf⟩ := bd_some hf
    have q23 := s12_depth _ _ _ _ _ _ k22
    refine ev_callV (vs := [.int (((12 : Int32) * x0) + v3), .int (sI t15 v0 51)]) (sk := []) cls12 h19 q23 (by decide) (Nat.le_of_ble_eq_true rfl) w1556 w1558 ws58 w19 w1559 k12_depth rfl (Nat.le_of_ble_eq_true rfl) d12_driftsTo_82 ?_
    refine ev_aload_n (j := 0) (i := 0) (q := 1) rfl rfl d12_driftsTo_85 ?_
    obtain ⟨b24, e25, hf⟩ := lt_some hf
    obtain ⟨h26, hf⟩ := gd_some hf
    refine ev_getRb cls12 (j := 6) (by decide) rfl w1257 (mono_ob q23.1 h19) e25 (nz_ne h26) d12_driftsTo_86 ?_
    refine ev_iload_n (j := 1) (i := 1) (q := 2) rfl rfl d12_driftsTo_89 ?_
    obtain ⟨h27, hf⟩ := gd_some hf
    obtain ⟨h28, hf⟩ := gd_some hf
    refine ev_iald h27 h28 d12_driftsTo_90 ?_
    rcases ite_some hf with ⟨c29, hf⟩ | ⟨c29, hf⟩
    · refine ev_icmp_ge_P (tgt := 97) c29 (by decide) d12_driftsTo_91 ?_
      refine ev_goto (tgt := 138) (by decide) d12_driftsTo_94 ?_
      exact Ev.sub [1, 2, 3, 4, 5, 6] rfl (s12_driftsTo_p138 hK28 _ _ _ _ _ _ _ _ _ hf)
    · refine ev_icmp_ge_Q (tgt := 97) c29 (by decide) d12_driftsTo_91 ?_
      refine ev_iload (i := 4) (q := 5) rfl d12_driftsTo_97 ?_
      refine ev_iconst ci_m1 d12_driftsTo_99 ?_
      rcases ite_some hf with ⟨c30, hf⟩ | ⟨c30, hf⟩
      · refine ev_icmp_eq_P (tgt := 129) c30 (by decide) d12_driftsTo_100 ?_
        exact Ev.sub [1, 2, 3, 4, 6, 0] rfl (s12_driftsTo_p129 hK28 _ _ _ _ _ _ _ _ _ hf)
      · refine ev_icmp_eq_Q (tgt := 129) c30 (by decide) d12_driftsTo_100 ?_
        refine ev_aload_n (j := 0) (i := 0) (q := 1) rfl rfl d12_driftsTo_103 ?_
        refine ev_iload (i := 6) (q := 0) rfl d12_driftsTo_104 ?_
        refine ev_aload_n (j := 0) (i := 0) (q := 1) rfl rfl d12_driftsTo_106 ?_
        refine ev_getI cls12 (j := 51) (by decide) rfl w1302 (mono_ob q23.1 h19) d12_driftsTo_107 ?_
        obtain ⟨r31, t32, k33, hf⟩ := bd_some hf
        have q34 := s12_valueOf _ _ _ _ _ _ k33
        refine ev_callV (vs := [.int x0, .int (sI t21 v0 51)]) (sk := []) cls12 (mono_ob q23.1 h19) q34 (by decide) (Nat.le_of_ble_eq_true rfl) w1508 w1510 ws51 w19 w1511 k12_valueOf rfl (Nat.le_of_ble_eq_true rfl) d12_driftsTo_110 ?_
        refine ev_aload_n (j := 0) (i := 0) (q := 1) rfl rfl d12_driftsTo_113 ?_
        refine ev_iload (i := 4) (q := 5) rfl d12_driftsTo_114 ?_
        refine ev_bipush cb_12 d12_driftsTo_116 ?_
        refine ev_idiv (by decide) d12_driftsTo_118 ?_
        refine ev_aload_n (j := 0) (i := 0) (q := 1) rfl rfl d12_driftsTo_119 ?_
        refine ev_getI cls12 (j := 51) (by decide) rfl w1302 (mono_ob q34.1 (mono_ob q23.1 h19)) d12_driftsTo_120 ?_
        obtain ⟨r35, t36, k37, hf⟩ := bd_some hf
        have q38 := s12_valueOf _ _ _ _ _ _ k37
        refine ev_callV (vs := [.int (v4 / (12 : Int32)), .int (sI t32 v0 51)]) (sk := [.int r31]) cls12 (mono_ob q34.1 (mono_ob q23.1 h19)) q38 (by decide) (Nat.le_of_ble_eq_true rfl) w1508 w1510 ws51 w19 w1511 k12_valueOf rfl (Nat.le_of_ble_eq_true rfl) d12_driftsTo_123 ?_
        rcases ite_some hf with ⟨c39, hf⟩ | ⟨c39, hf⟩
        · refine ev_icmp_le_P (tgt := 138) c39 (by decide) d12_driftsTo_126 ?_
          exact Ev.sub [1, 2, 3, 4, 5, 6] rfl (s12_driftsTo_p138 hK28 _ _ _ _ _ _ _ _ _ hf)
        · refine ev_icmp_le_Q (tgt := 138) c39 (by decide) d12_driftsTo_126 ?_
          exact Ev.sub [1, 2, 3, 4, 6, 0] rfl (s12_driftsTo_p129 hK28 _ _ _ _ _ _ _ _ _ hf)
def f12_driftsTo_p28 : Nat → St → Nat → Int32 → Int32 → Int32 → Int32 → Int32 → Option (Int32 × St)
  | 0, _, _, _, _, _, _, _ => none
  | n + 1, σ, v0, v1, v2, v3, v4, v5 =>
  (if v5 < (3 : Int32) then
  (if v5 = (0 : Int32) then
  f12_driftsTo_p58 (f12_driftsTo_p28 n) σ v0 v1 v2 v3 v4 v5 v2
  else
  (if v5 = (1 : Int32) then
  f12_driftsTo_p58 (f12_driftsTo_p28 n) σ v0 v1 v2 v3 v4 v5 (v2 - (1 : Int32))
  else
  f12_driftsTo_p58 (f12_driftsTo_p28 n) σ v0 v1 v2 v3 v4 v5 (v2 + (1 : Int32))))
  else
  some (v4, σ))
set_option maxRecDepth 20000 in
theorem s12_driftsTo_p28 : ∀ (n : Nat) (σ : St) (v0 : Nat) (v1 : Int32) (v2 : Int32) (v3 : Int32) (v4 : Int32) (v5 : Int32) (r : Int32) (τ : St), f12_driftsTo_p28 n σ v0 v1 v2 v3 v4 v5 = some (r, τ) → Ev 3 m12_driftsTo 28 [(0, .ref v0), (1, .int v1), (2, .int v2), (3, .int v3), (4, .int v4), (5, .int v5)] [] σ (some (.int r)) τ := by
  intro n
  induction n with
  | zero =>
    intro σ v0 v1 v2 v3 v4 v5 r τ hf
    cases hf
  | succ n ih =>
    intro σ v0 v1 v2 v3 v4 v5 r τ hf
    rw [f12_driftsTo_p28] at hf
    refine ev_iload (i := 5) (q := 5) rfl d12_driftsTo_28 ?_
    refine ev_iconst ci_3 d12_driftsTo_30 ?_
    rcases ite_some hf with ⟨c11, hf⟩ | ⟨c11, hf⟩
    · refine ev_icmp_ge_P (tgt := 144) c11 (by decide) d12_driftsTo_31 ?_
      refine ev_iload (i := 5) (q := 5) rfl d12_driftsTo_34 ?_
      rcases ite_some hf with ⟨c12, hf⟩ | ⟨c12, hf⟩
      · refine ev_if_ne_P (tgt := 43) c12 (by decide) d12_driftsTo_36 ?_
        refine ev_iload_n (j := 2) (i := 2) (q := 2) rfl rfl d12_driftsTo_39 ?_
        refine ev_goto (tgt := 58) (by decide) d12_driftsTo_40 ?_
        exact Ev.sub [0, 1, 2, 3, 4, 5] rfl (s12_driftsTo_p58 ih _ _ _ _ _ _ _ _ _ _ hf)
      · refine ev_if_ne_Q (tgt := 43) c12 (by decide) d12_driftsTo_36 ?_
        refine ev_iload (i := 5) (q := 5) rfl d12_driftsTo_43 ?_
        refine ev_iconst ci_1 d12_driftsTo_45 ?_
        rcases ite_some hf with ⟨c13, hf⟩ | ⟨c13, hf⟩
        · refine ev_icmp_ne_P (tgt := 55) c13 (by decide) d12_driftsTo_46 ?_
          refine ev_iload_n (j := 2) (i := 2) (q := 2) rfl rfl d12_driftsTo_49 ?_
          refine ev_iconst ci_1 d12_driftsTo_50 ?_
          refine ev_isub d12_driftsTo_51 ?_
          refine ev_goto (tgt := 58) (by decide) d12_driftsTo_52 ?_
          exact Ev.sub [0, 1, 2, 3, 4, 5] rfl (s12_driftsTo_p58 ih _ _ _ _ _ _ _ _ _ _ hf)
        · refine ev_icmp_ne_Q (tgt := 55) c13 (by decide) d12_driftsTo_46 ?_
          refine ev_iload_n (j := 2) (i := 2) (q := 2) rfl rfl d12_driftsTo_55 ?_
          refine ev_iconst ci_1 d12_driftsTo_56 ?_
          refine ev_iadd d12_driftsTo_57 ?_
          exact Ev.sub [0, 1, 2, 3, 4, 5] rfl (s12_driftsTo_p58 ih _ _ _ _ _ _ _ _ _ _ hf)
    · refine ev_icmp_ge_Q (tgt := 144) c11 (by decide) d12_driftsTo_31 ?_
      refine ev_iload (i := 4) (q := 4) rfl d12_driftsTo_144 ?_
      obtain ⟨rfl, rfl⟩ := ret_some hf
      exact ev_iret rfl d12_driftsTo_146
def f12_driftsTo (σ : St) (v0 : Nat) (v1 : Int32) : Option (Int32 × St) :=
  gd (ob σ v0 12) (
  lt (sR σ v0 9) fun b2 => (
  gd (nz b2) (
  gd (ob σ b2 14) (
  gd (inb σ b2 v1) (
  lt ((sI σ b2 (ix v1)) / (12 : Int32)) fun y7 => (
  lt (((sI σ b2 (ix v1)) - (sI σ b2 (ix v1)) / (12 : Int32) * (12 : Int32)) + (1 : Int32)) fun y9 => (
  f12_driftsTo_p28 FU σ v0 v1 y7 y9 (-1 : Int32) (0 : Int32))))))))
set_option maxRecDepth 50000 in
theorem s12_driftsTo : ∀ (σ : St) (v0 : Nat) (v1 : Int32) (r : Int32) (τ : St), f12_driftsTo σ v0 v1 = some (r, τ) → Call 3 m12_driftsTo [.ref v0, .int v1] σ (some (.int r)) τ := by
  intro σ v0 v1 r τ hf
  unfold f12_driftsTo at hf
  refine Call.of (by decide +kernel) rfl (Nat.le_of_ble_eq_true rfl) ?_
  refine ev_aload_n (j := 0) (i := 0) (q := 0) rfl rfl d12_driftsTo_0 ?_
  obtain ⟨h1, hf⟩ := gd_some hf
  obtain ⟨b2, e3, hf⟩ := lt_some hf
  obtain ⟨h4, hf⟩ := gd_some hf
  refine ev_getRb cls12 (j := 9) (by decide) rfl w1260 h1 e3 (nz_ne h4) d12_driftsTo_1 ?_
  refine ev_iload_n (j := 1) (i := 1) (q := 1) rfl rfl d12_driftsTo_4 ?_
  obtain ⟨h5, hf⟩ := gd_some hf
  obtain ⟨h6, hf⟩ := gd_some hf
  refine ev_iald h5 h6 d12_driftsTo_5 ?_
  refine ev_bipush cb_12 d12_driftsTo_6 ?_
  refine ev_idiv (by decide) d12_driftsTo_8 ?_
  obtain ⟨y7, e8, hf⟩ := lt_some hf
  refine ev_nmI e8 ?_
  refine ev_istore_n (lv2 := [(2, .int y7), (0, .ref v0), (1, .int v1)]) (j := 2) (i := 2) rfl (by decide) rfl d12_driftsTo_9 ?_
  refine ev_aload_n (j := 0) (i := 0) (q := 1) rfl rfl d12_driftsTo_10 ?_
  refine ev_getRb cls12 (j := 9) (by decide) rfl w1260 h1 e3 (nz_ne h4) d12_driftsTo_11 ?_
  refine ev_iload_n (j := 1) (i := 1) (q := 2) rfl rfl d12_driftsTo_14 ?_
  refine ev_iald h5 h6 d12_driftsTo_15 ?_
  refine ev_bipush cb_12 d12_driftsTo_16 ?_
  refine ev_irem (by decide) d12_driftsTo_18 ?_
  refine ev_iconst ci_1 d12_driftsTo_19 ?_
  refine ev_iadd d12_driftsTo_20 ?_
  obtain ⟨y9, e10, hf⟩ := lt_some hf
  refine ev_nmI e10 ?_
  refine ev_istore_n (lv2 := [(3, .int y9), (2, .int y7), (0, .ref v0), (1, .int v1)]) (j := 3) (i := 3) rfl (by decide) rfl d12_driftsTo_21 ?_
  refine ev_iconst ci_m1 d12_driftsTo_22 ?_
  refine ev_istore (lv2 := [(4, .int (-1 : Int32)), (3, .int y9), (2, .int y7), (0, .ref v0), (1, .int v1)]) (i := 4) (by decide) rfl d12_driftsTo_23 ?_
  refine ev_iconst ci_0 d12_driftsTo_25 ?_
  refine ev_istore (lv2 := [(5, .int (0 : Int32)), (4, .int (-1 : Int32)), (3, .int y9), (2, .int y7), (0, .ref v0), (1, .int v1)]) (i := 5) (by decide) rfl d12_driftsTo_26 ?_
  exact Ev.sub [4, 5, 3, 2, 1, 0] rfl (s12_driftsTo_p28 FU _ _ _ _ _ _ _ _ _ hf)
abbrev m12_drifts : MD := ("MillBoatsModel", ⟨"MillBoatsModel", "drifts", "(II)V"⟩, prog_14_method_84_code, 7, (none : Option Jvm.ClassFile.FieldType))
theorem k12_drifts : okY m12_drifts.2.1 2 := ⟨by decide +kernel, by decide +kernel, by decide +kernel⟩
def f12_drifts_p175 (F : St → Nat → Int32 → Int32 → Option (Unit × St)) (K2 : St → Nat → Int32 → Int32 → Int32 → Option (Unit × St)) (σ : St) (v0 : Nat) (v1 : Int32) (v2 : Int32) (v3 : Int32) : Option (Unit × St) :=
  K2 σ v0 v1 v2 v3
set_option maxRecDepth 20000 in
theorem s12_drifts_p175 {F : St → Nat → Int32 → Int32 → Option (Unit × St)} {dF : Nat} (hB : 5 ≤ dF) (hF : ∀ (σ : St) (a0 : Nat) (a1 : Int32) (a2 : Int32) (r : Unit) (τ : St), F σ a0 a1 a2 = some (r, τ) → Call dF m12_drifts [.ref a0, .int a1, .int a2] σ none τ) {K2 : St → Nat → Int32 → Int32 → Int32 → Option (Unit × St)} (hK2 : ∀ (σ : St) (v0 : Nat) (v1 : Int32) (v2 : Int32) (v3 : Int32) (r : Unit) (τ : St), K2 σ v0 v1 v2 v3 = some (r, τ) → Ev (dF + 1) m12_drifts 2 [(0, .ref v0), (1, .int v1), (2, .int v2), (3, .int v3)] [] σ none τ) : ∀ (σ : St) (v0 : Nat) (v1 : Int32) (v2 : Int32) (v3 : Int32) (r : Unit) (τ : St), f12_drifts_p175 F K2 σ v0 v1 v2 v3 = some (r, τ) → Ev (dF + 1) m12_drifts 175 [(0, .ref v0), (1, .int v1), (2, .int v2), (3, .int v3)] [] σ none τ := by
  intro σ v0 v1 v2 v3 r τ hf
  unfold f12_drifts_p175 at hf
  refine ev_goto (tgt := 2) (by decide) d12_drifts_175 ?_
  exact Ev.sub [0, 1, 2, 3] rfl (hK2 _ _ _ _ _ _ _ hf)
def f12_drifts_p145 (F : St → Nat → Int32 → Int32 → Option (Unit × St)) (K2 : St → Nat → Int32 → Int32 → Int32 → Option (Unit × St)) (σ : St) (v0 : Nat) (v1 : Int32) (v2 : Int32) (v4 : Int32) (v6 : Int32) (x0 : Int32) : Option (Unit × St) :=
  (if x0 = (0 : Int32) then
  gd (ob σ v0 12) (
  lt (sR σ v0 9) fun b60 => (
  gd (nz b60) (
  gd (ob σ b60 14) (
  gd (inb σ b60 v1) (
  bd (f12_tells σ v0 (3 : Int32) v1 v6 (sI σ b60 (ix v1))) fun r65 t66 => (
  f12_drifts_p175 F K2 t66 v0 v1 v2 x0))))))
  else
  gd (ob σ v0 12) (
  lt (sR σ v0 9) fun b70 => (
  gd (nz b70) (
  gd (ob σ b70 14) (
  gd (inb σ b70 v1) (
  lt (wI σ b70 (ix v1) v4) fun t75 => (
  f12_drifts_p175 F K2 t75 v0 v1 v2 x0)))))))
set_option maxRecDepth 20000 in
theorem s12_drifts_p145 {F : St → Nat → Int32 → Int32 → Option (Unit × St)} {dF : Nat} (hB : 5 ≤ dF) (hF : ∀ (σ : St) (a0 : Nat) (a1 : Int32) (a2 : Int32) (r : Unit) (τ : St), F σ a0 a1 a2 = some (r, τ) → Call dF m12_drifts [.ref a0, .int a1, .int a2] σ none τ) {K2 : St → Nat → Int32 → Int32 → Int32 → Option (Unit × St)} (hK2 : ∀ (σ : St) (v0 : Nat) (v1 : Int32) (v2 : Int32) (v3 : Int32) (r : Unit) (τ : St), K2 σ v0 v1 v2 v3 = some (r, τ) → Ev (dF + 1) m12_drifts 2 [(0, .ref v0), (1, .int v1), (2, .int v2), (3, .int v3)] [] σ none τ) : ∀ (σ : St) (v0 : Nat) (v1 : Int32) (v2 : Int32) (v4 : Int32) (v6 : Int32) (x0 : Int32) (r : Unit) (τ : St), f12_drifts_p145 F K2 σ v0 v1 v2 v4 v6 x0 = some (r, τ) → Ev (dF + 1) m12_drifts 145 [(0, .ref v0), (1, .int v1), (2, .int v2), (4, .int v4), (6, .int v6)] [.int x0] σ none τ := by
  intro σ v0 v1 v2 v4 v6 x0 r τ hf
  unfold f12_drifts_p145 at hf
  refine ev_istore_n (lv2 := [(3, .int x0), (0, .ref v0), (1, .int v1), (2, .int v2), (4, .int v4), (6, .int v6)]) (j := 3) (i := 3) rfl (by decide) rfl d12_drifts_145 ?_
  refine ev_iload_n (j := 3) (i := 3) (q := 0) rfl rfl d12_drifts_146 ?_
  rcases ite_some hf with ⟨c58, hf⟩ | ⟨c58, hf⟩
  · refine ev_if_eq_P (tgt := 161) c58 (by decide) d12_drifts_147 ?_
    refine ev_aload_n (j := 0) (i := 0) (q := 1) rfl rfl d12_drifts_161 ?_
    refine ev_iconst ci_3 d12_drifts_162 ?_
    refine ev_iload_n (j := 1) (i := 1) (q := 2) rfl rfl d12_drifts_163 ?_
    refine ev_iload (i := 6) (q := 5) rfl d12_drifts_164 ?_
    refine ev_aload_n (j := 0) (i := 0) (q := 1) rfl rfl d12_drifts_166 ?_
    obtain ⟨h59, hf⟩ := gd_some hf
    obtain ⟨b60, e61, hf⟩ := lt_some hf
    obtain ⟨h62, hf⟩ := gd_some hf
    refine ev_getRb cls12 (j := 9) (by decide) rfl w1260 h59 e61 (nz_ne h62) d12_drifts_167 ?_
    refine ev_iload_n (j := 1) (i := 1) (q := 2) rfl rfl d12_drifts_170 ?_
    obtain ⟨h63, hf⟩ := gd_some hf
    obtain ⟨h64, hf⟩ := gd_some hf
    refine ev_iald h63 h64 d12_drifts_171 ?_
    obtain ⟨r65, t66, k67, hf⟩ := bd_some hf
    have q68 := s12_tells _ _ _ _ _ _ _ _ k67
    refine ev_callV (vs := [.int (3 : Int32), .int v1, .int v6, .int (sI σ b60 (ix v1))]) (sk := []) cls12 h59 q68 (by omega) (Nat.le_of_ble_eq_true rfl) w1835 w1837 ws99 w19 w1838 k12_tells rfl (Nat.le_of_ble_eq_true rfl) d12_drifts_172 ?_
    exact Ev.sub [1, 2, 3, 0] rfl (s12_drifts_p175 hB hF hK2 _ _ _ _ _ _ _ hf)
  · refine ev_if_eq_Q (tgt := 161) c58 (by decide) d12_drifts_147 ?_
    refine ev_aload_n (j := 0) (i := 0) (q := 1) rfl rfl d12_drifts_150 ?_
    obtain ⟨h69, hf⟩ := gd_some hf
    obtain ⟨b70, e71, hf⟩ := lt_some hf
    obtain ⟨h72, hf⟩ := gd_some hf
    refine ev_getRb cls12 (j := 9) (by decide) rfl w1260 h69 e71 (nz_ne h72) d12_drifts_151 ?_
    refine ev_iload_n (j := 1) (i := 1) (q := 2) rfl rfl d12_drifts_154 ?_
    refine ev_iload (i := 4) (q := 4) rfl d12_drifts_155 ?_
    obtain ⟨h73, hf⟩ := gd_some hf
    obtain ⟨h74, hf⟩ := gd_some hf
    obtain ⟨t75, e76, hf⟩ := lt_some hf
    refine ev_iast h73 h74 d12_drifts_157 (ev_nmS e76 ?_)
    refine ev_goto (tgt := 175) (by decide) d12_drifts_158 ?_
    exact Ev.sub [1, 2, 3, 0] rfl (s12_drifts_p175 hB hF hK2 _ _ _ _ _ _ _ hf)
def f12_drifts_p126 (F : St → Nat → Int32 → Int32 → Option (Unit × St)) (K2 : St → Nat → Int32 → Int32 → Int32 → Option (Unit × St)) (σ : St) (v0 : Nat) (v1 : Int32) (v2 : Int32) (v4 : Int32) : Option (Unit × St) :=
  gd (ob σ v0 12) (
  bd (f12_millAt σ v0 v4) fun r53 t54 => (
  (if r53 = (-1 : Int32) then
  f12_drifts_p145 F K2 t54 v0 v1 v2 v4 r53 (1 : Int32)
  else
  f12_drifts_p145 F K2 t54 v0 v1 v2 v4 r53 (0 : Int32))))
set_option maxRecDepth 20000 in
theorem s12_drifts_p126 {F : St → Nat → Int32 → Int32 → Option (Unit × St)} {dF : Nat} (hB : 5 ≤ dF) (hF : ∀ (σ : St) (a0 : Nat) (a1 : Int32) (a2 : Int32) (r : Unit) (τ : St), F σ a0 a1 a2 = some (r, τ) → Call dF m12_drifts [.ref a0, .int a1, .int a2] σ none τ) {K2 : St → Nat → Int32 → Int32 → Int32 → Option (Unit × St)} (hK2 : ∀ (σ : St) (v0 : Nat) (v1 : Int32) (v2 : Int32) (v3 : Int32) (r : Unit) (τ : St), K2 σ v0 v1 v2 v3 = some (r, τ) → Ev (dF + 1) m12_drifts 2 [(0, .ref v0), (1, .int v1), (2, .int v2), (3, .int v3)] [] σ none τ) : ∀ (σ : St) (v0 : Nat) (v1 : Int32) (v2 : Int32) (v4 : Int32) (r : Unit) (τ : St), f12_drifts_p126 F K2 σ v0 v1 v2 v4 = some (r, τ) → Ev (dF + 1) m12_drifts 126 [(0, .ref v0), (1, .int v1), (2, .int v2), (4, .int v4)] [] σ none τ := by
  intro σ v0 v1 v2 v4 r τ hf
  unfold f12_drifts_p126 at hf
  refine ev_aload_n (j := 0) (i := 0) (q := 0) rfl rfl d12_drifts_126 ?_
  refine ev_iload (i := 4) (q := 3) rfl d12_drifts_127 ?_
  obtain ⟨h52, hf⟩ := gd_some hf
  obtain ⟨r53, t54, k55, hf⟩ := bd_some hf
  have q56 := s12_millAt _ _ _ _ _ k55
  refine ev_callV (vs := [.int v4]) (sk := []) cls12 h52 q56 (by omega) (Nat.le_of_ble_eq_true rfl) w1524 w1526 ws53 w19 w1527 k12_millAt rfl (Nat.le_of_ble_eq_true rfl) d12_drifts_129 ?_
  refine ev_istore (lv2 := [(6, .int r53), (0, .ref v0), (1, .int v1), (2, .int v2), (4, .int v4)]) (i := 6) (by decide) rfl d12_drifts_132 ?_
  refine ev_iload (i := 6) (q := 0) rfl d12_drifts_134 ?_
  refine ev_iconst ci_m1 d12_drifts_136 ?_
  rcases ite_some hf with ⟨c57, hf⟩ | ⟨c57, hf⟩
  · refine ev_icmp_ne_P (tgt := 144) c57 (by decide) d12_drifts_137 ?_
    refine ev_iconst ci_1 d12_drifts_140 ?_
    refine ev_goto (tgt := 145) (by decide) d12_drifts_141 ?_
    exact Ev.sub [1, 2, 3, 4, 0] rfl (s12_drifts_p145 hB hF hK2 _ _ _ _ _ _ _ _ _ hf)
  · refine ev_icmp_ne_Q (tgt := 144) c57 (by decide) d12_drifts_137 ?_
    refine ev_iconst ci_0 d12_drifts_144 ?_
    exact Ev.sub [1, 2, 3, 4, 0] rfl (s12_drifts_p145 hB hF hK2 _ _ _ _ _ _ _ _ _ hf)
def f12_drifts_p2 (F : St → Nat → Int32 → Int32 → Option (Unit × St)) : Nat → St → Nat → Int32 → Int32 → Int32 → Option (Unit × St)
  | 0, _, _, _, _, _ => none
  | n + 1, σ, v0, v1, v2, v3 =>
  (if v3 = (0 : Int32) then
  some ((), σ)
  else
  gd (ob σ v0 12) (
  lt (sR σ v0 9) fun b3 => (
  gd (nz b3) (
  gd (ob σ b3 14) (
  gd (inb σ b3 v1) (
  (if ((sI σ b3 (ix v1)) - (sI σ b3 (ix v1)) / (12 : Int32) * (12 : Int32)) = (11 : Int32) then
  lt (wI σ b3 (ix v1) (-2 : Int32)) fun t9 => (
  bd (f12_tells t9 v0 (5 : Int32) v1 (-1 : Int32) (-1 : Int32)) fun r11 t12 => (
  some ((), t12)))
  else
  bd (f12_driftsTo σ v0 v1) fun r15 t16 => (
  (if r15 = (-1 : Int32) then
  lt (sR t16 v0 9) fun b20 => (
  gd (nz b20) (
  gd (ob t16 b20 14) (
  gd (inb t16 b20 v1) (
  bd (f12_tells t16 v0 (4 : Int32) v1 (-1 : Int32) (sI t16 b20 (ix v1))) fun r25 t26 => (
  some ((), t26))))))
  else
  bd (f12_millAt t16 v0 r15) fun r29 t30 => (
  (if r29 = (-1 : Int32) then
  f12_drifts_p126 F (f12_drifts_p2 F n) t30 v0 v1 v2 r15
  else
  bd (f12_pullOf t30 v0 r29 (sI t30 v0 51) (sI t30 v0 52)) fun r34 t35 => (
  lt (sR t35 v0 8) fun b38 => (
  gd (nz b38) (
  gd (ob t35 b38 14) (
  gd (inb t35 b38 r29) (
  (if (r34 + v2) ≤ (sI t35 b38 (ix r29)) then
  f12_drifts_p126 F (f12_drifts_p2 F n) t35 v0 v1 v2 r15
  else
  bd (f12_tells t35 v0 (2 : Int32) r29 v1 r15) fun r44 t45 => (
  bd (F t45 v0 r29 r34) fun r48 t49 => (
  f12_drifts_p126 F (f12_drifts_p2 F n) t49 v0 v1 v2 r15)))))))))))))))))))
set_option maxRecDepth 20000 in
theorem s12_drifts_p2 {F : St → Nat → Int32 → Int32 → Option (Unit × St)} {dF : Nat} (hB : 5 ≤ dF) (hF : ∀ (σ : St) (a0 : Nat) (a1 : Int32) (a2 : Int32) (r : Unit) (τ : St), F σ a0 a1 a2 = some (r, τ) → Call dF m12_drifts [.ref a0, .int a1, .int a2] σ none τ) : ∀ (n : Nat) (σ : St) (v0 : Nat) (v1 : Int32) (v2 : Int32) (v3 : Int32) (r : Unit) (τ : St), f12_drifts_p2 F n σ v0 v1 v2 v3 = some (r, τ) → Ev (dF + 1) m12_drifts 2 [(0, .ref v0), (1, .int v1), (2, .int v2), (3, .int v3)] [] σ none τ := by
  intro n
  induction n with
  | zero =>
    intro σ v0 v1 v2 v3 r τ hf
    cases hf
  | succ n ih =>
    intro σ v0 v1 v2 v3 r τ hf
    rw [f12_drifts_p2] at hf
    refine ev_iload_n (j := 3) (i := 3) (q := 3) rfl rfl d12_drifts_2 ?_
    rcases ite_some hf with ⟨c1, hf⟩ | ⟨c1, hf⟩
    · refine ev_if_eq_P (tgt := 178) c1 (by decide) d12_drifts_3 ?_
      obtain ⟨-, rfl⟩ := ret_some hf
      exact ev_vret rfl d12_drifts_178
    · refine ev_if_eq_Q (tgt := 178) c1 (by decide) d12_drifts_3 ?_
      refine ev_aload_n (j := 0) (i := 0) (q := 0) rfl rfl d12_drifts_6 ?_
      obtain ⟨h2, hf⟩ := gd_some hf
      obtain ⟨b3, e4, hf⟩ := lt_some hf
      obtain ⟨h5, hf⟩ := gd_some hf
      refine ev_getRb cls12 (j := 9) (by decide) rfl w1260 h2 e4 (nz_ne h5) d12_drifts_7 ?_
      refine ev_iload_n (j := 1) (i := 1) (q := 1) rfl rfl d12_drifts_10 ?_
      obtain ⟨h6, hf⟩ := gd_some hf
      obtain ⟨h7, hf⟩ := gd_some hf
      refine ev_iald h6 h7 d12_drifts_11 ?_
      refine ev_bipush cb_12 d12_drifts_12 ?_
      refine ev_irem (by decide) d12_drifts_14 ?_
      refine ev_bipush cb_11 d12_drifts_15 ?_
      rcases ite_some hf with ⟨c8, hf⟩ | ⟨c8, hf⟩
      · refine ev_icmp_ne_P (tgt := 37) c8 (by decide) d12_drifts_17 ?_
        refine ev_aload_n (j := 0) (i := 0) (q := 0) rfl rfl d12_drifts_20 ?_
        refine ev_getRb cls12 (j := 9) (by decide) rfl w1260 h2 e4 (nz_ne h5) d12_drifts_21 ?_
        refine ev_iload_n (j := 1) (i := 1) (q := 1) rfl rfl d12_drifts_24 ?_
        refine ev_bipush cb_m2 d12_drifts_25 ?_
        obtain ⟨t9, e10, hf⟩ := lt_some hf
        refine ev_iast h6 h7 d12_drifts_27 (ev_nmS e10 ?_)
        refine ev_aload_n (j := 0) (i := 0) (q := 0) rfl rfl d12_drifts_28 ?_
        refine ev_iconst ci_5 d12_drifts_29 ?_
        refine ev_iload_n (j := 1) (i := 1) (q := 1) rfl rfl d12_drifts_30 ?_
        refine ev_iconst ci_m1 d12_drifts_31 ?_
        refine ev_iconst ci_m1 d12_drifts_32 ?_
        obtain ⟨r11, t12, k13, hf⟩ := bd_some hf
        have q14 := s12_tells _ _ _ _ _ _ _ _ k13
        refine ev_callV (vs := [.int (5 : Int32), .int v1, .int (-1 : Int32), .int (-1 : Int32)]) (sk := []) cls12 (mono_ob (mono_eI e10) h2) q14 (by omega) (Nat.le_of_ble_eq_true rfl) w1835 w1837 ws99 w19 w1838 k12_tells rfl (Nat.le_of_ble_eq_true rfl) d12_drifts_33 ?_
        obtain ⟨-, rfl⟩ := ret_some hf
        exact ev_vret rfl d12_drifts_36
      · refine ev_icmp_ne_Q (tgt := 37) c8 (by decide) d12_drifts_17 ?_
        refine ev_aload_n (j := 0) (i := 0) (q := 0) rfl rfl d12_drifts_37 ?_
        refine ev_iload_n (j := 1) (i := 1) (q := 1) rfl rfl d12_drifts_38 ?_
        obtain ⟨r15, t16, k17, hf⟩ := bd_some hf
        have q18 := s12_driftsTo _ _ _ _ _ k17
        refine ev_callV (vs := [.int v1]) (sk := []) cls12 h2 q18 (by omega) (Nat.le_of_ble_eq_true rfl) w1843 w1845 ws101 w19 w1846 k12_driftsTo rfl (Nat.le_of_ble_eq_true rfl) d12_drifts_39 ?_
        refine ev_istore (lv2 := [(4, .int r15), (0, .ref v0), (1, .int v1), (2, .int v2), (3, .int v3)]) (i := 4) (by decide) rfl d12_drifts_42 ?_
        refine ev_iload (i := 4) (q := 0) rfl d12_drifts_44 ?_
        refine ev_iconst ci_m1 d12_drifts_46 ?_
        rcases ite_some hf with ⟨c19, hf⟩ | ⟨c19, hf⟩
        · refine ev_icmp_ne_P (tgt := 64) c19 (by decide) d12_drifts_47 ?_
          refine ev_aload_n (j := 0) (i := 0) (q := 1) rfl rfl d12_drifts_50 ?_
          refine ev_iconst ci_4 d12_drifts_51 ?_
          refine ev_iload_n (j := 1) (i := 1) (q := 2) rfl rfl d12_drifts_52 ?_
          refine ev_iconst ci_m1 d12_drifts_53 ?_
          refine ev_aload_n (j := 0) (i := 0) (q := 1) rfl rfl d12_drifts_54 ?_
          obtain ⟨b20, e21, hf⟩ := lt_some hf
          obtain ⟨h22, hf⟩ := gd_some hf
          refine ev_getRb cls12 (j := 9) (by decide) rfl w1260 (mono_ob q18.1 h2) e21 (nz_ne h22) d12_drifts_55 ?_
          refine ev_iload_n (j := 1) (i := 1) (q := 2) rfl rfl d12_drifts_58 ?_
          obtain ⟨h23, hf⟩ := gd_some hf
          obtain ⟨h24, hf⟩ := gd_some hf
          refine ev_iald h23 h24 d12_drifts_59 ?_
          obtain ⟨r25, t26, k27, hf⟩ := bd_some hf
          have q28 := s12_tells _ _ _ _ _ _ _ _ k27
          refine ev_callV (vs := [.int (4 : Int32), .int v1, .int (-1 : Int32), .int (sI t16 b20 (ix v1))]) (sk := []) cls12 (mono_ob q18.1 h2) q28 (by omega) (Nat.le_of_ble_eq_true rfl) w1835 w1837 ws99 w19 w1838 k12_tells rfl (Nat.le_of_ble_eq_true rfl) d12_drifts_60 ?_
          obtain ⟨-, rfl⟩ := ret_some hf
          exact ev_vret rfl d12_drifts_63
        · refine ev_icmp_ne_Q (tgt := 64) c19 (by decide) d12_drifts_47 ?_
          refine ev_aload_n (j := 0) (i := 0) (q := 1) rfl rfl d12_drifts_64 ?_
          refine ev_iload (i := 4) (q := 0) rfl d12_drifts_65 ?_
          obtain ⟨r29, t30, k31, hf⟩ := bd_some hf
          have q32 := s12_millAt _ _ _ _ _ k31
          refine ev_callV (vs := [.int r15]) (sk := []) cls12 (mono_ob q18.1 h2) q32 (by omega) (Nat.le_of_ble_eq_true rfl) w1524 w1526 ws53 w19 w1527 k12_millAt rfl (Nat.le_of_ble_eq_true rfl) d12_drifts_67 ?_
          refine ev_istore (lv2 := [(5, .int r29), (4, .int r15), (0, .ref v0), (1, .int v1), (2, .int v2), (3, .int v3)]) (i := 5) (by decide) rfl d12_drifts_70 ?_
          refine ev_iload (i := 5) (q := 0) rfl d12_drifts_72 ?_
          refine ev_iconst ci_m1 d12_drifts_74 ?_
          rcases ite_some hf with ⟨c33, hf⟩ | ⟨c33, hf⟩
          · refine ev_icmp_eq_P (tgt := 126) c33 (by decide) d12_drifts_75 ?_
            exact Ev.sub [2, 3, 4, 1] rfl (s12_drifts_p126 hB hF ih _ _ _ _ _ _ _ hf)
          · refine ev_icmp_eq_Q (tgt := 126) c33 (by decide) d12_drifts_75 ?_
            refine ev_aload_n (j := 0) (i := 0) (q := 2) rfl rfl d12_drifts_78 ?_
            refine ev_iload (i := 5) (q := 0) rfl d12_drifts_79 ?_
            refine ev_aload_n (j := 0) (i := 0) (q := 2) rfl rfl d12_drifts_81 ?_
            refine ev_getI cls12 (j := 51) (by decide) rfl w1302 (mono_ob q32.1 (mono_ob q18.1 h2)) d12_drifts_82 ?_
            refine ev_aload_n (j := 0) (i := 0) (q := 2) rfl rfl d12_drifts_85 ?_
            refine ev_getI cls12 (j := 52) (by decide) rfl w1303 (mono_ob q32.1 (mono_ob q18.1 h2)) d12_drifts_86 ?_
            obtain ⟨r34, t35, k36, hf⟩ := bd_some hf
            have q37 := s12_pullOf _ _ _ _ _ _ _ k36
            refine ev_callV (vs := [.int r29, .int (sI t30 v0 51), .int (sI t30 v0 52)]) (sk := []) cls12 (mono_ob q32.1 (mono_ob q18.1 h2)) q37 (by omega) (Nat.le_of_ble_eq_true rfl) w1568 w1570 ws60 w19 w1571 k12_pullOf rfl (Nat.le_of_ble_eq_true rfl) d12_drifts_89 ?_
            refine ev_istore (lv2 := [(6, .int r34), (5, .int r29), (4, .int r15), (0, .ref v0), (1, .int v1), (2, .int v2), (3, .int v3)]) (i := 6) (by decide) rfl d12_drifts_92 ?_
            refine ev_iload (i := 6) (q := 0) rfl d12_drifts_94 ?_
            refine ev_iload_n (j := 2) (i := 2) (q := 5) rfl rfl d12_drifts_96 ?_
            refine ev_iadd d12_drifts_97 ?_
            refine ev_aload_n (j := 0) (i := 0) (q := 3) rfl rfl d12_drifts_98 ?_
            obtain ⟨b38, e39, hf⟩ := lt_some hf
            obtain ⟨h40, hf⟩ := gd_some hf
            refine ev_getRb cls12 (j := 8) (by decide) rfl w1259 (mono_ob q37.1 (mono_ob q32.1 (mono_ob q18.1 h2))) e39 (nz_ne h40) d12_drifts_99 ?_
            refine ev_iload (i := 5) (q := 1) rfl d12_drifts_102 ?_
            obtain ⟨h41, hf⟩ := gd_some hf
            obtain ⟨h42, hf⟩ := gd_some hf
            refine ev_iald h41 h42 d12_drifts_104 ?_
            rcases ite_some hf with ⟨c43, hf⟩ | ⟨c43, hf⟩
            · refine ev_icmp_le_P (tgt := 126) c43 (by decide) d12_drifts_105 ?_
              exact Ev.sub [3, 4, 5, 2] rfl (s12_drifts_p126 hB hF ih _ _ _ _ _ _ _ hf)
            · refine ev_icmp_le_Q (tgt := 126) c43 (by decide) d12_drifts_105 ?_
              refine ev_aload_n (j := 0) (i := 0) (q := 3) rfl rfl d12_drifts_108 ?_
              refine ev_iconst ci_2 d12_drifts_109 ?_
              refine ev_iload (i := 5) (q := 1) rfl d12_drifts_110 ?_
              refine ev_iload_n (j := 1) (i := 1) (q := 4) rfl rfl d12_drifts_112 ?_
              refine ev_iload (i := 4) (q := 2) rfl d12_drifts_113 ?_
              obtain ⟨r44, t45, k46, hf⟩ := bd_some hf
              have q47 := s12_tells _ _ _ _ _ _ _ _ k46
              refine ev_callV (vs := [.int (2 : Int32), .int r29, .int v1, .int r15]) (sk := []) cls12 (mono_ob q37.1 (mono_ob q32.1 (mono_ob q18.1 h2))) q47 (by omega) (Nat.le_of_ble_eq_true rfl) w1835 w1837 ws99 w19 w1838 k12_tells rfl (Nat.le_of_ble_eq_true rfl) d12_drifts_115 ?_
              refine ev_aload_n (j := 0) (i := 0) (q := 3) rfl rfl d12_drifts_118 ?_
              refine ev_iload (i := 5) (q := 1) rfl d12_drifts_119 ?_
              refine ev_iload (i := 6) (q := 0) rfl d12_drifts_121 ?_
              obtain ⟨r48, t49, k50, hf⟩ := bd_some hf
              have q51 := hF _ _ _ _ _ _ k50
              refine ev_callV (vs := [.int r29, .int r34]) (sk := []) cls12 (mono_ob q47.1 (mono_ob q37.1 (mono_ob q32.1 (mono_ob q18.1 h2)))) q51 (by omega) (Nat.le_of_ble_eq_true rfl) w1839 w1841 ws100 w19 w1842 k12_drifts rfl (Nat.le_of_ble_eq_true rfl) d12_drifts_123 ?_
              exact Ev.sub [3, 4, 5, 2] rfl (s12_drifts_p126 hB hF ih _ _ _ _ _ _ _ hf)
def f12_drifts_b (F : St → Nat → Int32 → Int32 → Option (Unit × St)) (σ : St) (v0 : Nat) (v1 : Int32) (v2 : Int32) : Option (Unit × St) :=
  f12_drifts_p2 F FU σ v0 v1 v2 (1 : Int32)
set_option maxRecDepth 50000 in
theorem s12_drifts_b {F : St → Nat → Int32 → Int32 → Option (Unit × St)} {dF : Nat} (hB : 5 ≤ dF) (hF : ∀ (σ : St) (a0 : Nat) (a1 : Int32) (a2 : Int32) (r : Unit) (τ : St), F σ a0 a1 a2 = some (r, τ) → Call dF m12_drifts [.ref a0, .int a1, .int a2] σ none τ) : ∀ (σ : St) (v0 : Nat) (v1 : Int32) (v2 : Int32) (r : Unit) (τ : St), f12_drifts_b F σ v0 v1 v2 = some (r, τ) → Call (dF + 1) m12_drifts [.ref v0, .int v1, .int v2] σ none τ := by
  intro σ v0 v1 v2 r τ hf
  unfold f12_drifts_b at hf
  refine Call.of (by decide +kernel) rfl (Nat.le_of_ble_eq_true rfl) ?_
  refine ev_iconst ci_1 d12_drifts_0 ?_
  refine ev_istore_n (lv2 := [(3, .int (1 : Int32)), (0, .ref v0), (1, .int v1), (2, .int v2)]) (j := 3) (i := 3) rfl (by decide) rfl d12_drifts_1 ?_
  exact Ev.sub [1, 2, 3, 0] rfl (s12_drifts_p2 hB hF FU _ _ _ _ _ _ _ hf)
def f12_drifts : Nat → St → Nat → Int32 → Int32 → Option (Unit × St)
  | 0, _, _, _, _ => none
  | n + 1, σ, a0, a1, a2 => f12_drifts_b (f12_drifts n) σ a0 a1 a2
theorem s12_drifts : ∀ (n : Nat) (σ : St) (a0 : Nat) (a1 : Int32) (a2 : Int32) (r : Unit) (τ : St), f12_drifts n σ a0 a1 a2 = some (r, τ) → Call (5 + 1 * n) m12_drifts [.ref a0, .int a1, .int a2] σ none τ := by
  intro n
  induction n with
  | zero =>
    intro σ a0 a1 a2 r τ hf
    cases hf
  | succ n ih =>
    intro σ a0 a1 a2 r τ hf
    rw [f12_drifts] at hf
    have := s12_drifts_b (F := f12_drifts n) (dF := 5 + 1 * n) (by omega) ih σ a0 a1 a2 r τ hf
    rw [show 5 + 1 * (n + 1) = 5 + 1 * n + 1 by omega]
    exact this
abbrev m12_chains : MD := ("MillBoatsModel", ⟨"MillBoatsModel", "chains", "()V"⟩, prog_14_method_85_code, 3, (none : Option Jvm.ClassFile.FieldType))
theorem k12_chains : okY m12_chains.2.1 0 := ⟨by decide +kernel, by decide +kernel, by decide +kernel⟩
def f12_chains_p68 (K2 : St → Nat → Int32 → Option (Unit × St)) (σ : St) (v0 : Nat) (v1 : Int32) : Option (Unit × St) :=
  lt (v1 + (1 : Int32)) fun y32 => (
  K2 σ v0 y32)
set_option maxRecDepth 20000 in
theorem s12_chains_p68 {K2 : St → Nat → Int32 → Option (Unit × St)} (hK2 : ∀ (σ : St) (v0 : Nat) (v1 : Int32) (r : Unit) (τ : St), K2 σ v0 v1 = some (r, τ) → Ev 16 m12_chains 2 [(0, .ref v0), (1, .int v1)] [] σ none τ) : ∀ (σ : St) (v0 : Nat) (v1 : Int32) (r : Unit) (τ : St), f12_chains_p68 K2 σ v0 v1 = some (r, τ) → Ev 16 m12_chains 68 [(0, .ref v0), (1, .int v1)] [] σ none τ := by
  intro σ v0 v1 r τ hf
  unfold f12_chains_p68 at hf
  obtain ⟨y32, e33, hf⟩ := lt_some hf
  refine ev_iinc (lv2 := [(1, .int y32), (0, .ref v0)]) (i := 1) (q := 1) (v := y32) (n := 1) rfl (by rw [ci_1]; exact e33.symm) (by decide) rfl d12_chains_68 ?_
  refine ev_goto (tgt := 2) (by decide) d12_chains_71 ?_
  exact Ev.sub [1, 0] rfl (hK2 _ _ _ _ _ hf)
def f12_chains_p2 : Nat → St → Nat → Int32 → Option (Unit × St)
  | 0, _, _, _ => none
  | n + 1, σ, v0, v1 =>
  gd (ob σ v0 12) (
  (if v1 < (sI σ v0 5) then
  lt (sR σ v0 9) fun b3 => (
  gd (nz b3) (
  gd (ob σ b3 14) (
  gd (inb σ b3 v1) (
  (if (sI σ b3 (ix v1)) < (0 : Int32) then
  f12_chains_p68 (f12_chains_p2 n) σ v0 v1
  else
  bd (f12_pullOf σ v0 v1 (sI σ v0 51) (sI σ v0 52)) fun r9 t10 => (
  lt (sR t10 v0 8) fun b13 => (
  gd (nz b13) (
  gd (ob t10 b13 14) (
  gd (inb t10 b13 v1) (
  (if r9 ≤ (sI t10 b13 (ix v1)) then
  f12_chains_p68 (f12_chains_p2 n) t10 v0 v1
  else
  lt (sR t10 v0 9) fun b19 => (
  gd (nz b19) (
  gd (ob t10 b19 14) (
  gd (inb t10 b19 v1) (
  bd (f12_tells t10 v0 (1 : Int32) v1 (-1 : Int32) (sI t10 b19 (ix v1))) fun r24 t25 => (
  bd (f12_drifts 10 t25 v0 v1 r9) fun r28 t29 => (
  f12_chains_p68 (f12_chains_p2 n) t29 v0 v1)))))))))))))))))
  else
  some ((), σ)))
set_option maxRecDepth 20000 in
theorem s12_chains_p2 : ∀ (n : Nat) (σ : St) (v0 : Nat) (v1 : Int32) (r : Unit) (τ : St), f12_chains_p2 n σ v0 v1 = some (r, τ) → Ev 16 m12_chains 2 [(0, .ref v0), (1, .int v1)] [] σ none τ := by
  intro n
  induction n with
  | zero =>
    intro σ v0 v1 r τ hf
    cases hf
  | succ n ih =>
    intro σ v0 v1 r τ hf
    rw [f12_chains_p2] at hf
    refine ev_iload_n (j := 1) (i := 1) (q := 1) rfl rfl d12_chains_2 ?_
    refine ev_aload_n (j := 0) (i := 0) (q := 0) rfl rfl d12_chains_3 ?_
    obtain ⟨h1, hf⟩ := gd_some hf
    refine ev_getI cls12 (j := 5) (by decide) rfl w1256 h1 d12_chains_4 ?_
    rcases ite_some hf with ⟨c2, hf⟩ | ⟨c2, hf⟩
    · refine ev_icmp_ge_P (tgt := 74) c2 (by decide) d12_chains_7 ?_
      refine ev_aload_n (j := 0) (i := 0) (q := 0) rfl rfl d12_chains_10 ?_
      obtain ⟨b3, e4, hf⟩ := lt_some hf
      obtain ⟨h5, hf⟩ := gd_some hf
      refine ev_getRb cls12 (j := 9) (by decide) rfl w1260 h1 e4 (nz_ne h5) d12_chains_11 ?_
      refine ev_iload_n (j := 1) (i := 1) (q := 1) rfl rfl d12_chains_14 ?_
      obtain ⟨h6, hf⟩ := gd_some hf
      obtain ⟨h7, hf⟩ := gd_some hf
      refine ev_iald h6 h7 d12_chains_15 ?_
      rcases ite_some hf with ⟨c8, hf⟩ | ⟨c8, hf⟩
      · refine ev_if_ge_P (tgt := 22) c8 (by decide) d12_chains_16 ?_
        refine ev_goto (tgt := 68) (by decide) d12_chains_19 ?_
        exact Ev.sub [0, 1] rfl (s12_chains_p68 ih _ _ _ _ _ hf)
      · refine ev_if_ge_Q (tgt := 22) c8 (by decide) d12_chains_16 ?_
        refine ev_aload_n (j := 0) (i := 0) (q := 0) rfl rfl d12_chains_22 ?_
        refine ev_iload_n (j := 1) (i := 1) (q := 1) rfl rfl d12_chains_23 ?_
        refine ev_aload_n (j := 0) (i := 0) (q := 0) rfl rfl d12_chains_24 ?_
        refine ev_getI cls12 (j := 51) (by decide) rfl w1302 h1 d12_chains_25 ?_
        refine ev_aload_n (j := 0) (i := 0) (q := 0) rfl rfl d12_chains_28 ?_
        refine ev_getI cls12 (j := 52) (by decide) rfl w1303 h1 d12_chains_29 ?_
        obtain ⟨r9, t10, k11, hf⟩ := bd_some hf
        have q12 := s12_pullOf _ _ _ _ _ _ _ k11
        refine ev_callV (vs := [.int v1, .int (sI σ v0 51), .int (sI σ v0 52)]) (sk := []) cls12 h1 q12 (by decide) (Nat.le_of_ble_eq_true rfl) w1568 w1570 ws60 w19 w1571 k12_pullOf rfl (Nat.le_of_ble_eq_true rfl) d12_chains_32 ?_
        refine ev_istore_n (lv2 := [(2, .int r9), (0, .ref v0), (1, .int v1)]) (j := 2) (i := 2) rfl (by decide) rfl d12_chains_35 ?_
        refine ev_iload_n (j := 2) (i := 2) (q := 0) rfl rfl d12_chains_36 ?_
        refine ev_aload_n (j := 0) (i := 0) (q := 1) rfl rfl d12_chains_37 ?_
        obtain ⟨b13, e14, hf⟩ := lt_some hf
        obtain ⟨h15, hf⟩ := gd_some hf
        refine ev_getRb cls12 (j := 8) (by decide) rfl w1259 (mono_ob q12.1 h1) e14 (nz_ne h15) d12_chains_38 ?_
        refine ev_iload_n (j := 1) (i := 1) (q := 2) rfl rfl d12_chains_41 ?_
        obtain ⟨h16, hf⟩ := gd_some hf
        obtain ⟨h17, hf⟩ := gd_some hf
        refine ev_iald h16 h17 d12_chains_42 ?_
        rcases ite_some hf with ⟨c18, hf⟩ | ⟨c18, hf⟩
        · refine ev_icmp_gt_P (tgt := 49) c18 (by decide) d12_chains_43 ?_
          refine ev_goto (tgt := 68) (by decide) d12_chains_46 ?_
          exact Ev.sub [1, 2] rfl (s12_chains_p68 ih _ _ _ _ _ hf)
        · refine ev_icmp_gt_Q (tgt := 49) c18 (by decide) d12_chains_43 ?_
          refine ev_aload_n (j := 0) (i := 0) (q := 1) rfl rfl d12_chains_49 ?_
          refine ev_iconst ci_1 d12_chains_50 ?_
          refine ev_iload_n (j := 1) (i := 1) (q := 2) rfl rfl d12_chains_51 ?_
          refine ev_iconst ci_m1 d12_chains_52 ?_
          refine ev_aload_n (j := 0) (i := 0) (q := 1) rfl rfl d12_chains_53 ?_
          obtain ⟨b19, e20, hf⟩ := lt_some hf
          obtain ⟨h21, hf⟩ := gd_some hf
          refine ev_getRb cls12 (j := 9) (by decide) rfl w1260 (mono_ob q12.1 h1) e20 (nz_ne h21) d12_chains_54 ?_
          refine ev_iload_n (j := 1) (i := 1) (q := 2) rfl rfl d12_chains_57 ?_
          obtain ⟨h22, hf⟩ := gd_some hf
          obtain ⟨h23, hf⟩ := gd_some hf
          refine ev_iald h22 h23 d12_chains_58 ?_
          obtain ⟨r24, t25, k26, hf⟩ := bd_some hf
          have q27 := s12_tells _ _ _ _ _ _ _ _ k26
          refine ev_callV (vs := [.int (1 : Int32), .int v1, .int (-1 : Int32), .int (sI t10 b19 (ix v1))]) (sk := []) cls12 (mono_ob q12.1 h1) q27 (by decide) (Nat.le_of_ble_eq_true rfl) w1835 w1837 ws99 w19 w1838 k12_tells rfl (Nat.le_of_ble_eq_true rfl) d12_chains_59 ?_
          refine ev_aload_n (j := 0) (i := 0) (q := 1) rfl rfl d12_chains_62 ?_
          refine ev_iload_n (j := 1) (i := 1) (q := 2) rfl rfl d12_chains_63 ?_
          refine ev_iload_n (j := 2) (i := 2) (q := 0) rfl rfl d12_chains_64 ?_
          obtain ⟨r28, t29, k30, hf⟩ := bd_some hf
          have q31 := s12_drifts 10 _ _ _ _ _ _ k30
          refine ev_callV (vs := [.int v1, .int r9]) (sk := []) cls12 (mono_ob q27.1 (mono_ob q12.1 h1)) q31 (by omega) (Nat.le_of_ble_eq_true rfl) w1839 w1841 ws100 w19 w1842 k12_drifts rfl (Nat.le_of_ble_eq_true rfl) d12_chains_65 ?_
          exact Ev.sub [1, 2] rfl (s12_chains_p68 ih _ _ _ _ _ hf)
    · refine ev_icmp_ge_Q (tgt := 74) c2 (by decide) d12_chains_7 ?_
      obtain ⟨-, rfl⟩ := ret_some hf
      exact ev_vret rfl d12_chains_74
def f12_chains (σ : St) (v0 : Nat) : Option (Unit × St) :=
  f12_chains_p2 FU σ v0 (0 : Int32)
set_option maxRecDepth 50000 in
theorem s12_chains : ∀ (σ : St) (v0 : Nat) (r : Unit) (τ : St), f12_chains σ v0 = some (r, τ) → Call 16 m12_chains [.ref v0] σ none τ := by
  intro σ v0 r τ hf
  unfold f12_chains at hf
  refine Call.of (by decide +kernel) rfl (Nat.le_of_ble_eq_true rfl) ?_
  refine ev_iconst ci_0 d12_chains_0 ?_
  refine ev_istore_n (lv2 := [(1, .int (0 : Int32)), (0, .ref v0)]) (j := 1) (i := 1) rfl (by decide) rfl d12_chains_1 ?_
  exact Ev.sub [1, 0] rfl (s12_chains_p2 FU _ _ _ _ _ hf)
abbrev m12_skiffs : MD := ("MillBoatsModel", ⟨"MillBoatsModel", "skiffs", "(II)Z"⟩, prog_14_method_86_code, 3, (some Jvm.ClassFile.FieldType.boolean))
theorem k12_skiffs : okY m12_skiffs.2.1 2 := ⟨by decide +kernel, by decide +kernel, by decide +kernel⟩
def f12_skiffs (σ : St) (v0 : Nat) (v1 : Int32) (v2 : Int32) : Option (Int32 × St) :=
  gd (ob σ v0 12) (
  lt (wI σ v0 0 (0 : Int32)) fun t2 => (
  bd (f12_within t2 v1 (0 : Int32) (1 : Int32)) fun r4 t5 => (
  (if r4 = (0 : Int32) then
  some ((0 : Int32), t5)
  else
  bd (f12_within t5 v2 (0 : Int32) (20 : Int32)) fun r9 t10 => (
  (if r9 = (0 : Int32) then
  some ((0 : Int32), t10)
  else
  lt (sR t10 v0 53) fun b14 => (
  gd (nz b14) (
  gd (ob t10 b14 14) (
  gd (inb t10 b14 v1) (
  lt (wI t10 b14 (ix v1) v2) fun t19 => (
  some ((1 : Int32), t19))))))))))))
set_option maxRecDepth 50000 in
theorem s12_skiffs : ∀ (σ : St) (v0 : Nat) (v1 : Int32) (v2 : Int32) (r : Int32) (τ : St), f12_skiffs σ v0 v1 v2 = some (r, τ) → Call 3 m12_skiffs [.ref v0, .int v1, .int v2] σ (some (.int r)) τ := by
  intro σ v0 v1 v2 r τ hf
  unfold f12_skiffs at hf
  refine Call.of (by decide +kernel) rfl (Nat.le_of_ble_eq_true rfl) ?_
  refine ev_aload_n (j := 0) (i := 0) (q := 0) rfl rfl d12_skiffs_0 ?_
  refine ev_iconst ci_0 d12_skiffs_1 ?_
  obtain ⟨h1, hf⟩ := gd_some hf
  obtain ⟨t2, e3, hf⟩ := lt_some hf
  refine ev_putI cls12 (j := 0) (by decide) rfl rfl w1251 h1 (fun _ => ⟨rfl, rfl⟩) d12_skiffs_2 (ev_nmS e3 ?_)
  refine ev_iload_n (j := 1) (i := 1) (q := 1) rfl rfl d12_skiffs_5 ?_
  refine ev_iconst ci_0 d12_skiffs_6 ?_
  refine ev_iconst ci_1 d12_skiffs_7 ?_
  obtain ⟨r4, t5, k6, hf⟩ := bd_some hf
  have q7 := s12_within _ _ _ _ _ _ k6
  refine ev_callS (vs := [.int v1, .int (0 : Int32), .int (1 : Int32)]) (sk := []) q7 (by decide) (Nat.le_of_ble_eq_true rfl) w1497 w1498 w19 w1499 k12_within rfl (Nat.le_of_ble_eq_true rfl) d12_skiffs_8 ?_
  rcases ite_some hf with ⟨c8, hf⟩ | ⟨c8, hf⟩
  · refine ev_if_eq_P (tgt := 24) c8 (by decide) d12_skiffs_11 ?_
    refine ev_iconst ci_0 d12_skiffs_24 ?_
    obtain ⟨rfl, rfl⟩ := ret_some hf
    exact ev_zret rfl (by decide) d12_skiffs_25
  · refine ev_if_eq_Q (tgt := 24) c8 (by decide) d12_skiffs_11 ?_
    refine ev_iload_n (j := 2) (i := 2) (q := 2) rfl rfl d12_skiffs_14 ?_
    refine ev_iconst ci_0 d12_skiffs_15 ?_
    refine ev_bipush cb_20 d12_skiffs_16 ?_
    obtain ⟨r9, t10, k11, hf⟩ := bd_some hf
    have q12 := s12_within _ _ _ _ _ _ k11
    refine ev_callS (vs := [.int v2, .int (0 : Int32), .int (20 : Int32)]) (sk := []) q12 (by decide) (Nat.le_of_ble_eq_true rfl) w1497 w1498 w19 w1499 k12_within rfl (Nat.le_of_ble_eq_true rfl) d12_skiffs_18 ?_
    rcases ite_some hf with ⟨c13, hf⟩ | ⟨c13, hf⟩
    · refine ev_if_ne_P (tgt := 26) c13 (by decide) d12_skiffs_21 ?_
      refine ev_iconst ci_0 d12_skiffs_24 ?_
      obtain ⟨rfl, rfl⟩ := ret_some hf
      exact ev_zret rfl (by decide) d12_skiffs_25
    · refine ev_if_ne_Q (tgt := 26) c13 (by decide) d12_skiffs_21 ?_
      refine ev_aload_n (j := 0) (i := 0) (q := 0) rfl rfl d12_skiffs_26 ?_
      obtain ⟨b14, e15, hf⟩ := lt_some hf
      obtain ⟨h16, hf⟩ := gd_some hf
      refine ev_getRb cls12 (j := 53) (by decide) rfl w1304 (mono_ob q12.1 (mono_ob q7.1 (mono_ob (mono_eI e3) h1))) e15 (nz_ne h16) d12_skiffs_27 ?_
      refine ev_iload_n (j := 1) (i := 1) (q := 1) rfl rfl d12_skiffs_30 ?_
      refine ev_iload_n (j := 2) (i := 2) (q := 2) rfl rfl d12_skiffs_31 ?_
      obtain ⟨h17, hf⟩ := gd_some hf
      obtain ⟨h18, hf⟩ := gd_some hf
      obtain ⟨t19, e20, hf⟩ := lt_some hf
      refine ev_iast h17 h18 d12_skiffs_32 (ev_nmS e20 ?_)
      refine ev_iconst ci_1 d12_skiffs_33 ?_
      obtain ⟨rfl, rfl⟩ := ret_some hf
      exact ev_zret rfl (by decide) d12_skiffs_34
abbrev m12_order : MD := ("MillBoatsModel", ⟨"MillBoatsModel", "order", "(II)I"⟩, prog_14_method_87_code, 3, (some Jvm.ClassFile.FieldType.int))
theorem k12_order : okY m12_order.2.1 2 := ⟨by decide +kernel, by decide +kernel, by decide +kernel⟩
def f12_order (σ : St) (v0 : Nat) (v1 : Int32) (v2 : Int32) : Option (Int32 × St) :=
  gd (ob σ v0 12) (
  lt (wI σ v0 0 (0 : Int32)) fun t2 => (
  bd (f12_within t2 v1 (0 : Int32) (1 : Int32)) fun r4 t5 => (
  (if r4 = (0 : Int32) then
  some ((-1 : Int32), t5)
  else
  bd (f12_within t5 v2 (1 : Int32) (500 : Int32)) fun r9 t10 => (
  (if r9 = (0 : Int32) then
  some ((-1 : Int32), t10)
  else
  (if (sI t10 v0 55) = (60 : Int32) then
  some ((-1 : Int32), t10)
  else
  lt (sR t10 v0 56) fun b15 => (
  gd (nz b15) (
  gd (ob t10 b15 14) (
  gd (inb t10 b15 (sI t10 v0 55)) (
  lt (wI t10 b15 (ix (sI t10 v0 55)) v1) fun t20 => (
  lt (sR t20 v0 57) fun b22 => (
  gd (nz b22) (
  gd (ob t20 b22 14) (
  gd (inb t20 b22 (sI t20 v0 55)) (
  lt (wI t20 b22 (ix (sI t20 v0 55)) v2) fun t27 => (
  lt (sR t27 v0 58) fun b29 => (
  gd (nz b29) (
  gd (ob t27 b29 14) (
  gd (inb t27 b29 (sI t27 v0 55)) (
  lt (wI t27 b29 (ix (sI t27 v0 55)) v2) fun t34 => (
  lt (sR t34 v0 59) fun b36 => (
  gd (nz b36) (
  gd (ob t34 b36 14) (
  gd (inb t34 b36 (sI t34 v0 55)) (
  lt (wI t34 b36 (ix (sI t34 v0 55)) (0 : Int32)) fun t41 => (
  lt (sR t41 v0 60) fun b43 => (
  gd (nz b43) (
  gd (ob t41 b43 14) (
  gd (inb t41 b43 (sI t41 v0 55)) (
  lt (wI t41 b43 (ix (sI t41 v0 55)) (-1 : Int32)) fun t48 => (
  lt (wI t48 v0 55 ((sI t48 v0 55) + (1 : Int32))) fun t50 => (
  some ((sI t50 v0 55) - (1 : Int32), t50))))))))))))))))))))))))))))))))))
set_option maxRecDepth 50000 in
theorem s12_order : ∀ (σ : St) (v0 : Nat) (v1 : Int32) (v2 : Int32) (r : Int32) (τ : St), f12_order σ v0 v1 v2 = some (r, τ) → Call 3 m12_order [.ref v0, .int v1, .int v2] σ (some (.int r)) τ := by
  intro σ v0 v1 v2 r τ hf
  unfold f12_order at hf
  refine Call.of (by decide +kernel) rfl (Nat.le_of_ble_eq_true rfl) ?_
  refine ev_aload_n (j := 0) (i := 0) (q := 0) rfl rfl d12_order_0 ?_
  refine ev_iconst ci_0 d12_order_1 ?_
  obtain ⟨h1, hf⟩ := gd_some hf
  obtain ⟨t2, e3, hf⟩ := lt_some hf
  refine ev_putI cls12 (j := 0) (by decide) rfl rfl w1251 h1 (fun _ => ⟨rfl, rfl⟩) d12_order_2 (ev_nmS e3 ?_)
  refine ev_iload_n (j := 1) (i := 1) (q := 1) rfl rfl d12_order_5 ?_
  refine ev_iconst ci_0 d12_order_6 ?_
  refine ev_iconst ci_1 d12_order_7 ?_
  obtain ⟨r4, t5, k6, hf⟩ := bd_some hf
  have q7 := s12_within _ _ _ _ _ _ k6
  refine ev_callS (vs := [.int v1, .int (0 : Int32), .int (1 : Int32)]) (sk := []) q7 (by decide) (Nat.le_of_ble_eq_true rfl) w1497 w1498 w19 w1499 k12_within rfl (Nat.le_of_ble_eq_true rfl) d12_order_8 ?_
  rcases ite_some hf with ⟨c8, hf⟩ | ⟨c8, hf⟩
  · refine ev_if_eq_P (tgt := 34) c8 (by decide) d12_order_11 ?_
    refine ev_iconst ci_m1 d12_order_34 ?_
    obtain ⟨rfl, rfl⟩ := ret_some hf
    exact ev_iret rfl d12_order_35
  · refine ev_if_eq_Q (tgt := 34) c8 (by decide) d12_order_11 ?_
    refine ev_iload_n (j := 2) (i := 2) (q := 2) rfl rfl d12_order_14 ?_
    refine ev_iconst ci_1 d12_order_15 ?_
    refine ev_sipush cs_500 d12_order_16 ?_
    obtain ⟨r9, t10, k11, hf⟩ := bd_some hf
    have q12 := s12_within _ _ _ _ _ _ k11
    refine ev_callS (vs := [.int v2, .int (1 : Int32), .int (500 : Int32)]) (sk := []) q12 (by decide) (Nat.le_of_ble_eq_true rfl) w1497 w1498 w19 w1499 k12_within rfl (Nat.le_of_ble_eq_true rfl) d12_order_19 ?_
    rcases ite_some hf with ⟨c13, hf⟩ | ⟨c13, hf⟩
    · refine ev_if_eq_P (tgt := 34) c13 (by decide) d12_order_22 ?_
      refine ev_iconst ci_m1 d12_order_34 ?_
      obtain ⟨rfl, rfl⟩ := ret_some hf
      exact ev_iret rfl d12_order_35
    · refine ev_if_eq_Q (tgt := 34) c13 (by decide) d12_order_22 ?_
      refine ev_aload_n (j := 0) (i := 0) (q := 0) rfl rfl d12_order_25 ?_
      refine ev_getI cls12 (j := 55) (by decide) rfl w1306 (mono_ob q12.1 (mono_ob q7.1 (mono_ob (mono_eI e3) h1))) d12_order_26 ?_
      refine ev_bipush cb_60 d12_order_29 ?_
      rcases ite_some hf with ⟨c14, hf⟩ | ⟨c14, hf⟩
      · refine ev_icmp_ne_P (tgt := 36) c14 (by decide) d12_order_31 ?_
        refine ev_iconst ci_m1 d12_order_34 ?_
        obtain ⟨rfl, rfl⟩ := ret_some hf
        exact ev_iret rfl d12_order_35
      · refine ev_icmp_ne_Q (tgt := 36) c14 (by decide) d12_order_31 ?_
        refine ev_aload_n (j := 0) (i := 0) (q := 0) rfl rfl d12_order_36 ?_
        obtain ⟨b15, e16, hf⟩ := lt_some hf
        obtain ⟨h17, hf⟩ := gd_some hf
        refine ev_getRb cls12 (j := 56) (by decide) rfl w1307 (mono_ob q12.1 (mono_ob q7.1 (mono_ob (mono_eI e3) h1))) e16 (nz_ne h17) d12_order_37 ?_
        refine ev_aload_n (j := 0) (i := 0) (q := 0) rfl rfl d12_order_40 ?_
        refine ev_getI cls12 (j := 55) (by decide) rfl w1306 (mono_ob q12.1 (mono_ob q7.1 (mono_ob (mono_eI e3) h1))) d12_order_41 ?_
        refine ev_iload_n (j := 1) (i := 1) (q := 1) rfl rfl d12_order_44 ?_
        obtain ⟨h18, hf⟩ := gd_some hf
        obtain ⟨h19, hf⟩ := gd_some hf
        obtain ⟨t20, e21, hf⟩ := lt_some hf
        refine ev_iast h18 h19 d12_order_45 (ev_nmS e21 ?_)
        refine ev_aload_n (j := 0) (i := 0) (q := 0) rfl rfl d12_order_46 ?_
        obtain ⟨b22, e23, hf⟩ := lt_some hf
        obtain ⟨h24, hf⟩ := gd_some hf
        refine ev_getRb cls12 (j := 57) (by decide) rfl w1308 (mono_ob (mono_eI e21) (mono_ob q12.1 (mono_ob q7.1 (mono_ob (mono_eI e3) h1)))) e23 (nz_ne h24) d12_order_47 ?_
        refine ev_aload_n (j := 0) (i := 0) (q := 0) rfl rfl d12_order_50 ?_
        refine ev_getI cls12 (j := 55) (by decide) rfl w1306 (mono_ob (mono_eI e21) (mono_ob q12.1 (mono_ob q7.1 (mono_ob (mono_eI e3) h1)))) d12_order_51 ?_
        refine ev_iload_n (j := 2) (i := 2) (q := 2) rfl rfl d12_order_54 ?_
        obtain ⟨h25, hf⟩ := gd_some hf
        obtain ⟨h26, hf⟩ := gd_some hf
        obtain ⟨t27, e28, hf⟩ := lt_some hf
        refine ev_iast h25 h26 d12_order_55 (ev_nmS e28 ?_)
        refine ev_aload_n (j := 0) (i := 0) (q := 0) rfl rfl d12_order_56 ?_
        obtain ⟨b29, e30, hf⟩ := lt_some hf
        obtain ⟨h31, hf⟩ := gd_some hf
        refine ev_getRb cls12 (j := 58) (by decide) rfl w1309 (mono_ob (mono_eI e28) (mono_ob (mono_eI e21) (mono_ob q12.1 (mono_ob q7.1 (mono_ob (mono_eI e3) h1))))) e30 (nz_ne h31) d12_order_57 ?_
        refine ev_aload_n (j := 0) (i := 0) (q := 0) rfl rfl d12_order_60 ?_
        refine ev_getI cls12 (j := 55) (by decide) rfl w1306 (mono_ob (mono_eI e28) (mono_ob (mono_eI e21) (mono_ob q12.1 (mono_ob q7.1 (mono_ob (mono_eI e3) h1))))) d12_order_61 ?_
        refine ev_iload_n (j := 2) (i := 2) (q := 2) rfl rfl d12_order_64 ?_
        obtain ⟨h32, hf⟩ := gd_some hf
        obtain ⟨h33, hf⟩ := gd_some hf
        obtain ⟨t34, e35, hf⟩ := lt_some hf
        refine ev_iast h32 h33 d12_order_65 (ev_nmS e35 ?_)
        refine ev_aload_n (j := 0) (i := 0) (q := 0) rfl rfl d12_order_66 ?_
        obtain ⟨b36, e37, hf⟩ := lt_some hf
        obtain ⟨h38, hf⟩ := gd_some hf
        refine ev_getRb cls12 (j := 59) (by decide) rfl w1310 (mono_ob (mono_eI e35) (mono_ob (mono_eI e28) (mono_ob (mono_eI e21) (mono_ob q12.1 (mono_ob q7.1 (mono_ob (mono_eI e3) h1)))))) e37 (nz_ne h38) d12_order_67 ?_
        refine ev_aload_n (j := 0) (i := 0) (q := 0) rfl rfl d12_order_70 ?_
        refine ev_getI cls12 (j := 55) (by decide) rfl w1306 (mono_ob (mono_eI e35) (mono_ob (mono_eI e28) (mono_ob (mono_eI e21) (mono_ob q12.1 (mono_ob q7.1 (mono_ob (mono_eI e3) h1)))))) d12_order_71 ?_
        refine ev_iconst ci_0 d12_order_74 ?_
        obtain ⟨h39, hf⟩ := gd_some hf
        obtain ⟨h40, hf⟩ := gd_some hf
        obtain ⟨t41, e42, hf⟩ := lt_some hf
        refine ev_iast h39 h40 d12_order_75 (ev_nmS e42 ?_)
        refine ev_aload_n (j := 0) (i := 0) (q := 0) rfl rfl d12_order_76 ?_
        obtain ⟨b43, e44, hf⟩ := lt_some hf
        obtain ⟨h45, hf⟩ := gd_some hf
        refine ev_getRb cls12 (j := 60) (by decide) rfl w1311 (mono_ob (mono_eI e42) (mono_ob (mono_eI e35) (mono_ob (mono_eI e28) (mono_ob (mono_eI e21) (mono_ob q12.1 (mono_ob q7.1 (mono_ob (mono_eI e3) h1))))))) e44 (nz_ne h45) d12_order_77 ?_
        refine ev_aload_n (j := 0) (i := 0) (q := 0) rfl rfl d12_order_80 ?_
        refine ev_getI cls12 (j := 55) (by decide) rfl w1306 (mono_ob (mono_eI e42) (mono_ob (mono_eI e35) (mono_ob (mono_eI e28) (mono_ob (mono_eI e21) (mono_ob q12.1 (mono_ob q7.1 (mono_ob (mono_eI e3) h1))))))) d12_order_81 ?_
        refine ev_iconst ci_m1 d12_order_84 ?_
        obtain ⟨h46, hf⟩ := gd_some hf
        obtain ⟨h47, hf⟩ := gd_some hf
        obtain ⟨t48, e49, hf⟩ := lt_some hf
        refine ev_iast h46 h47 d12_order_85 (ev_nmS e49 ?_)
        refine ev_aload_n (j := 0) (i := 0) (q := 0) rfl rfl d12_order_86 ?_
        refine ev_dup rfl d12_order_87 ?_
        refine ev_getI cls12 (j := 55) (by decide) rfl w1306 (mono_ob (mono_eI e49) (mono_ob (mono_eI e42) (mono_ob (mono_eI e35) (mono_ob (mono_eI e28) (mono_ob (mono_eI e21) (mono_ob q12.1 (mono_ob q7.1 (mono_ob (mono_eI e3) h1)))))))) d12_order_88 ?_
        refine ev_iconst ci_1 d12_order_91 ?_
        refine ev_iadd d12_order_92 ?_
        obtain ⟨t50, e51, hf⟩ := lt_some hf
        refine ev_putI cls12 (j := 55) (by decide) rfl rfl w1306 (mono_ob (mono_eI e49) (mono_ob (mono_eI e42) (mono_ob (mono_eI e35) (mono_ob (mono_eI e28) (mono_ob (mono_eI e21) (mono_ob q12.1 (mono_ob q7.1 (mono_ob (mono_eI e3) h1)))))))) (fun _ => ⟨rfl, rfl⟩) d12_order_93 (ev_nmS e51 ?_)
        refine ev_aload_n (j := 0) (i := 0) (q := 0) rfl rfl d12_order_96 ?_
        refine ev_getI cls12 (j := 55) (by decide) rfl w1306 (mono_ob (mono_eI e51) (mono_ob (mono_eI e49) (mono_ob (mono_eI e42) (mono_ob (mono_eI e35) (mono_ob (mono_eI e28) (mono_ob (mono_eI e21) (mono_ob q12.1 (mono_ob q7.1 (mono_ob (mono_eI e3) h1))))))))) d12_order_97 ?_
        refine ev_iconst ci_1 d12_order_100 ?_
        refine ev_isub d12_order_101 ?_
        obtain ⟨rfl, rfl⟩ := ret_some hf
        exact ev_iret rfl d12_order_102
abbrev m12_tollOf : MD := ("MillBoatsModel", ⟨"MillBoatsModel", "tollOf", "(III)I"⟩, prog_14_method_88_code, 6, (some Jvm.ClassFile.FieldType.int))
theorem k12_tollOf : okY m12_tollOf.2.1 3 := ⟨by decide +kernel, by decide +kernel, by decide +kernel⟩
def f12_tollOf (σ : St) (v0 : Nat) (v1 : Int32) (v2 : Int32) (v3 : Int32) : Option (Int32 × St) :=
  gd (ob σ v0 12) (
  lt (sR σ v0 9) fun b2 => (
  gd (nz b2) (
  gd (ob σ b2 14) (
  gd (inb σ b2 v1) (
  lt (sR σ v0 57) fun b7 => (
  gd (nz b7) (
  gd (ob σ b7 14) (
  gd (inb σ b7 v2) (
  bd (f12_names σ v0 v1 (sI σ b2 (ix v1)) (sI σ v0 14) (sI σ v0 51) (sI σ b7 (ix v2))) fun r12 t13 => (
  lt (sR t13 v0 56) fun b16 => (
  gd (nz b16) (
  gd (ob t13 b16 14) (
  gd (inb t13 b16 v2) (
  bd (f12_textOf t13 v0 (sI t13 b16 (ix v2)) (sI t13 v0 14) (sI t13 v0 14)) fun r21 t22 => (
  bd (f12_last t22 v0 r21 (3 : Int32) (3 : Int32)) fun r25 t26 => (
  (if r25 = (-1 : Int32) then
  some (v3 / (16 : Int32), t26)
  else
  lt (sR t26 v0 27) fun b30 => (
  gd (nz b30) (
  gd (ob t26 b30 14) (
  gd (inb t26 b30 (((20 : Int32) * r21) + r25)) (
  lt (sR t26 v0 28) fun b35 => (
  gd (nz b35) (
  gd (ob t26 b35 14) (
  gd (inb t26 b35 (((20 : Int32) * r21) + r25)) (
  gd (nzI (sI t26 b35 (ix (((20 : Int32) * r21) + r25)))) (
  some ((v3 * (sI t26 b30 (ix (((20 : Int32) * r21) + r25)))) / (sI t26 b35 (ix (((20 : Int32) * r21) + r25))), t26)))))))))))))))))))))))))))
set_option maxRecDepth 50000 in
theorem s12_tollOf : ∀ (σ : St) (v0 : Nat) (v1 : Int32) (v2 : Int32) (v3 : Int32) (r : Int32) (τ : St), f12_tollOf σ v0 v1 v2 v3 = some (r, τ) → Call 6 m12_tollOf [.ref v0, .int v1, .int v2, .int v3] σ (some (.int r)) τ := by
  intro σ v0 v1 v2 v3 r τ hf
  unfold f12_tollOf at hf
  refine Call.of (by decide +kernel) rfl (Nat.le_of_ble_eq_true rfl) ?_
  refine ev_aload_n (j := 0) (i := 0) (q := 0) rfl rfl d12_tollOf_0 ?_
  refine ev_iload_n (j := 1) (i := 1) (q := 1) rfl rfl d12_tollOf_1 ?_
  refine ev_aload_n (j := 0) (i := 0) (q := 0) rfl rfl d12_tollOf_2 ?_
  obtain ⟨h1, hf⟩ := gd_some hf
  obtain ⟨b2, e3, hf⟩ := lt_some hf
  obtain ⟨h4, hf⟩ := gd_some hf
  refine ev_getRb cls12 (j := 9) (by decide) rfl w1260 h1 e3 (nz_ne h4) d12_tollOf_3 ?_
  refine ev_iload_n (j := 1) (i := 1) (q := 1) rfl rfl d12_tollOf_6 ?_
  obtain ⟨h5, hf⟩ := gd_some hf
  obtain ⟨h6, hf⟩ := gd_some hf
  refine ev_iald h5 h6 d12_tollOf_7 ?_
  refine ev_aload_n (j := 0) (i := 0) (q := 0) rfl rfl d12_tollOf_8 ?_
  refine ev_getI cls12 (j := 14) (by decide) rfl w1265 h1 d12_tollOf_9 ?_
  refine ev_aload_n (j := 0) (i := 0) (q := 0) rfl rfl d12_tollOf_12 ?_
  refine ev_getI cls12 (j := 51) (by decide) rfl w1302 h1 d12_tollOf_13 ?_
  refine ev_aload_n (j := 0) (i := 0) (q := 0) rfl rfl d12_tollOf_16 ?_
  obtain ⟨b7, e8, hf⟩ := lt_some hf
  obtain ⟨h9, hf⟩ := gd_some hf
  refine ev_getRb cls12 (j := 57) (by decide) rfl w1308 h1 e8 (nz_ne h9) d12_tollOf_17 ?_
  refine ev_iload_n (j := 2) (i := 2) (q := 2) rfl rfl d12_tollOf_20 ?_
  obtain ⟨h10, hf⟩ := gd_some hf
  obtain ⟨h11, hf⟩ := gd_some hf
  refine ev_iald h10 h11 d12_tollOf_21 ?_
  obtain ⟨r12, t13, k14, hf⟩ := bd_some hf
  have q15 := s12_names _ _ _ _ _ _ _ _ _ k14
  refine ev_callV (vs := [.int v1, .int (sI σ b2 (ix v1)), .int (sI σ v0 14), .int (sI σ v0 51), .int (sI σ b7 (ix v2))]) (sk := []) cls12 h1 q15 (by decide) (Nat.le_of_ble_eq_true rfl) w1769 w1771 ws92 w19 w1772 k12_names rfl (Nat.le_of_ble_eq_true rfl) d12_tollOf_22 ?_
  refine ev_aload_n (j := 0) (i := 0) (q := 0) rfl rfl d12_tollOf_25 ?_
  refine ev_aload_n (j := 0) (i := 0) (q := 0) rfl rfl d12_tollOf_26 ?_
  obtain ⟨b16, e17, hf⟩ := lt_some hf
  obtain ⟨h18, hf⟩ := gd_some hf
  refine ev_getRb cls12 (j := 56) (by decide) rfl w1307 (mono_ob q15.1 h1) e17 (nz_ne h18) d12_tollOf_27 ?_
  refine ev_iload_n (j := 2) (i := 2) (q := 2) rfl rfl d12_tollOf_30 ?_
  obtain ⟨h19, hf⟩ := gd_some hf
  obtain ⟨h20, hf⟩ := gd_some hf
  refine ev_iald h19 h20 d12_tollOf_31 ?_
  refine ev_aload_n (j := 0) (i := 0) (q := 0) rfl rfl d12_tollOf_32 ?_
  refine ev_getI cls12 (j := 14) (by decide) rfl w1265 (mono_ob q15.1 h1) d12_tollOf_33 ?_
  refine ev_aload_n (j := 0) (i := 0) (q := 0) rfl rfl d12_tollOf_36 ?_
  refine ev_getI cls12 (j := 14) (by decide) rfl w1265 (mono_ob q15.1 h1) d12_tollOf_37 ?_
  obtain ⟨r21, t22, k23, hf⟩ := bd_some hf
  have q24 := s12_textOf _ _ _ _ _ _ _ k23
  refine ev_callV (vs := [.int (sI t13 b16 (ix v2)), .int (sI t13 v0 14), .int (sI t13 v0 14)]) (sk := []) cls12 (mono_ob q15.1 h1) q24 (by decide) (Nat.le_of_ble_eq_true rfl) w1773 w1775 ws93 w19 w1776 k12_textOf rfl (Nat.le_of_ble_eq_true rfl) d12_tollOf_40 ?_
  refine ev_istore (lv2 := [(4, .int r21), (0, .ref v0), (1, .int v1), (2, .int v2), (3, .int v3)]) (i := 4) (by decide) rfl d12_tollOf_43 ?_
  refine ev_aload_n (j := 0) (i := 0) (q := 1) rfl rfl d12_tollOf_45 ?_
  refine ev_iload (i := 4) (q := 0) rfl d12_tollOf_46 ?_
  refine ev_iconst ci_3 d12_tollOf_48 ?_
  refine ev_iconst ci_3 d12_tollOf_49 ?_
  obtain ⟨r25, t26, k27, hf⟩ := bd_some hf
  have q28 := s12_last _ _ _ _ _ _ _ k27
  refine ev_callV (vs := [.int r21, .int (3 : Int32), .int (3 : Int32)]) (sk := []) cls12 (mono_ob q24.1 (mono_ob q15.1 h1)) q28 (by decide) (Nat.le_of_ble_eq_true rfl) w1777 w1779 ws94 w19 w1780 k12_last rfl (Nat.le_of_ble_eq_true rfl) d12_tollOf_50 ?_
  refine ev_istore (lv2 := [(5, .int r25), (4, .int r21), (0, .ref v0), (1, .int v1), (2, .int v2), (3, .int v3)]) (i := 5) (by decide) rfl d12_tollOf_53 ?_
  refine ev_iload (i := 5) (q := 0) rfl d12_tollOf_55 ?_
  refine ev_iconst ci_m1 d12_tollOf_57 ?_
  rcases ite_some hf with ⟨c29, hf⟩ | ⟨c29, hf⟩
  · refine ev_icmp_ne_P (tgt := 68) c29 (by decide) d12_tollOf_58 ?_
    refine ev_iload_n (j := 3) (i := 3) (q := 5) rfl rfl d12_tollOf_61 ?_
    refine ev_bipush cb_16 d12_tollOf_62 ?_
    refine ev_idiv (by decide) d12_tollOf_64 ?_
    refine ev_goto (tgt := 97) (by decide) d12_tollOf_65 ?_
    obtain ⟨rfl, rfl⟩ := ret_some hf
    exact ev_iret rfl d12_tollOf_97
  · refine ev_icmp_ne_Q (tgt := 68) c29 (by decide) d12_tollOf_58 ?_
    refine ev_iload_n (j := 3) (i := 3) (q := 5) rfl rfl d12_tollOf_68 ?_
    refine ev_aload_n (j := 0) (i := 0) (q := 2) rfl rfl d12_tollOf_69 ?_
    obtain ⟨b30, e31, hf⟩ := lt_some hf
    obtain ⟨h32, hf⟩ := gd_some hf
    refine ev_getRb cls12 (j := 27) (by decide) rfl w1278 (mono_ob q28.1 (mono_ob q24.1 (mono_ob q15.1 h1))) e31 (nz_ne h32) d12_tollOf_70 ?_
    refine ev_bipush cb_20 d12_tollOf_73 ?_
    refine ev_iload (i := 4) (q := 1) rfl d12_tollOf_75 ?_
    refine ev_imul d12_tollOf_77 ?_
    refine ev_iload (i := 5) (q := 0) rfl d12_tollOf_78 ?_
    refine ev_iadd d12_tollOf_80 ?_
    obtain ⟨h33, hf⟩ := gd_some hf
    obtain ⟨h34, hf⟩ := gd_some hf
    refine ev_iald h33 h34 d12_tollOf_81 ?_
    refine ev_imul d12_tollOf_82 ?_
    refine ev_aload_n (j := 0) (i := 0) (q := 2) rfl rfl d12_tollOf_83 ?_
    obtain ⟨b35, e36, hf⟩ := lt_some hf
    obtain ⟨h37, hf⟩ := gd_some hf
    refine ev_getRb cls12 (j := 28) (by decide) rfl w1279 (mono_ob q28.1 (mono_ob q24.1 (mono_ob q15.1 h1))) e36 (nz_ne h37) d12_tollOf_84 ?_
    refine ev_bipush cb_20 d12_tollOf_87 ?_
    refine ev_iload (i := 4) (q := 1) rfl d12_tollOf_89 ?_
    refine ev_imul d12_tollOf_91 ?_
    refine ev_iload (i := 5) (q := 0) rfl d12_tollOf_92 ?_
    refine ev_iadd d12_tollOf_94 ?_
    obtain ⟨h38, hf⟩ := gd_some hf
    obtain ⟨h39, hf⟩ := gd_some hf
    refine ev_iald h38 h39 d12_tollOf_95 ?_
    obtain ⟨h40, hf⟩ := gd_some hf
    refine ev_idiv (nzI_ne h40) d12_tollOf_96 ?_
    obtain ⟨rfl, rfl⟩ := ret_some hf
    exact ev_iret rfl d12_tollOf_97
abbrev m12_grinds : MD := ("MillBoatsModel", ⟨"MillBoatsModel", "grinds", "(I)V"⟩, prog_14_method_89_code, 10, (none : Option Jvm.ClassFile.FieldType))
theorem k12_grinds : okY m12_grinds.2.1 1 := ⟨by decide +kernel, by decide +kernel, by decide +kernel⟩
def f12_grinds_p198 (σ : St) (v0 : Nat) (v1 : Int32) (v3 : Int32) : Option (Unit × St) :=
  gd (ob σ v0 12) (
  lt (sR σ v0 11) fun b25 => (
  gd (nz b25) (
  gd (ob σ b25 14) (
  gd (inb σ b25 v1) (
  lt (wI σ b25 (ix v1) ((sI σ b25 (ix v1)) + v3)) fun t30 => (
  lt (sR t30 v0 10) fun b32 => (
  gd (nz b32) (
  gd (ob t30 b32 14) (
  gd (inb t30 b32 v1) (
  lt (wI t30 b32 (ix v1) ((sI t30 b32 (ix v1)) + v3)) fun t37 => (
  some ((), t37))))))))))))
set_option maxRecDepth 20000 in
theorem s12_grinds_p198 : ∀ (σ : St) (v0 : Nat) (v1 : Int32) (v3 : Int32) (r : Unit) (τ : St), f12_grinds_p198 σ v0 v1 v3 = some (r, τ) → Ev 7 m12_grinds 198 [(0, .ref v0), (1, .int v1), (3, .int v3)] [] σ none τ := by
  intro σ v0 v1 v3 r τ hf
  unfold f12_grinds_p198 at hf
  refine ev_aload_n (j := 0) (i := 0) (q := 0) rfl rfl d12_grinds_198 ?_
  obtain ⟨h24, hf⟩ := gd_some hf
  obtain ⟨b25, e26, hf⟩ := lt_some hf
  obtain ⟨h27, hf⟩ := gd_some hf
  refine ev_getRb cls12 (j := 11) (by decide) rfl w1262 h24 e26 (nz_ne h27) d12_grinds_199 ?_
  refine ev_iload_n (j := 1) (i := 1) (q := 1) rfl rfl d12_grinds_202 ?_
  refine ev_dup2 rfl rfl d12_grinds_203 ?_
  obtain ⟨h28, hf⟩ := gd_some hf
  obtain ⟨h29, hf⟩ := gd_some hf
  refine ev_iald h28 h29 d12_grinds_204 ?_
  refine ev_iload_n (j := 3) (i := 3) (q := 2) rfl rfl d12_grinds_205 ?_
  refine ev_iadd d12_grinds_206 ?_
  obtain ⟨t30, e31, hf⟩ := lt_some hf
  refine ev_iast h28 h29 d12_grinds_207 (ev_nmS e31 ?_)
  refine ev_aload_n (j := 0) (i := 0) (q := 0) rfl rfl d12_grinds_208 ?_
  obtain ⟨b32, e33, hf⟩ := lt_some hf
  obtain ⟨h34, hf⟩ := gd_some hf
  refine ev_getRb cls12 (j := 10) (by decide) rfl w1261 (mono_ob (mono_eI e31) h24) e33 (nz_ne h34) d12_grinds_209 ?_
  refine ev_iload_n (j := 1) (i := 1) (q := 1) rfl rfl d12_grinds_212 ?_
  refine ev_dup2 rfl rfl d12_grinds_213 ?_
  obtain ⟨h35, hf⟩ := gd_some hf
  obtain ⟨h36, hf⟩ := gd_some hf
  refine ev_iald h35 h36 d12_grinds_214 ?_
  refine ev_iload_n (j := 3) (i := 3) (q := 2) rfl rfl d12_grinds_215 ?_
  refine ev_iadd d12_grinds_216 ?_
  obtain ⟨t37, e38, hf⟩ := lt_some hf
  refine ev_iast h35 h36 d12_grinds_217 (ev_nmS e38 ?_)
  obtain ⟨-, rfl⟩ := ret_some hf
  exact ev_vret rfl d12_grinds_218
def f12_grinds_p192 (K15 : St → Nat → Int32 → Int32 → Int32 → Int32 → Option (Unit × St)) (σ : St) (v0 : Nat) (v1 : Int32) (v2 : Int32) (v3 : Int32) (v4 : Int32) : Option (Unit × St) :=
  lt (v4 + (1 : Int32)) fun y88 => (
  K15 σ v0 v1 v2 v3 y88)
set_option maxRecDepth 20000 in
theorem s12_grinds_p192 {K15 : St → Nat → Int32 → Int32 → Int32 → Int32 → Option (Unit × St)} (hK15 : ∀ (σ : St) (v0 : Nat) (v1 : Int32) (v2 : Int32) (v3 : Int32) (v4 : Int32) (r : Unit) (τ : St), K15 σ v0 v1 v2 v3 v4 = some (r, τ) → Ev 7 m12_grinds 15 [(0, .ref v0), (1, .int v1), (2, .int v2), (3, .int v3), (4, .int v4)] [] σ none τ) : ∀ (σ : St) (v0 : Nat) (v1 : Int32) (v2 : Int32) (v3 : Int32) (v4 : Int32) (r : Unit) (τ : St), f12_grinds_p192 K15 σ v0 v1 v2 v3 v4 = some (r, τ) → Ev 7 m12_grinds 192 [(0, .ref v0), (1, .int v1), (2, .int v2), (3, .int v3), (4, .int v4)] [] σ none τ := by
  intro σ v0 v1 v2 v3 v4 r τ hf
  unfold f12_grinds_p192 at hf
  obtain ⟨y88, e89, hf⟩ := lt_some hf
  refine ev_iinc (lv2 := [(4, .int y88), (0, .ref v0), (1, .int v1), (2, .int v2), (3, .int v3)]) (i := 4) (q := 4) (v := y88) (n := 1) rfl (by rw [ci_1]; exact e89.symm) (by decide) rfl d12_grinds_192 ?_
  refine ev_goto (tgt := 15) (by decide) d12_grinds_195 ?_
  exact Ev.sub [1, 2, 3, 4, 0] rfl (hK15 _ _ _ _ _ _ _ _ hf)
def f12_grinds_p156 (K15 : St → Nat → Int32 → Int32 → Int32 → Int32 → Option (Unit × St)) (σ : St) (v0 : Nat) (v1 : Int32) (v2 : Int32) (v3 : Int32) (v4 : Int32) (v5 : Int32) (v7 : Int32) (v8 : Int32) (v9 : Int32) : Option (Unit × St) :=
  gd (ob σ v0 12) (
  lt (sR σ v0 54) fun b91 => (
  gd (nz b91) (
  gd (ob σ b91 14) (
  gd (inb σ b91 v5) (
  lt (wI σ b91 (ix v5) ((sI σ b91 (ix v5)) - (v8 * v7))) fun t96 => (
  lt (sR t96 v0 12) fun b98 => (
  gd (nz b98) (
  gd (ob t96 b98 14) (
  gd (inb t96 b98 v1) (
  lt (wI t96 b98 (ix v1) ((sI t96 b98 (ix v1)) + v9)) fun t103 => (
  lt (v2 - v8) fun y105 => (
  lt (v3 + v8) fun y107 => (
  f12_grinds_p192 K15 t103 v0 v1 y105 y107 v4)))))))))))))
set_option maxRecDepth 20000 in
theorem s12_grinds_p156 {K15 : St → Nat → Int32 → Int32 → Int32 → Int32 → Option (Unit × St)} (hK15 : ∀ (σ : St) (v0 : Nat) (v1 : Int32) (v2 : Int32) (v3 : Int32) (v4 : Int32) (r : Unit) (τ : St), K15 σ v0 v1 v2 v3 v4 = some (r, τ) → Ev 7 m12_grinds 15 [(0, .ref v0), (1, .int v1), (2, .int v2), (3, .int v3), (4, .int v4)] [] σ none τ) : ∀ (σ : St) (v0 : Nat) (v1 : Int32) (v2 : Int32) (v3 : Int32) (v4 : Int32) (v5 : Int32) (v7 : Int32) (v8 : Int32) (v9 : Int32) (r : Unit) (τ : St), f12_grinds_p156 K15 σ v0 v1 v2 v3 v4 v5 v7 v8 v9 = some (r, τ) → Ev 7 m12_grinds 156 [(0, .ref v0), (1, .int v1), (2, .int v2), (3, .int v3), (4, .int v4), (5, .int v5), (7, .int v7), (8, .int v8), (9, .int v9)] [] σ none τ := by
  intro σ v0 v1 v2 v3 v4 v5 v7 v8 v9 r τ hf
  unfold f12_grinds_p156 at hf
  refine ev_aload_n (j := 0) (i := 0) (q := 0) rfl rfl d12_grinds_156 ?_
  obtain ⟨h90, hf⟩ := gd_some hf
  obtain ⟨b91, e92, hf⟩ := lt_some hf
  obtain ⟨h93, hf⟩ := gd_some hf
  refine ev_getRb cls12 (j := 54) (by decide) rfl w1305 h90 e92 (nz_ne h93) d12_grinds_157 ?_
  refine ev_iload (i := 5) (q := 5) rfl d12_grinds_160 ?_
  refine ev_dup2 rfl rfl d12_grinds_162 ?_
  obtain ⟨h94, hf⟩ := gd_some hf
  obtain ⟨h95, hf⟩ := gd_some hf
  refine ev_iald h94 h95 d12_grinds_163 ?_
  refine ev_iload (i := 8) (q := 7) rfl d12_grinds_164 ?_
  refine ev_iload (i := 7) (q := 6) rfl d12_grinds_166 ?_
  refine ev_imul d12_grinds_168 ?_
  refine ev_isub d12_grinds_169 ?_
  obtain ⟨t96, e97, hf⟩ := lt_some hf
  refine ev_iast h94 h95 d12_grinds_170 (ev_nmS e97 ?_)
  refine ev_aload_n (j := 0) (i := 0) (q := 0) rfl rfl d12_grinds_171 ?_
  obtain ⟨b98, e99, hf⟩ := lt_some hf
  obtain ⟨h100, hf⟩ := gd_some hf
  refine ev_getRb cls12 (j := 12) (by decide) rfl w1263 (mono_ob (mono_eI e97) h90) e99 (nz_ne h100) d12_grinds_172 ?_
  refine ev_iload_n (j := 1) (i := 1) (q := 1) rfl rfl d12_grinds_175 ?_
  refine ev_dup2 rfl rfl d12_grinds_176 ?_
  obtain ⟨h101, hf⟩ := gd_some hf
  obtain ⟨h102, hf⟩ := gd_some hf
  refine ev_iald h101 h102 d12_grinds_177 ?_
  refine ev_iload (i := 9) (q := 8) rfl d12_grinds_178 ?_
  refine ev_iadd d12_grinds_180 ?_
  obtain ⟨t103, e104, hf⟩ := lt_some hf
  refine ev_iast h101 h102 d12_grinds_181 (ev_nmS e104 ?_)
  refine ev_iload_n (j := 2) (i := 2) (q := 2) rfl rfl d12_grinds_182 ?_
  refine ev_iload (i := 8) (q := 7) rfl d12_grinds_183 ?_
  refine ev_isub d12_grinds_185 ?_
  obtain ⟨y105, e106, hf⟩ := lt_some hf
  refine ev_nmI e106 ?_
  refine ev_istore_n (lv2 := [(2, .int y105), (0, .ref v0), (1, .int v1), (3, .int v3), (4, .int v4), (5, .int v5), (7, .int v7), (8, .int v8), (9, .int v9)]) (j := 2) (i := 2) rfl (by decide) rfl d12_grinds_186 ?_
  refine ev_iload_n (j := 3) (i := 3) (q := 3) rfl rfl d12_grinds_187 ?_
  refine ev_iload (i := 8) (q := 7) rfl d12_grinds_188 ?_
  refine ev_iadd d12_grinds_190 ?_
  obtain ⟨y107, e108, hf⟩ := lt_some hf
  refine ev_nmI e108 ?_
  refine ev_istore_n (lv2 := [(3, .int y107), (2, .int y105), (0, .ref v0), (1, .int v1), (4, .int v4), (5, .int v5), (7, .int v7), (8, .int v8), (9, .int v9)]) (j := 3) (i := 3) rfl (by decide) rfl d12_grinds_191 ?_
  exact Ev.sub [2, 3, 1, 0, 4] rfl (s12_grinds_p192 hK15 _ _ _ _ _ _ _ _ hf)
def f12_grinds_p63 (K15 : St → Nat → Int32 → Int32 → Int32 → Int32 → Option (Unit × St)) (σ : St) (v0 : Nat) (v1 : Int32) (v2 : Int32) (v3 : Int32) (v4 : Int32) (v5 : Int32) (x0 : Int32) (x1 : Int32) : Option (Unit × St) :=
  lt (x1 + x0) fun y39 => (
  gd (ob σ v0 12) (
  lt (sR σ v0 58) fun b42 => (
  gd (nz b42) (
  gd (ob σ b42 14) (
  gd (inb σ b42 v4) (
  bd (fJ9_min_7cf53 σ (sI σ b42 (ix v4)) v2) fun r47 t48 => (
  lt (sR t48 v0 54) fun b51 => (
  gd (nz b51) (
  gd (ob t48 b51 14) (
  gd (inb t48 b51 v5) (
  gd (nzI y39) (
  bd (fJ9_min_7cf53 t48 r47 ((sI t48 b51 (ix v5)) / y39)) fun r57 t58 => (
  (if r57 = (0 : Int32) then
  f12_grinds_p192 K15 t58 v0 v1 v2 v3 v4
  else
  bd (f12_tollOf t58 v0 v1 v4 r57) fun r62 t63 => (
  lt (sR t63 v0 58) fun b66 => (
  gd (nz b66) (
  gd (ob t63 b66 14) (
  gd (inb t63 b66 v4) (
  lt (wI t63 b66 (ix v4) ((sI t63 b66 (ix v4)) - r57)) fun t71 => (
  lt (sR t71 v0 59) fun b73 => (
  gd (nz b73) (
  gd (ob t71 b73 14) (
  gd (inb t71 b73 v4) (
  lt (wI t71 b73 (ix v4) ((sI t71 b73 (ix v4)) + r62)) fun t78 => (
  (if (sI t78 b66 (ix v4)) = (0 : Int32) then
  lt (sR t78 v0 60) fun b81 => (
  gd (nz b81) (
  gd (ob t78 b81 14) (
  gd (inb t78 b81 v4) (
  lt (wI t78 b81 (ix v4) (sI t78 v0 14)) fun t86 => (
  f12_grinds_p156 K15 t86 v0 v1 v2 v3 v4 v5 y39 r57 r62)))))
  else
  f12_grinds_p156 K15 t78 v0 v1 v2 v3 v4 v5 y39 r57 r62))))))))))))))))))))))))))
set_option maxRecDepth 20000 in
theorem s12_grinds_p63 {K15 : St → Nat → Int32 → Int32 → Int32 → Int32 → Option (Unit × St)} (hK15 : ∀ (σ : St) (v0 : Nat) (v1 : Int32) (v2 : Int32) (v3 : Int32) (v4 : Int32) (r : Unit) (τ : St), K15 σ v0 v1 v2 v3 v4 = some (r, τ) → Ev 7 m12_grinds 15 [(0, .ref v0), (1, .int v1), (2, .int v2), (3, .int v3), (4, .int v4)] [] σ none τ) : ∀ (σ : St) (v0 : Nat) (v1 : Int32) (v2 : Int32) (v3 : Int32) (v4 : Int32) (v5 : Int32) (x0 : Int32) (x1 : Int32) (r : Unit) (τ : St), f12_grinds_p63 K15 σ v0 v1 v2 v3 v4 v5 x0 x1 = some (r, τ) → Ev 7 m12_grinds 63 [(0, .ref v0), (1, .int v1), (2, .int v2), (3, .int v3), (4, .int v4), (5, .int v5)] [.int x0, .int x1] σ none τ := by
  intro σ v0 v1 v2 v3 v4 v5 x0 x1 r τ hf
  unfold f12_grinds_p63 at hf
  refine ev_iadd d12_grinds_63 ?_
  obtain ⟨y39, e40, hf⟩ := lt_some hf
  refine ev_nmI e40 ?_
  refine ev_istore (lv2 := [(7, .int y39), (0, .ref v0), (1, .int v1), (2, .int v2), (3, .int v3), (4, .int v4), (5, .int v5)]) (i := 7) (by decide) rfl d12_grinds_64 ?_
  refine ev_aload_n (j := 0) (i := 0) (q := 1) rfl rfl d12_grinds_66 ?_
  obtain ⟨h41, hf⟩ := gd_some hf
  obtain ⟨b42, e43, hf⟩ := lt_some hf
  obtain ⟨h44, hf⟩ := gd_some hf
  refine ev_getRb cls12 (j := 58) (by decide) rfl w1309 h41 e43 (nz_ne h44) d12_grinds_67 ?_
  refine ev_iload (i := 4) (q := 5) rfl d12_grinds_70 ?_
  obtain ⟨h45, hf⟩ := gd_some hf
  obtain ⟨h46, hf⟩ := gd_some hf
  refine ev_iald h45 h46 d12_grinds_72 ?_
  refine ev_iload_n (j := 2) (i := 2) (q := 3) rfl rfl d12_grinds_73 ?_
  obtain ⟨r47, t48, k49, hf⟩ := bd_some hf
  have q50 := sJ9_min_7cf53 _ _ _ _ _ k49
  refine ev_callS (vs := [.int (sI σ b42 (ix v4)), .int v2]) (sk := []) q50 (by decide) (Nat.le_of_ble_eq_true rfl) w1855 w636 w8 w637 kJ9_min_7cf53 rfl (Nat.le_of_ble_eq_true rfl) d12_grinds_74 ?_
  refine ev_aload_n (j := 0) (i := 0) (q := 1) rfl rfl d12_grinds_77 ?_
  obtain ⟨b51, e52, hf⟩ := lt_some hf
  obtain ⟨h53, hf⟩ := gd_some hf
  refine ev_getRb cls12 (j := 54) (by decide) rfl w1305 (mono_ob q50.1 h41) e52 (nz_ne h53) d12_grinds_78 ?_
  refine ev_iload (i := 5) (q := 6) rfl d12_grinds_81 ?_
  obtain ⟨h54, hf⟩ := gd_some hf
  obtain ⟨h55, hf⟩ := gd_some hf
  refine ev_iald h54 h55 d12_grinds_83 ?_
  refine ev_iload (i := 7) (q := 0) rfl d12_grinds_84 ?_
  obtain ⟨h56, hf⟩ := gd_some hf
  refine ev_idiv (nzI_ne h56) d12_grinds_86 ?_
  obtain ⟨r57, t58, k59, hf⟩ := bd_some hf
  have q60 := sJ9_min_7cf53 _ _ _ _ _ k59
  refine ev_callS (vs := [.int r47, .int ((sI t48 b51 (ix v5)) / y39)]) (sk := []) q60 (by decide) (Nat.le_of_ble_eq_true rfl) w1855 w636 w8 w637 kJ9_min_7cf53 rfl (Nat.le_of_ble_eq_true rfl) d12_grinds_87 ?_
  refine ev_istore (lv2 := [(8, .int r57), (7, .int y39), (0, .ref v0), (1, .int v1), (2, .int v2), (3, .int v3), (4, .int v4), (5, .int v5)]) (i := 8) (by decide) rfl d12_grinds_90 ?_
  refine ev_iload (i := 8) (q := 0) rfl d12_grinds_92 ?_
  rcases ite_some hf with ⟨c61, hf⟩ | ⟨c61, hf⟩
  · refine ev_if_ne_P (tgt := 100) c61 (by decide) d12_grinds_94 ?_
    refine ev_goto (tgt := 192) (by decide) d12_grinds_97 ?_
    exact Ev.sub [2, 3, 4, 5, 6] rfl (s12_grinds_p192 hK15 _ _ _ _ _ _ _ _ hf)
  · refine ev_if_ne_Q (tgt := 100) c61 (by decide) d12_grinds_94 ?_
    refine ev_aload_n (j := 0) (i := 0) (q := 2) rfl rfl d12_grinds_100 ?_
    refine ev_iload_n (j := 1) (i := 1) (q := 3) rfl rfl d12_grinds_101 ?_
    refine ev_iload (i := 4) (q := 6) rfl d12_grinds_102 ?_
    refine ev_iload (i := 8) (q := 0) rfl d12_grinds_104 ?_
    obtain ⟨r62, t63, k64, hf⟩ := bd_some hf
    have q65 := s12_tollOf _ _ _ _ _ _ _ k64
    refine ev_callV (vs := [.int v1, .int v4, .int r57]) (sk := []) cls12 (mono_ob q60.1 (mono_ob q50.1 h41)) q65 (by decide) (Nat.le_of_ble_eq_true rfl) w1856 w1858 ws104 w19 w1859 k12_tollOf rfl (Nat.le_of_ble_eq_true rfl) d12_grinds_106 ?_
    refine ev_istore (lv2 := [(9, .int r62), (8, .int r57), (7, .int y39), (0, .ref v0), (1, .int v1), (2, .int v2), (3, .int v3), (4, .int v4), (5, .int v5)]) (i := 9) (by decide) rfl d12_grinds_109 ?_
    refine ev_aload_n (j := 0) (i := 0) (q := 3) rfl rfl d12_grinds_111 ?_
    obtain ⟨b66, e67, hf⟩ := lt_some hf
    obtain ⟨h68, hf⟩ := gd_some hf
    refine ev_getRb cls12 (j := 58) (by decide) rfl w1309 (mono_ob q65.1 (mono_ob q60.1 (mono_ob q50.1 h41))) e67 (nz_ne h68) d12_grinds_112 ?_
    refine ev_iload (i := 4) (q := 7) rfl d12_grinds_115 ?_
    refine ev_dup2 rfl rfl d12_grinds_117 ?_
    obtain ⟨h69, hf⟩ := gd_some hf
    obtain ⟨h70, hf⟩ := gd_some hf
    refine ev_iald h69 h70 d12_grinds_118 ?_
    refine ev_iload (i := 8) (q := 1) rfl d12_grinds_119 ?_
    refine ev_isub d12_grinds_121 ?_
    obtain ⟨t71, e72, hf⟩ := lt_some hf
    refine ev_iast h69 h70 d12_grinds_122 (ev_nmS e72 ?_)
    refine ev_aload_n (j := 0) (i := 0) (q := 3) rfl rfl d12_grinds_123 ?_
    obtain ⟨b73, e74, hf⟩ := lt_some hf
    obtain ⟨h75, hf⟩ := gd_some hf
    refine ev_getRb cls12 (j := 59) (by decide) rfl w1310 (mono_ob (mono_eI e72) (mono_ob q65.1 (mono_ob q60.1 (mono_ob q50.1 h41)))) e74 (nz_ne h75) d12_grinds_124 ?_
    refine ev_iload (i := 4) (q := 7) rfl d12_grinds_127 ?_
    refine ev_dup2 rfl rfl d12_grinds_129 ?_
    obtain ⟨h76, hf⟩ := gd_some hf
    obtain ⟨h77, hf⟩ := gd_some hf
    refine ev_iald h76 h77 d12_grinds_130 ?_
    refine ev_iload (i := 9) (q := 0) rfl d12_grinds_131 ?_
    refine ev_iadd d12_grinds_133 ?_
    obtain ⟨t78, e79, hf⟩ := lt_some hf
    refine ev_iast h76 h77 d12_grinds_134 (ev_nmS e79 ?_)
    refine ev_aload_n (j := 0) (i := 0) (q := 3) rfl rfl d12_grinds_135 ?_
    refine ev_getRb cls12 (j := 58) (by decide) rfl w1309 (mono_ob (mono_eI e79) (mono_ob (mono_eI e72) (mono_ob q65.1 (mono_ob q60.1 (mono_ob q50.1 h41))))) (tr_I e79 (tr_I e72 e67)) (nz_ne h68) d12_grinds_136 ?_
    refine ev_iload (i := 4) (q := 7) rfl d12_grinds_139 ?_
    refine ev_iald (mono_ob (mono_eI e79) (mono_ob (mono_eI e72) h69)) (inb_m (mono_eI e79) (mono_ob (mono_eI e72) h69) (inb_m (mono_eI e72) h69 h70)) d12_grinds_141 ?_
    rcases ite_some hf with ⟨c80, hf⟩ | ⟨c80, hf⟩
    · refine ev_if_ne_P (tgt := 156) c80 (by decide) d12_grinds_142 ?_
      refine ev_aload_n (j := 0) (i := 0) (q := 3) rfl rfl d12_grinds_145 ?_
      obtain ⟨b81, e82, hf⟩ := lt_some hf
      obtain ⟨h83, hf⟩ := gd_some hf
      refine ev_getRb cls12 (j := 60) (by decide) rfl w1311 (mono_ob (mono_eI e79) (mono_ob (mono_eI e72) (mono_ob q65.1 (mono_ob q60.1 (mono_ob q50.1 h41))))) e82 (nz_ne h83) d12_grinds_146 ?_
      refine ev_iload (i := 4) (q := 7) rfl d12_grinds_149 ?_
      refine ev_aload_n (j := 0) (i := 0) (q := 3) rfl rfl d12_grinds_151 ?_
      refine ev_getI cls12 (j := 14) (by decide) rfl w1265 (mono_ob (mono_eI e79) (mono_ob (mono_eI e72) (mono_ob q65.1 (mono_ob q60.1 (mono_ob q50.1 h41))))) d12_grinds_152 ?_
      obtain ⟨h84, hf⟩ := gd_some hf
      obtain ⟨h85, hf⟩ := gd_some hf
      obtain ⟨t86, e87, hf⟩ := lt_some hf
      refine ev_iast h84 h85 d12_grinds_155 (ev_nmS e87 ?_)
      exact Ev.sub [3, 4, 5, 6, 7, 8, 2, 1, 0] rfl (s12_grinds_p156 hK15 _ _ _ _ _ _ _ _ _ _ _ _ hf)
    · refine ev_if_ne_Q (tgt := 156) c80 (by decide) d12_grinds_142 ?_
      exact Ev.sub [3, 4, 5, 6, 7, 8, 2, 1, 0] rfl (s12_grinds_p156 hK15 _ _ _ _ _ _ _ _ _ _ _ _ hf)
def f12_grinds_p15 : Nat → St → Nat → Int32 → Int32 → Int32 → Int32 → Option (Unit × St)
  | 0, _, _, _, _, _, _ => none
  | n + 1, σ, v0, v1, v2, v3, v4 =>
  gd (ob σ v0 12) (
  (if v4 < (sI σ v0 55) then
  (if v2 ≤ (0 : Int32) then
  f12_grinds_p198 σ v0 v1 v3
  else
  lt (sR σ v0 56) fun b9 => (
  gd (nz b9) (
  gd (ob σ b9 14) (
  gd (inb σ b9 v4) (
  lt (sI σ b9 (ix v4)) fun y14 => (
  lt (sR σ v0 9) fun b16 => (
  gd (nz b16) (
  gd (ob σ b16 14) (
  gd (inb σ b16 v1) (
  lt ((sI σ b16 (ix v1)) / (12 : Int32)) fun y21 => (
  (if y14 = (0 : Int32) then
  f12_grinds_p63 (f12_grinds_p15 n) σ v0 v1 v2 v3 v4 y14 y21 (1 : Int32)
  else
  f12_grinds_p63 (f12_grinds_p15 n) σ v0 v1 v2 v3 v4 y14 ((5 : Int32) - y21) (1 : Int32)))))))))))))
  else
  f12_grinds_p198 σ v0 v1 v3))
set_option maxRecDepth 20000 in
theorem s12_grinds_p15 : ∀ (n : Nat) (σ : St) (v0 : Nat) (v1 : Int32) (v2 : Int32) (v3 : Int32) (v4 : Int32) (r : Unit) (τ : St), f12_grinds_p15 n σ v0 v1 v2 v3 v4 = some (r, τ) → Ev 7 m12_grinds 15 [(0, .ref v0), (1, .int v1), (2, .int v2), (3, .int v3), (4, .int v4)] [] σ none τ := by
  intro n
  induction n with
  | zero =>
    intro σ v0 v1 v2 v3 v4 r τ hf
    cases hf
  | succ n ih =>
    intro σ v0 v1 v2 v3 v4 r τ hf
    rw [f12_grinds_p15] at hf
    refine ev_iload (i := 4) (q := 4) rfl d12_grinds_15 ?_
    refine ev_aload_n (j := 0) (i := 0) (q := 0) rfl rfl d12_grinds_17 ?_
    obtain ⟨h6, hf⟩ := gd_some hf
    refine ev_getI cls12 (j := 55) (by decide) rfl w1306 h6 d12_grinds_18 ?_
    rcases ite_some hf with ⟨c7, hf⟩ | ⟨c7, hf⟩
    · refine ev_icmp_ge_P (tgt := 198) c7 (by decide) d12_grinds_21 ?_
      refine ev_iload_n (j := 2) (i := 2) (q := 2) rfl rfl d12_grinds_24 ?_
      rcases ite_some hf with ⟨c8, hf⟩ | ⟨c8, hf⟩
      · refine ev_if_le_P (tgt := 198) c8 (by decide) d12_grinds_25 ?_
        exact Ev.sub [0, 1, 3] rfl (s12_grinds_p198 _ _ _ _ _ _ hf)
      · refine ev_if_le_Q (tgt := 198) c8 (by decide) d12_grinds_25 ?_
        refine ev_aload_n (j := 0) (i := 0) (q := 0) rfl rfl d12_grinds_28 ?_
        obtain ⟨b9, e10, hf⟩ := lt_some hf
        obtain ⟨h11, hf⟩ := gd_some hf
        refine ev_getRb cls12 (j := 56) (by decide) rfl w1307 h6 e10 (nz_ne h11) d12_grinds_29 ?_
        refine ev_iload (i := 4) (q := 4) rfl d12_grinds_32 ?_
        obtain ⟨h12, hf⟩ := gd_some hf
        obtain ⟨h13, hf⟩ := gd_some hf
        refine ev_iald h12 h13 d12_grinds_34 ?_
        obtain ⟨y14, e15, hf⟩ := lt_some hf
        refine ev_nmI e15 ?_
        refine ev_istore (lv2 := [(5, .int y14), (0, .ref v0), (1, .int v1), (2, .int v2), (3, .int v3), (4, .int v4)]) (i := 5) (by decide) rfl d12_grinds_35 ?_
        refine ev_aload_n (j := 0) (i := 0) (q := 1) rfl rfl d12_grinds_37 ?_
        obtain ⟨b16, e17, hf⟩ := lt_some hf
        obtain ⟨h18, hf⟩ := gd_some hf
        refine ev_getRb cls12 (j := 9) (by decide) rfl w1260 h6 e17 (nz_ne h18) d12_grinds_38 ?_
        refine ev_iload_n (j := 1) (i := 1) (q := 2) rfl rfl d12_grinds_41 ?_
        obtain ⟨h19, hf⟩ := gd_some hf
        obtain ⟨h20, hf⟩ := gd_some hf
        refine ev_iald h19 h20 d12_grinds_42 ?_
        refine ev_bipush cb_12 d12_grinds_43 ?_
        refine ev_idiv (by decide) d12_grinds_45 ?_
        obtain ⟨y21, e22, hf⟩ := lt_some hf
        refine ev_nmI e22 ?_
        refine ev_istore (lv2 := [(6, .int y21), (5, .int y14), (0, .ref v0), (1, .int v1), (2, .int v2), (3, .int v3), (4, .int v4)]) (i := 6) (by decide) rfl d12_grinds_46 ?_
        refine ev_iconst ci_1 d12_grinds_48 ?_
        refine ev_iload (i := 5) (q := 1) rfl d12_grinds_49 ?_
        rcases ite_some hf with ⟨c23, hf⟩ | ⟨c23, hf⟩
        · refine ev_if_ne_P (tgt := 59) c23 (by decide) d12_grinds_51 ?_
          refine ev_iload (i := 6) (q := 0) rfl d12_grinds_54 ?_
          refine ev_goto (tgt := 63) (by decide) d12_grinds_56 ?_
          exact Ev.sub [2, 3, 4, 5, 6, 1] rfl (s12_grinds_p63 ih _ _ _ _ _ _ _ _ _ _ _ hf)
        · refine ev_if_ne_Q (tgt := 59) c23 (by decide) d12_grinds_51 ?_
          refine ev_iconst ci_5 d12_grinds_59 ?_
          refine ev_iload (i := 6) (q := 0) rfl d12_grinds_60 ?_
          refine ev_isub d12_grinds_62 ?_
          exact Ev.sub [2, 3, 4, 5, 6, 1] rfl (s12_grinds_p63 ih _ _ _ _ _ _ _ _ _ _ _ hf)
    · refine ev_icmp_ge_Q (tgt := 198) c7 (by decide) d12_grinds_21 ?_
      exact Ev.sub [0, 1, 3] rfl (s12_grinds_p198 _ _ _ _ _ _ hf)
def f12_grinds (σ : St) (v0 : Nat) (v1 : Int32) : Option (Unit × St) :=
  gd (ob σ v0 12) (
  bd (f12_powerOf σ v0 v1 (sI σ v0 51)) fun r2 t3 => (
  f12_grinds_p15 FU t3 v0 v1 r2 (0 : Int32) (0 : Int32)))
set_option maxRecDepth 50000 in
theorem s12_grinds : ∀ (σ : St) (v0 : Nat) (v1 : Int32) (r : Unit) (τ : St), f12_grinds σ v0 v1 = some (r, τ) → Call 7 m12_grinds [.ref v0, .int v1] σ none τ := by
  intro σ v0 v1 r τ hf
  unfold f12_grinds at hf
  refine Call.of (by decide +kernel) rfl (Nat.le_of_ble_eq_true rfl) ?_
  refine ev_aload_n (j := 0) (i := 0) (q := 0) rfl rfl d12_grinds_0 ?_
  refine ev_iload_n (j := 1) (i := 1) (q := 1) rfl rfl d12_grinds_1 ?_
  refine ev_aload_n (j := 0) (i := 0) (q := 0) rfl rfl d12_grinds_2 ?_
  obtain ⟨h1, hf⟩ := gd_some hf
  refine ev_getI cls12 (j := 51) (by decide) rfl w1302 h1 d12_grinds_3 ?_
  obtain ⟨r2, t3, k4, hf⟩ := bd_some hf
  have q5 := s12_powerOf _ _ _ _ _ _ k4
  refine ev_callV (vs := [.int v1, .int (sI σ v0 51)]) (sk := []) cls12 h1 q5 (by decide) (Nat.le_of_ble_eq_true rfl) w1548 w1550 ws56 w19 w1551 k12_powerOf rfl (Nat.le_of_ble_eq_true rfl) d12_grinds_6 ?_
  refine ev_istore_n (lv2 := [(2, .int r2), (0, .ref v0), (1, .int v1)]) (j := 2) (i := 2) rfl (by decide) rfl d12_grinds_9 ?_
  refine ev_iconst ci_0 d12_grinds_10 ?_
  refine ev_istore_n (lv2 := [(3, .int (0 : Int32)), (2, .int r2), (0, .ref v0), (1, .int v1)]) (j := 3) (i := 3) rfl (by decide) rfl d12_grinds_11 ?_
  refine ev_iconst ci_0 d12_grinds_12 ?_
  refine ev_istore (lv2 := [(4, .int (0 : Int32)), (3, .int (0 : Int32)), (2, .int r2), (0, .ref v0), (1, .int v1)]) (i := 4) (by decide) rfl d12_grinds_13 ?_
  exact Ev.sub [3, 4, 2, 1, 0] rfl (s12_grinds_p15 FU _ _ _ _ _ _ _ _ hf)
abbrev m12_day : MD := ("MillBoatsModel", ⟨"MillBoatsModel", "day", "()I"⟩, prog_14_method_90_code, 3, (some Jvm.ClassFile.FieldType.int))
theorem k12_day : okY m12_day.2.1 0 := ⟨by decide +kernel, by decide +kernel, by decide +kernel⟩
def f12_day_p154 (K85 : St → Nat → Int32 → Option (Int32 × St)) (σ : St) (v0 : Nat) (v1 : Int32) : Option (Int32 × St) :=
  lt (v1 + (1 : Int32)) fun y66 => (
  K85 σ v0 y66)
set_option maxRecDepth 20000 in
theorem s12_day_p154 {K85 : St → Nat → Int32 → Option (Int32 × St)} (hK85 : ∀ (σ : St) (v0 : Nat) (v1 : Int32) (r : Int32) (τ : St), K85 σ v0 v1 = some (r, τ) → Ev 17 m12_day 85 [(0, .ref v0), (1, .int v1)] [] σ (some (.int r)) τ) : ∀ (σ : St) (v0 : Nat) (v1 : Int32) (r : Int32) (τ : St), f12_day_p154 K85 σ v0 v1 = some (r, τ) → Ev 17 m12_day 154 [(0, .ref v0), (1, .int v1)] [] σ (some (.int r)) τ := by
  intro σ v0 v1 r τ hf
  unfold f12_day_p154 at hf
  obtain ⟨y66, e67, hf⟩ := lt_some hf
  refine ev_iinc (lv2 := [(1, .int y66), (0, .ref v0)]) (i := 1) (q := 1) (v := y66) (n := 1) rfl (by rw [ci_1]; exact e67.symm) (by decide) rfl d12_day_154 ?_
  refine ev_goto (tgt := 85) (by decide) d12_day_157 ?_
  exact Ev.sub [1, 0] rfl (hK85 _ _ _ _ _ hf)
def f12_day_p85 : Nat → St → Nat → Int32 → Option (Int32 × St)
  | 0, _, _, _ => none
  | n + 1, σ, v0, v1 =>
  gd (ob σ v0 12) (
  (if v1 < (sI σ v0 5) then
  gd (nzI (sI σ v0 5)) (
  lt (((sI σ v0 14) + v1) - ((sI σ v0 14) + v1) / (sI σ v0 5) * (sI σ v0 5)) fun y41 => (
  lt (sR σ v0 9) fun b43 => (
  gd (nz b43) (
  gd (ob σ b43 14) (
  gd (inb σ b43 y41) (
  (if (sI σ b43 (ix y41)) < (0 : Int32) then
  f12_day_p154 (f12_day_p85 n) σ v0 v1
  else
  lt (sR σ v0 13) fun b49 => (
  gd (nz b49) (
  gd (ob σ b49 14) (
  gd (inb σ b49 y41) (
  (if (sI σ b49 (ix y41)) = (sI σ v0 14) then
  f12_day_p154 (f12_day_p85 n) σ v0 v1
  else
  bd (f12_isBarred σ v0 y41 (sI σ b43 (ix y41)) (sI σ v0 14) (sI σ v0 14)) fun r55 t56 => (
  (if r55 = (0 : Int32) then
  bd (f12_grinds t56 v0 y41) fun r60 t61 => (
  f12_day_p154 (f12_day_p85 n) t61 v0 v1)
  else
  f12_day_p154 (f12_day_p85 n) t56 v0 v1))))))))))))))
  else
  lt (wI σ v0 14 ((sI σ v0 14) + (1 : Int32))) fun t64 => (
  some (sI t64 v0 14, t64))))
set_option maxRecDepth 20000 in
theorem s12_day_p85 : ∀ (n : Nat) (σ : St) (v0 : Nat) (v1 : Int32) (r : Int32) (τ : St), f12_day_p85 n σ v0 v1 = some (r, τ) → Ev 17 m12_day 85 [(0, .ref v0), (1, .int v1)] [] σ (some (.int r)) τ := by
  intro n
  induction n with
  | zero =>
    intro σ v0 v1 r τ hf
    cases hf
  | succ n ih =>
    intro σ v0 v1 r τ hf
    rw [f12_day_p85] at hf
    refine ev_iload_n (j := 1) (i := 1) (q := 1) rfl rfl d12_day_85 ?_
    refine ev_aload_n (j := 0) (i := 0) (q := 0) rfl rfl d12_day_86 ?_
    obtain ⟨h38, hf⟩ := gd_some hf
    refine ev_getI cls12 (j := 5) (by decide) rfl w1256 h38 d12_day_87 ?_
    rcases ite_some hf with ⟨c39, hf⟩ | ⟨c39, hf⟩
    · refine ev_icmp_ge_P (tgt := 160) c39 (by decide) d12_day_90 ?_
      refine ev_aload_n (j := 0) (i := 0) (q := 0) rfl rfl d12_day_93 ?_
      refine ev_getI cls12 (j := 14) (by decide) rfl w1265 h38 d12_day_94 ?_
      refine ev_iload_n (j := 1) (i := 1) (q := 1) rfl rfl d12_day_97 ?_
      refine ev_iadd d12_day_98 ?_
      refine ev_aload_n (j := 0) (i := 0) (q := 0) rfl rfl d12_day_99 ?_
      refine ev_getI cls12 (j := 5) (by decide) rfl w1256 h38 d12_day_100 ?_
      obtain ⟨h40, hf⟩ := gd_some hf
      refine ev_irem (nzI_ne h40) d12_day_103 ?_
      obtain ⟨y41, e42, hf⟩ := lt_some hf
      refine ev_nmI e42 ?_
      refine ev_istore_n (lv2 := [(2, .int y41), (0, .ref v0), (1, .int v1)]) (j := 2) (i := 2) rfl (by decide) rfl d12_day_104 ?_
      refine ev_aload_n (j := 0) (i := 0) (q := 1) rfl rfl d12_day_105 ?_
      obtain ⟨b43, e44, hf⟩ := lt_some hf
      obtain ⟨h45, hf⟩ := gd_some hf
      refine ev_getRb cls12 (j := 9) (by decide) rfl w1260 h38 e44 (nz_ne h45) d12_day_106 ?_
      refine ev_iload_n (j := 2) (i := 2) (q := 0) rfl rfl d12_day_109 ?_
      obtain ⟨h46, hf⟩ := gd_some hf
      obtain ⟨h47, hf⟩ := gd_some hf
      refine ev_iald h46 h47 d12_day_110 ?_
      rcases ite_some hf with ⟨c48, hf⟩ | ⟨c48, hf⟩
      · refine ev_if_lt_P (tgt := 154) c48 (by decide) d12_day_111 ?_
        exact Ev.sub [1, 2] rfl (s12_day_p154 ih _ _ _ _ _ hf)
      · refine ev_if_lt_Q (tgt := 154) c48 (by decide) d12_day_111 ?_
        refine ev_aload_n (j := 0) (i := 0) (q := 1) rfl rfl d12_day_114 ?_
        obtain ⟨b49, e50, hf⟩ := lt_some hf
        obtain ⟨h51, hf⟩ := gd_some hf
        refine ev_getRb cls12 (j := 13) (by decide) rfl w1264 h38 e50 (nz_ne h51) d12_day_115 ?_
        refine ev_iload_n (j := 2) (i := 2) (q := 0) rfl rfl d12_day_118 ?_
        obtain ⟨h52, hf⟩ := gd_some hf
        obtain ⟨h53, hf⟩ := gd_some hf
        refine ev_iald h52 h53 d12_day_119 ?_
        refine ev_aload_n (j := 0) (i := 0) (q := 1) rfl rfl d12_day_120 ?_
        refine ev_getI cls12 (j := 14) (by decide) rfl w1265 h38 d12_day_121 ?_
        rcases ite_some hf with ⟨c54, hf⟩ | ⟨c54, hf⟩
        · refine ev_icmp_eq_P (tgt := 154) c54 (by decide) d12_day_124 ?_
          exact Ev.sub [1, 2] rfl (s12_day_p154 ih _ _ _ _ _ hf)
        · refine ev_icmp_eq_Q (tgt := 154) c54 (by decide) d12_day_124 ?_
          refine ev_aload_n (j := 0) (i := 0) (q := 1) rfl rfl d12_day_127 ?_
          refine ev_iload_n (j := 2) (i := 2) (q := 0) rfl rfl d12_day_128 ?_
          refine ev_aload_n (j := 0) (i := 0) (q := 1) rfl rfl d12_day_129 ?_
          refine ev_getRb cls12 (j := 9) (by decide) rfl w1260 h38 e44 (nz_ne h45) d12_day_130 ?_
          refine ev_iload_n (j := 2) (i := 2) (q := 0) rfl rfl d12_day_133 ?_
          refine ev_iald h46 h47 d12_day_134 ?_
          refine ev_aload_n (j := 0) (i := 0) (q := 1) rfl rfl d12_day_135 ?_
          refine ev_getI cls12 (j := 14) (by decide) rfl w1265 h38 d12_day_136 ?_
          refine ev_aload_n (j := 0) (i := 0) (q := 1) rfl rfl d12_day_139 ?_
          refine ev_getI cls12 (j := 14) (by decide) rfl w1265 h38 d12_day_140 ?_
          obtain ⟨r55, t56, k57, hf⟩ := bd_some hf
          have q58 := s12_isBarred _ _ _ _ _ _ _ _ k57
          refine ev_callV (vs := [.int y41, .int (sI σ b43 (ix y41)), .int (sI σ v0 14), .int (sI σ v0 14)]) (sk := []) cls12 h38 q58 (by decide) (Nat.le_of_ble_eq_true rfl) w1847 w1849 ws102 w19 w1850 k12_isBarred rfl (Nat.le_of_ble_eq_true rfl) d12_day_143 ?_
          rcases ite_some hf with ⟨c59, hf⟩ | ⟨c59, hf⟩
          · refine ev_if_ne_P (tgt := 154) c59 (by decide) d12_day_146 ?_
            refine ev_aload_n (j := 0) (i := 0) (q := 1) rfl rfl d12_day_149 ?_
            refine ev_iload_n (j := 2) (i := 2) (q := 0) rfl rfl d12_day_150 ?_
            obtain ⟨r60, t61, k62, hf⟩ := bd_some hf
            have q63 := s12_grinds _ _ _ _ _ k62
            refine ev_callV (vs := [.int y41]) (sk := []) cls12 (mono_ob q58.1 h38) q63 (by decide) (Nat.le_of_ble_eq_true rfl) w1851 w1853 ws103 w19 w1854 k12_grinds rfl (Nat.le_of_ble_eq_true rfl) d12_day_151 ?_
            exact Ev.sub [1, 2] rfl (s12_day_p154 ih _ _ _ _ _ hf)
          · refine ev_if_ne_Q (tgt := 154) c59 (by decide) d12_day_146 ?_
            exact Ev.sub [1, 2] rfl (s12_day_p154 ih _ _ _ _ _ hf)
    · refine ev_icmp_ge_Q (tgt := 160) c39 (by decide) d12_day_90 ?_
      refine ev_aload_n (j := 0) (i := 0) (q := 0) rfl rfl d12_day_160 ?_
      refine ev_dup rfl d12_day_161 ?_
      refine ev_getI cls12 (j := 14) (by decide) rfl w1265 h38 d12_day_162 ?_
      refine ev_iconst ci_1 d12_day_165 ?_
      refine ev_iadd d12_day_166 ?_
      obtain ⟨t64, e65, hf⟩ := lt_some hf
      refine ev_putI cls12 (j := 14) (by decide) rfl rfl w1265 h38 (fun _ => ⟨rfl, rfl⟩) d12_day_167 (ev_nmS e65 ?_)
      refine ev_aload_n (j := 0) (i := 0) (q := 0) rfl rfl d12_day_170 ?_
      refine ev_getI cls12 (j := 14) (by decide) rfl w1265 (mono_ob (mono_eI e65) h38) d12_day_171 ?_
      obtain ⟨rfl, rfl⟩ := ret_some hf
      exact ev_iret rfl d12_day_174
def f12_day (σ : St) (v0 : Nat) : Option (Int32 × St) :=
  gd (ob σ v0 12) (
  lt (wI σ v0 0 (0 : Int32)) fun t2 => (
  (if (sI t2 v0 14) = (999 : Int32) then
  some ((-1 : Int32), t2)
  else
  bd (f12_heightAt t2 v0 (sI t2 v0 14) (sI t2 v0 14)) fun r5 t6 => (
  lt (wI t6 v0 51 r5) fun t9 => (
  bd (f12_iceAt t9 v0 (sI t9 v0 14) (sI t9 v0 14)) fun r11 t12 => (
  gd (isB r11) (
  lt (wI t12 v0 52 r11) fun t16 => (
  bd (f12_chains t16 v0) fun r18 t19 => (
  lt (sR t19 v0 54) fun b22 => (
  gd (nz b22) (
  lt (sR t19 v0 53) fun b25 => (
  gd (nz b25) (
  gd (ob t19 b25 14) (
  gd (inb t19 b25 (0 : Int32)) (
  gd (ob t19 b22 14) (
  gd (inb t19 b22 (0 : Int32)) (
  lt (wI t19 b22 (ix (0 : Int32)) ((30 : Int32) * (sI t19 b25 (ix (0 : Int32))))) fun t32 => (
  gd (inb t32 b25 (1 : Int32)) (
  gd (inb t32 b22 (1 : Int32)) (
  lt (wI t32 b22 (ix (1 : Int32)) ((30 : Int32) * (sI t32 b25 (ix (1 : Int32))))) fun t36 => (
  f12_day_p85 FU t36 v0 (0 : Int32))))))))))))))))))))))
set_option maxRecDepth 50000 in
theorem s12_day : ∀ (σ : St) (v0 : Nat) (r : Int32) (τ : St), f12_day σ v0 = some (r, τ) → Call 17 m12_day [.ref v0] σ (some (.int r)) τ := by
  intro σ v0 r τ hf
  unfold f12_day at hf
  refine Call.of (by decide +kernel) rfl (Nat.le_of_ble_eq_true rfl) ?_
  refine ev_aload_n (j := 0) (i := 0) (q := 0) rfl rfl d12_day_0 ?_
  refine ev_iconst ci_0 d12_day_1 ?_
  obtain ⟨h1, hf⟩ := gd_some hf
  obtain ⟨t2, e3, hf⟩ := lt_some hf
  refine ev_putI cls12 (j := 0) (by decide) rfl rfl w1251 h1 (fun _ => ⟨rfl, rfl⟩) d12_day_2 (ev_nmS e3 ?_)
  refine ev_aload_n (j := 0) (i := 0) (q := 0) rfl rfl d12_day_5 ?_
  refine ev_getI cls12 (j := 14) (by decide) rfl w1265 (mono_ob (mono_eI e3) h1) d12_day_6 ?_
  refine ev_sipush cs_999 d12_day_9 ?_
  rcases ite_some hf with ⟨c4, hf⟩ | ⟨c4, hf⟩
  · refine ev_icmp_ne_P (tgt := 17) c4 (by decide) d12_day_12 ?_
    refine ev_iconst ci_m1 d12_day_15 ?_
    obtain ⟨rfl, rfl⟩ := ret_some hf
    exact ev_iret rfl d12_day_16
  · refine ev_icmp_ne_Q (tgt := 17) c4 (by decide) d12_day_12 ?_
    refine ev_aload_n (j := 0) (i := 0) (q := 0) rfl rfl d12_day_17 ?_
    refine ev_aload_n (j := 0) (i := 0) (q := 0) rfl rfl d12_day_18 ?_
    refine ev_aload_n (j := 0) (i := 0) (q := 0) rfl rfl d12_day_19 ?_
    refine ev_getI cls12 (j := 14) (by decide) rfl w1265 (mono_ob (mono_eI e3) h1) d12_day_20 ?_
    refine ev_aload_n (j := 0) (i := 0) (q := 0) rfl rfl d12_day_23 ?_
    refine ev_getI cls12 (j := 14) (by decide) rfl w1265 (mono_ob (mono_eI e3) h1) d12_day_24 ?_
    obtain ⟨r5, t6, k7, hf⟩ := bd_some hf
    have q8 := s12_heightAt _ _ _ _ _ _ k7
    refine ev_callV (vs := [.int (sI t2 v0 14), .int (sI t2 v0 14)]) (sk := [.ref v0]) cls12 (mono_ob (mono_eI e3) h1) q8 (by decide) (Nat.le_of_ble_eq_true rfl) w1595 w1597 ws62 w19 w1598 k12_heightAt rfl (Nat.le_of_ble_eq_true rfl) d12_day_27 ?_
    obtain ⟨t9, e10, hf⟩ := lt_some hf
    refine ev_putI cls12 (j := 51) (by decide) rfl rfl w1302 (mono_ob q8.1 (mono_ob (mono_eI e3) h1)) (fun _ => ⟨rfl, rfl⟩) d12_day_30 (ev_nmS e10 ?_)
    refine ev_aload_n (j := 0) (i := 0) (q := 0) rfl rfl d12_day_33 ?_
    refine ev_aload_n (j := 0) (i := 0) (q := 0) rfl rfl d12_day_34 ?_
    refine ev_aload_n (j := 0) (i := 0) (q := 0) rfl rfl d12_day_35 ?_
    refine ev_getI cls12 (j := 14) (by decide) rfl w1265 (mono_ob (mono_eI e10) (mono_ob q8.1 (mono_ob (mono_eI e3) h1))) d12_day_36 ?_
    refine ev_aload_n (j := 0) (i := 0) (q := 0) rfl rfl d12_day_39 ?_
    refine ev_getI cls12 (j := 14) (by decide) rfl w1265 (mono_ob (mono_eI e10) (mono_ob q8.1 (mono_ob (mono_eI e3) h1))) d12_day_40 ?_
    obtain ⟨r11, t12, k13, hf⟩ := bd_some hf
    have q14 := s12_iceAt _ _ _ _ _ _ k13
    refine ev_callV (vs := [.int (sI t9 v0 14), .int (sI t9 v0 14)]) (sk := [.ref v0]) cls12 (mono_ob (mono_eI e10) (mono_ob q8.1 (mono_ob (mono_eI e3) h1))) q14 (by decide) (Nat.le_of_ble_eq_true rfl) w1603 w1605 ws63 w19 w1606 k12_iceAt rfl (Nat.le_of_ble_eq_true rfl) d12_day_43 ?_
    obtain ⟨h15, hf⟩ := gd_some hf
    obtain ⟨t16, e17, hf⟩ := lt_some hf
    refine ev_putI cls12 (j := 52) (by decide) rfl rfl w1303 (mono_ob q14.1 (mono_ob (mono_eI e10) (mono_ob q8.1 (mono_ob (mono_eI e3) h1)))) (narB2 h15) d12_day_46 (ev_nmS e17 ?_)
    refine ev_aload_n (j := 0) (i := 0) (q := 0) rfl rfl d12_day_49 ?_
    obtain ⟨r18, t19, k20, hf⟩ := bd_some hf
    have q21 := s12_chains _ _ _ _ k20
    refine ev_callV (vs := []) (sk := []) cls12 (mono_ob (mono_eI e17) (mono_ob q14.1 (mono_ob (mono_eI e10) (mono_ob q8.1 (mono_ob (mono_eI e3) h1))))) q21 (by decide) (Nat.le_of_ble_eq_true rfl) w1831 w1833 ws98 w19 w1834 k12_chains rfl (Nat.le_of_ble_eq_true rfl) d12_day_50 ?_
    refine ev_aload_n (j := 0) (i := 0) (q := 0) rfl rfl d12_day_53 ?_
    obtain ⟨b22, e23, hf⟩ := lt_some hf
    obtain ⟨h24, hf⟩ := gd_some hf
    refine ev_getRb cls12 (j := 54) (by decide) rfl w1305 (mono_ob q21.1 (mono_ob (mono_eI e17) (mono_ob q14.1 (mono_ob (mono_eI e10) (mono_ob q8.1 (mono_ob (mono_eI e3) h1)))))) e23 (nz_ne h24) d12_day_54 ?_
    refine ev_iconst ci_0 d12_day_57 ?_
    refine ev_bipush cb_30 d12_day_58 ?_
    refine ev_aload_n (j := 0) (i := 0) (q := 0) rfl rfl d12_day_60 ?_
    obtain ⟨b25, e26, hf⟩ := lt_some hf
    obtain ⟨h27, hf⟩ := gd_some hf
    refine ev_getRb cls12 (j := 53) (by decide) rfl w1304 (mono_ob q21.1 (mono_ob (mono_eI e17) (mono_ob q14.1 (mono_ob (mono_eI e10) (mono_ob q8.1 (mono_ob (mono_eI e3) h1)))))) e26 (nz_ne h27) d12_day_61 ?_
    refine ev_iconst ci_0 d12_day_64 ?_
    obtain ⟨h28, hf⟩ := gd_some hf
    obtain ⟨h29, hf⟩ := gd_some hf
    refine ev_iald h28 h29 d12_day_65 ?_
    refine ev_imul d12_day_66 ?_
    obtain ⟨h30, hf⟩ := gd_some hf
    obtain ⟨h31, hf⟩ := gd_some hf
    obtain ⟨t32, e33, hf⟩ := lt_some hf
    refine ev_iast h30 h31 d12_day_67 (ev_nmS e33 ?_)
    refine ev_aload_n (j := 0) (i := 0) (q := 0) rfl rfl d12_day_68 ?_
    refine ev_getRb cls12 (j := 54) (by decide) rfl w1305 (mono_ob (mono_eI e33) (mono_ob q21.1 (mono_ob (mono_eI e17) (mono_ob q14.1 (mono_ob (mono_eI e10) (mono_ob q8.1 (mono_ob (mono_eI e3) h1))))))) (tr_I e33 e23) (nz_ne h24) d12_day_69 ?_
    refine ev_iconst ci_1 d12_day_72 ?_
    refine ev_bipush cb_30 d12_day_73 ?_
    refine ev_aload_n (j := 0) (i := 0) (q := 0) rfl rfl d12_day_75 ?_
    refine ev_getRb cls12 (j := 53) (by decide) rfl w1304 (mono_ob (mono_eI e33) (mono_ob q21.1 (mono_ob (mono_eI e17) (mono_ob q14.1 (mono_ob (mono_eI e10) (mono_ob q8.1 (mono_ob (mono_eI e3) h1))))))) (tr_I e33 e26) (nz_ne h27) d12_day_76 ?_
    refine ev_iconst ci_1 d12_day_79 ?_
    obtain ⟨h34, hf⟩ := gd_some hf
    refine ev_iald (mono_ob (mono_eI e33) h28) h34 d12_day_80 ?_
    refine ev_imul d12_day_81 ?_
    obtain ⟨h35, hf⟩ := gd_some hf
    obtain ⟨t36, e37, hf⟩ := lt_some hf
    refine ev_iast (mono_ob (mono_eI e33) h30) h35 d12_day_82 (ev_nmS e37 ?_)
    refine ev_iconst ci_0 d12_day_83 ?_
    refine ev_istore_n (lv2 := [(1, .int (0 : Int32)), (0, .ref v0)]) (j := 1) (i := 1) rfl (by decide) rfl d12_day_84 ?_
    exact Ev.sub [1, 0] rfl (s12_day_p85 FU _ _ _ _ _ hf)
abbrev m12_isIn : MD := ("MillBoatsModel", ⟨"MillBoatsModel", "isIn", "(I)Z"⟩, prog_14_method_91_code, 2, (some Jvm.ClassFile.FieldType.boolean))
theorem k12_isIn : okY m12_isIn.2.1 1 := ⟨by decide +kernel, by decide +kernel, by decide +kernel⟩
def f12_isIn (σ : St) (v0 : Nat) (v1 : Int32) : Option (Int32 × St) :=
  gd (ob σ v0 12) (
  (if (((sI σ v0 62) >>> (v1 &&& 31)) &&& (1 : Int32)) = (1 : Int32) then
  some ((1 : Int32), σ)
  else
  some ((0 : Int32), σ)))
set_option maxRecDepth 50000 in
theorem s12_isIn : ∀ (σ : St) (v0 : Nat) (v1 : Int32) (r : Int32) (τ : St), f12_isIn σ v0 v1 = some (r, τ) → Call 2 m12_isIn [.ref v0, .int v1] σ (some (.int r)) τ := by
  intro σ v0 v1 r τ hf
  unfold f12_isIn at hf
  refine Call.of (by decide +kernel) rfl (Nat.le_of_ble_eq_true rfl) ?_
  refine ev_aload_n (j := 0) (i := 0) (q := 0) rfl rfl d12_isIn_0 ?_
  obtain ⟨h1, hf⟩ := gd_some hf
  refine ev_getI cls12 (j := 62) (by decide) rfl w1313 h1 d12_isIn_1 ?_
  refine ev_iload_n (j := 1) (i := 1) (q := 1) rfl rfl d12_isIn_4 ?_
  refine ev_ishr d12_isIn_5 ?_
  refine ev_iconst ci_1 d12_isIn_6 ?_
  refine ev_iand d12_isIn_7 ?_
  refine ev_iconst ci_1 d12_isIn_8 ?_
  rcases ite_some hf with ⟨c2, hf⟩ | ⟨c2, hf⟩
  · refine ev_icmp_ne_P (tgt := 16) c2 (by decide) d12_isIn_9 ?_
    refine ev_iconst ci_1 d12_isIn_12 ?_
    refine ev_goto (tgt := 17) (by decide) d12_isIn_13 ?_
    obtain ⟨rfl, rfl⟩ := ret_some hf
    exact ev_zret rfl (by decide) d12_isIn_17
  · refine ev_icmp_ne_Q (tgt := 16) c2 (by decide) d12_isIn_9 ?_
    refine ev_iconst ci_0 d12_isIn_16 ?_
    obtain ⟨rfl, rfl⟩ := ret_some hf
    exact ev_zret rfl (by decide) d12_isIn_17
