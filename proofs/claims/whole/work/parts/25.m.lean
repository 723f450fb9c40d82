theorem d8_isOpen_0 : decode prog_10_method_14_code 0 = .ok (.iconst 0, 1) := by decide +kernel
theorem d8_isOpen_1 : decode prog_10_method_14_code 1 = .ok (.istore 5, 2) := by decide +kernel
theorem d8_isOpen_3 : decode prog_10_method_14_code 3 = .ok (.iconst 0, 1) := by decide +kernel
theorem d8_isOpen_4 : decode prog_10_method_14_code 4 = .ok (.istore 6, 2) := by decide +kernel
theorem d8_isOpen_6 : decode prog_10_method_14_code 6 = .ok (.iload 6, 2) := by decide +kernel
theorem d8_isOpen_8 : decode prog_10_method_14_code 8 = .ok (.bipush 6, 2) := by decide +kernel
theorem d8_isOpen_10 : decode prog_10_method_14_code 10 = .ok (.if_icmp .ge 69, 3) := by decide +kernel
theorem d8_isOpen_13 : decode prog_10_method_14_code 13 = .ok (.iload 5, 2) := by decide +kernel
theorem d8_isOpen_15 : decode prog_10_method_14_code 15 = .ok (.iload_n 2, 1) := by decide +kernel
theorem d8_isOpen_16 : decode prog_10_method_14_code 16 = .ok (.if_icmp .ge 63, 3) := by decide +kernel
theorem d8_isOpen_19 : decode prog_10_method_14_code 19 = .ok (.iload 6, 2) := by decide +kernel
theorem d8_isOpen_21 : decode prog_10_method_14_code 21 = .ok (.bipush 12, 2) := by decide +kernel
theorem d8_isOpen_23 : decode prog_10_method_14_code 23 = .ok (.imul, 1) := by decide +kernel
theorem d8_isOpen_24 : decode prog_10_method_14_code 24 = .ok (.iload_n 1, 1) := by decide +kernel
theorem d8_isOpen_25 : decode prog_10_method_14_code 25 = .ok (.iadd, 1) := by decide +kernel
theorem d8_isOpen_26 : decode prog_10_method_14_code 26 = .ok (.istore 7, 2) := by decide +kernel
theorem d8_isOpen_28 : decode prog_10_method_14_code 28 = .ok (.aload_n 0, 1) := by decide +kernel
theorem d8_isOpen_29 : decode prog_10_method_14_code 29 = .ok (.iload 7, 2) := by decide +kernel
theorem d8_isOpen_31 : decode prog_10_method_14_code 31 = .ok (.iload 4, 2) := by decide +kernel
theorem d8_isOpen_33 : decode prog_10_method_14_code 33 = .ok (.invokevirtual 58, 3) := by decide +kernel
theorem d8_isOpen_36 : decode prog_10_method_14_code 36 = .ok (.iconst 2, 1) := by decide +kernel
theorem d8_isOpen_37 : decode prog_10_method_14_code 37 = .ok (.if_icmp .lt 18, 3) := by decide +kernel
theorem d8_isOpen_40 : decode prog_10_method_14_code 40 = .ok (.aload_n 0, 1) := by decide +kernel
theorem d8_isOpen_41 : decode prog_10_method_14_code 41 = .ok (.iload 7, 2) := by decide +kernel
theorem d8_isOpen_43 : decode prog_10_method_14_code 43 = .ok (.aload_n 3, 1) := by decide +kernel
theorem d8_isOpen_44 : decode prog_10_method_14_code 44 = .ok (.invokevirtual 105, 3) := by decide +kernel
theorem d8_isOpen_47 : decode prog_10_method_14_code 47 = .ok (.iconst (-1), 1) := by decide +kernel
theorem d8_isOpen_48 : decode prog_10_method_14_code 48 = .ok (.if_icmp .ne 7, 3) := by decide +kernel
theorem d8_isOpen_51 : decode prog_10_method_14_code 51 = .ok (.iconst 1, 1) := by decide +kernel
theorem d8_isOpen_52 : decode prog_10_method_14_code 52 = .ok (.goto 4, 3) := by decide +kernel
theorem d8_isOpen_55 : decode prog_10_method_14_code 55 = .ok (.iconst 0, 1) := by decide +kernel
theorem d8_isOpen_56 : decode prog_10_method_14_code 56 = .ok (.istore 8, 2) := by decide +kernel
theorem d8_isOpen_58 : decode prog_10_method_14_code 58 = .ok (.iload 8, 2) := by decide +kernel
theorem d8_isOpen_60 : decode prog_10_method_14_code 60 = .ok (.ifCond .eq 10, 3) := by decide +kernel
theorem d8_isOpen_63 : decode prog_10_method_14_code 63 = .ok (.iload 5, 2) := by decide +kernel
theorem d8_isOpen_65 : decode prog_10_method_14_code 65 = .ok (.iconst 1, 1) := by decide +kernel
theorem d8_isOpen_66 : decode prog_10_method_14_code 66 = .ok (.iadd, 1) := by decide +kernel
theorem d8_isOpen_67 : decode prog_10_method_14_code 67 = .ok (.goto 4, 3) := by decide +kernel
theorem d8_isOpen_70 : decode prog_10_method_14_code 70 = .ok (.iconst 0, 1) := by decide +kernel
theorem d8_isOpen_71 : decode prog_10_method_14_code 71 = .ok (.istore 5, 2) := by decide +kernel
theorem d8_isOpen_73 : decode prog_10_method_14_code 73 = .ok (.iinc 6 1, 3) := by decide +kernel
theorem d8_isOpen_76 : decode prog_10_method_14_code 76 = .ok (.goto (-70), 3) := by decide +kernel
theorem d8_isOpen_79 : decode prog_10_method_14_code 79 = .ok (.iload 5, 2) := by decide +kernel
theorem d8_isOpen_81 : decode prog_10_method_14_code 81 = .ok (.iload_n 2, 1) := by decide +kernel
theorem d8_isOpen_82 : decode prog_10_method_14_code 82 = .ok (.if_icmp .lt 7, 3) := by decide +kernel
theorem d8_isOpen_85 : decode prog_10_method_14_code 85 = .ok (.iconst 1, 1) := by decide +kernel
theorem d8_isOpen_86 : decode prog_10_method_14_code 86 = .ok (.goto 4, 3) := by decide +kernel
theorem d8_isOpen_89 : decode prog_10_method_14_code 89 = .ok (.iconst 0, 1) := by decide +kernel
theorem d8_isOpen_90 : decode prog_10_method_14_code 90 = .ok (.ireturn, 1) := by decide +kernel
theorem d6_weigh_0 : decode prog_8_method_10_code 0 = .ok (.iconst 0, 1) := by decide +kernel
theorem d6_weigh_1 : decode prog_8_method_10_code 1 = .ok (.istore_n 1, 1) := by decide +kernel
theorem d6_weigh_2 : decode prog_8_method_10_code 2 = .ok (.iload_n 1, 1) := by decide +kernel
theorem d6_weigh_3 : decode prog_8_method_10_code 3 = .ok (.aload_n 0, 1) := by decide +kernel
theorem d6_weigh_4 : decode prog_8_method_10_code 4 = .ok (.getfield 91, 3) := by decide +kernel
theorem d6_weigh_7 : decode prog_8_method_10_code 7 = .ok (.if_icmp .ge 52, 3) := by decide +kernel
theorem d6_weigh_10 : decode prog_8_method_10_code 10 = .ok (.aload_n 0, 1) := by decide +kernel
theorem d6_weigh_11 : decode prog_8_method_10_code 11 = .ok (.getfield 15, 3) := by decide +kernel
theorem d6_weigh_14 : decode prog_8_method_10_code 14 = .ok (.iload_n 1, 1) := by decide +kernel
theorem d6_weigh_15 : decode prog_8_method_10_code 15 = .ok (.iaload, 1) := by decide +kernel
theorem d6_weigh_16 : decode prog_8_method_10_code 16 = .ok (.istore_n 2, 1) := by decide +kernel
theorem d6_weigh_17 : decode prog_8_method_10_code 17 = .ok (.aload_n 0, 1) := by decide +kernel
theorem d6_weigh_18 : decode prog_8_method_10_code 18 = .ok (.getfield 41, 3) := by decide +kernel
theorem d6_weigh_21 : decode prog_8_method_10_code 21 = .ok (.iload_n 2, 1) := by decide +kernel
theorem d6_weigh_22 : decode prog_8_method_10_code 22 = .ok (.aload_n 0, 1) := by decide +kernel
theorem d6_weigh_23 : decode prog_8_method_10_code 23 = .ok (.getfield 35, 3) := by decide +kernel
theorem d6_weigh_26 : decode prog_8_method_10_code 26 = .ok (.aload_n 0, 1) := by decide +kernel
theorem d6_weigh_27 : decode prog_8_method_10_code 27 = .ok (.getfield 65, 3) := by decide +kernel
theorem d6_weigh_30 : decode prog_8_method_10_code 30 = .ok (.aload_n 0, 1) := by decide +kernel
theorem d6_weigh_31 : decode prog_8_method_10_code 31 = .ok (.getfield 74, 3) := by decide +kernel
theorem d6_weigh_34 : decode prog_8_method_10_code 34 = .ok (.invokevirtual 152, 3) := by decide +kernel
theorem d6_weigh_37 : decode prog_8_method_10_code 37 = .ok (.aload_n 0, 1) := by decide +kernel
theorem d6_weigh_38 : decode prog_8_method_10_code 38 = .ok (.getfield 41, 3) := by decide +kernel
theorem d6_weigh_41 : decode prog_8_method_10_code 41 = .ok (.getfield 156, 3) := by decide +kernel
theorem d6_weigh_44 : decode prog_8_method_10_code 44 = .ok (.iload_n 2, 1) := by decide +kernel
theorem d6_weigh_45 : decode prog_8_method_10_code 45 = .ok (.aaload, 1) := by decide +kernel
theorem d6_weigh_46 : decode prog_8_method_10_code 46 = .ok (.getfield 160, 3) := by decide +kernel
theorem d6_weigh_49 : decode prog_8_method_10_code 49 = .ok (.if_icmp .le 4, 3) := by decide +kernel
theorem d6_weigh_52 : decode prog_8_method_10_code 52 = .ok (.return_, 1) := by decide +kernel
theorem d6_weigh_53 : decode prog_8_method_10_code 53 = .ok (.iinc 1 1, 3) := by decide +kernel
theorem d6_weigh_56 : decode prog_8_method_10_code 56 = .ok (.goto (-54), 3) := by decide +kernel
theorem d6_weigh_59 : decode prog_8_method_10_code 59 = .ok (.iconst 0, 1) := by decide +kernel
theorem d6_weigh_60 : decode prog_8_method_10_code 60 = .ok (.istore_n 1, 1) := by decide +kernel
theorem d6_weigh_61 : decode prog_8_method_10_code 61 = .ok (.iconst 0, 1) := by decide +kernel
theorem d6_weigh_62 : decode prog_8_method_10_code 62 = .ok (.istore_n 2, 1) := by decide +kernel
theorem d6_weigh_63 : decode prog_8_method_10_code 63 = .ok (.iload_n 2, 1) := by decide +kernel
theorem d6_weigh_64 : decode prog_8_method_10_code 64 = .ok (.aload_n 0, 1) := by decide +kernel
theorem d6_weigh_65 : decode prog_8_method_10_code 65 = .ok (.getfield 41, 3) := by decide +kernel
theorem d6_weigh_68 : decode prog_8_method_10_code 68 = .ok (.getfield 141, 3) := by decide +kernel
theorem d6_weigh_71 : decode prog_8_method_10_code 71 = .ok (.if_icmp .ge 28, 3) := by decide +kernel
theorem d6_weigh_74 : decode prog_8_method_10_code 74 = .ok (.iload_n 1, 1) := by decide +kernel
theorem d6_weigh_75 : decode prog_8_method_10_code 75 = .ok (.aload_n 0, 1) := by decide +kernel
theorem d6_weigh_76 : decode prog_8_method_10_code 76 = .ok (.getfield 41, 3) := by decide +kernel
theorem d6_weigh_79 : decode prog_8_method_10_code 79 = .ok (.iload_n 2, 1) := by decide +kernel
theorem d6_weigh_80 : decode prog_8_method_10_code 80 = .ok (.aload_n 0, 1) := by decide +kernel
theorem d6_weigh_81 : decode prog_8_method_10_code 81 = .ok (.getfield 35, 3) := by decide +kernel
theorem d6_weigh_84 : decode prog_8_method_10_code 84 = .ok (.aload_n 0, 1) := by decide +kernel
theorem d6_weigh_85 : decode prog_8_method_10_code 85 = .ok (.getfield 65, 3) := by decide +kernel
theorem d6_weigh_88 : decode prog_8_method_10_code 88 = .ok (.invokevirtual 165, 3) := by decide +kernel
theorem d6_weigh_91 : decode prog_8_method_10_code 91 = .ok (.iadd, 1) := by decide +kernel
theorem d6_weigh_92 : decode prog_8_method_10_code 92 = .ok (.istore_n 1, 1) := by decide +kernel
theorem d6_weigh_93 : decode prog_8_method_10_code 93 = .ok (.iinc 2 1, 3) := by decide +kernel
theorem d6_weigh_96 : decode prog_8_method_10_code 96 = .ok (.goto (-33), 3) := by decide +kernel
theorem d6_weigh_99 : decode prog_8_method_10_code 99 = .ok (.iload_n 1, 1) := by decide +kernel
theorem d6_weigh_100 : decode prog_8_method_10_code 100 = .ok (.aload_n 0, 1) := by decide +kernel
theorem d6_weigh_101 : decode prog_8_method_10_code 101 = .ok (.getfield 101, 3) := by decide +kernel
theorem d6_weigh_104 : decode prog_8_method_10_code 104 = .ok (.if_icmp .le 23, 3) := by decide +kernel
theorem d6_weigh_107 : decode prog_8_method_10_code 107 = .ok (.aload_n 0, 1) := by decide +kernel
theorem d6_weigh_108 : decode prog_8_method_10_code 108 = .ok (.iload_n 1, 1) := by decide +kernel
theorem d6_weigh_109 : decode prog_8_method_10_code 109 = .ok (.putfield 101, 3) := by decide +kernel
theorem d6_weigh_112 : decode prog_8_method_10_code 112 = .ok (.aload_n 0, 1) := by decide +kernel
theorem d6_weigh_113 : decode prog_8_method_10_code 113 = .ok (.getfield 35, 3) := by decide +kernel
theorem d6_weigh_116 : decode prog_8_method_10_code 116 = .ok (.iconst 0, 1) := by decide +kernel
theorem d6_weigh_117 : decode prog_8_method_10_code 117 = .ok (.aload_n 0, 1) := by decide +kernel
theorem d6_weigh_118 : decode prog_8_method_10_code 118 = .ok (.getfield 38, 3) := by decide +kernel
theorem d6_weigh_121 : decode prog_8_method_10_code 121 = .ok (.iconst 0, 1) := by decide +kernel
theorem d6_weigh_122 : decode prog_8_method_10_code 122 = .ok (.bipush 6, 2) := by decide +kernel
theorem d6_weigh_124 : decode prog_8_method_10_code 124 = .ok (.invokestatic 107, 3) := by decide +kernel
theorem d6_weigh_127 : decode prog_8_method_10_code 127 = .ok (.return_, 1) := by decide +kernel
theorem d6_tryBerth_0 : decode prog_8_method_9_code 0 = .ok (.iload_n 2, 1) := by decide +kernel
theorem d6_tryBerth_1 : decode prog_8_method_9_code 1 = .ok (.iconst (-1), 1) := by decide +kernel
theorem d6_tryBerth_2 : decode prog_8_method_9_code 2 = .ok (.if_icmp .eq 20, 3) := by decide +kernel
theorem d6_tryBerth_5 : decode prog_8_method_9_code 5 = .ok (.aload_n 0, 1) := by decide +kernel
theorem d6_tryBerth_6 : decode prog_8_method_9_code 6 = .ok (.getfield 41, 3) := by decide +kernel
theorem d6_tryBerth_9 : decode prog_8_method_9_code 9 = .ok (.iload_n 2, 1) := by decide +kernel
theorem d6_tryBerth_10 : decode prog_8_method_9_code 10 = .ok (.aload_n 0, 1) := by decide +kernel
theorem d6_tryBerth_11 : decode prog_8_method_9_code 11 = .ok (.getfield 35, 3) := by decide +kernel
theorem d6_tryBerth_14 : decode prog_8_method_9_code 14 = .ok (.invokevirtual 116, 3) := by decide +kernel
theorem d6_tryBerth_17 : decode prog_8_method_9_code 17 = .ok (.iconst (-1), 1) := by decide +kernel
theorem d6_tryBerth_18 : decode prog_8_method_9_code 18 = .ok (.if_icmp .eq 4, 3) := by decide +kernel
theorem d6_tryBerth_21 : decode prog_8_method_9_code 21 = .ok (.return_, 1) := by decide +kernel
theorem d6_tryBerth_22 : decode prog_8_method_9_code 22 = .ok (.aload_n 0, 1) := by decide +kernel
theorem d6_tryBerth_23 : decode prog_8_method_9_code 23 = .ok (.getfield 15, 3) := by decide +kernel
theorem d6_tryBerth_26 : decode prog_8_method_9_code 26 = .ok (.iload_n 1, 1) := by decide +kernel
theorem d6_tryBerth_27 : decode prog_8_method_9_code 27 = .ok (.iaload, 1) := by decide +kernel
theorem d6_tryBerth_28 : decode prog_8_method_9_code 28 = .ok (.istore_n 3, 1) := by decide +kernel
theorem d6_tryBerth_29 : decode prog_8_method_9_code 29 = .ok (.aload_n 0, 1) := by decide +kernel
theorem d6_tryBerth_30 : decode prog_8_method_9_code 30 = .ok (.getfield 35, 3) := by decide +kernel
theorem d6_tryBerth_33 : decode prog_8_method_9_code 33 = .ok (.iload_n 3, 1) := by decide +kernel
theorem d6_tryBerth_34 : decode prog_8_method_9_code 34 = .ok (.iload_n 2, 1) := by decide +kernel
theorem d6_tryBerth_35 : decode prog_8_method_9_code 35 = .ok (.iastore, 1) := by decide +kernel
theorem d6_tryBerth_36 : decode prog_8_method_9_code 36 = .ok (.iload_n 2, 1) := by decide +kernel
theorem d6_tryBerth_37 : decode prog_8_method_9_code 37 = .ok (.iconst (-1), 1) := by decide +kernel
theorem d6_tryBerth_38 : decode prog_8_method_9_code 38 = .ok (.if_icmp .eq 34, 3) := by decide +kernel
theorem d6_tryBerth_41 : decode prog_8_method_9_code 41 = .ok (.aload_n 0, 1) := by decide +kernel
theorem d6_tryBerth_42 : decode prog_8_method_9_code 42 = .ok (.getfield 41, 3) := by decide +kernel
theorem d6_tryBerth_45 : decode prog_8_method_9_code 45 = .ok (.iload_n 2, 1) := by decide +kernel
theorem d6_tryBerth_46 : decode prog_8_method_9_code 46 = .ok (.invokestatic 148, 3) := by decide +kernel
theorem d6_tryBerth_49 : decode prog_8_method_9_code 49 = .ok (.aload_n 0, 1) := by decide +kernel
theorem d6_tryBerth_50 : decode prog_8_method_9_code 50 = .ok (.getfield 32, 3) := by decide +kernel
theorem d6_tryBerth_53 : decode prog_8_method_9_code 53 = .ok (.iload_n 2, 1) := by decide +kernel
theorem d6_tryBerth_54 : decode prog_8_method_9_code 54 = .ok (.invokestatic 148, 3) := by decide +kernel
theorem d6_tryBerth_57 : decode prog_8_method_9_code 57 = .ok (.iaload, 1) := by decide +kernel
theorem d6_tryBerth_58 : decode prog_8_method_9_code 58 = .ok (.aload_n 0, 1) := by decide +kernel
theorem d6_tryBerth_59 : decode prog_8_method_9_code 59 = .ok (.getfield 35, 3) := by decide +kernel
theorem d6_tryBerth_62 : decode prog_8_method_9_code 62 = .ok (.aload_n 0, 1) := by decide +kernel
theorem d6_tryBerth_63 : decode prog_8_method_9_code 63 = .ok (.getfield 65, 3) := by decide +kernel
theorem d6_tryBerth_66 : decode prog_8_method_9_code 66 = .ok (.invokevirtual 85, 3) := by decide +kernel
theorem d6_tryBerth_69 : decode prog_8_method_9_code 69 = .ok (.ifCond .eq 10, 3) := by decide +kernel
theorem d6_tryBerth_72 : decode prog_8_method_9_code 72 = .ok (.aload_n 0, 1) := by decide +kernel
theorem d6_tryBerth_73 : decode prog_8_method_9_code 73 = .ok (.iload_n 1, 1) := by decide +kernel
theorem d6_tryBerth_74 : decode prog_8_method_9_code 74 = .ok (.iconst 1, 1) := by decide +kernel
theorem d6_tryBerth_75 : decode prog_8_method_9_code 75 = .ok (.iadd, 1) := by decide +kernel
theorem d6_tryBerth_76 : decode prog_8_method_9_code 76 = .ok (.invokevirtual 104, 3) := by decide +kernel
theorem d6_tryBerth_79 : decode prog_8_method_9_code 79 = .ok (.aload_n 0, 1) := by decide +kernel
theorem d6_tryBerth_80 : decode prog_8_method_9_code 80 = .ok (.getfield 35, 3) := by decide +kernel
theorem d6_tryBerth_83 : decode prog_8_method_9_code 83 = .ok (.iload_n 3, 1) := by decide +kernel
theorem d6_tryBerth_84 : decode prog_8_method_9_code 84 = .ok (.iconst (-1), 1) := by decide +kernel
theorem d6_tryBerth_85 : decode prog_8_method_9_code 85 = .ok (.iastore, 1) := by decide +kernel
theorem d6_tryBerth_86 : decode prog_8_method_9_code 86 = .ok (.return_, 1) := by decide +kernel
theorem d6_tryMill_0 : decode prog_8_method_8_code 0 = .ok (.iload_n 1, 1) := by decide +kernel
theorem d6_tryMill_1 : decode prog_8_method_8_code 1 = .ok (.aload_n 0, 1) := by decide +kernel
theorem d6_tryMill_2 : decode prog_8_method_8_code 2 = .ok (.getfield 91, 3) := by decide +kernel
theorem d6_tryMill_5 : decode prog_8_method_8_code 5 = .ok (.if_icmp .ge 8, 3) := by decide +kernel
theorem d6_tryMill_8 : decode prog_8_method_8_code 8 = .ok (.iload_n 1, 1) := by decide +kernel
theorem d6_tryMill_9 : decode prog_8_method_8_code 9 = .ok (.iconst 3, 1) := by decide +kernel
theorem d6_tryMill_10 : decode prog_8_method_8_code 10 = .ok (.if_icmp .lt 8, 3) := by decide +kernel
theorem d6_tryMill_13 : decode prog_8_method_8_code 13 = .ok (.aload_n 0, 1) := by decide +kernel
theorem d6_tryMill_14 : decode prog_8_method_8_code 14 = .ok (.invokevirtual 138, 3) := by decide +kernel
theorem d6_tryMill_17 : decode prog_8_method_8_code 17 = .ok (.return_, 1) := by decide +kernel
theorem d6_tryMill_18 : decode prog_8_method_8_code 18 = .ok (.aload_n 0, 1) := by decide +kernel
theorem d6_tryMill_19 : decode prog_8_method_8_code 19 = .ok (.getfield 29, 3) := by decide +kernel
theorem d6_tryMill_22 : decode prog_8_method_8_code 22 = .ok (.iload_n 1, 1) := by decide +kernel
theorem d6_tryMill_23 : decode prog_8_method_8_code 23 = .ok (.iconst 1, 1) := by decide +kernel
theorem d6_tryMill_24 : decode prog_8_method_8_code 24 = .ok (.iadd, 1) := by decide +kernel
theorem d6_tryMill_25 : decode prog_8_method_8_code 25 = .ok (.iaload, 1) := by decide +kernel
theorem d6_tryMill_26 : decode prog_8_method_8_code 26 = .ok (.istore_n 2, 1) := by decide +kernel
theorem d6_tryMill_27 : decode prog_8_method_8_code 27 = .ok (.iconst 0, 1) := by decide +kernel
theorem d6_tryMill_28 : decode prog_8_method_8_code 28 = .ok (.istore_n 3, 1) := by decide +kernel
theorem d6_tryMill_29 : decode prog_8_method_8_code 29 = .ok (.iload_n 3, 1) := by decide +kernel
theorem d6_tryMill_30 : decode prog_8_method_8_code 30 = .ok (.aload_n 0, 1) := by decide +kernel
theorem d6_tryMill_31 : decode prog_8_method_8_code 31 = .ok (.getfield 41, 3) := by decide +kernel
theorem d6_tryMill_34 : decode prog_8_method_8_code 34 = .ok (.getfield 141, 3) := by decide +kernel
theorem d6_tryMill_37 : decode prog_8_method_8_code 37 = .ok (.if_icmp .ge 28, 3) := by decide +kernel
theorem d6_tryMill_40 : decode prog_8_method_8_code 40 = .ok (.iload_n 2, 1) := by decide +kernel
theorem d6_tryMill_41 : decode prog_8_method_8_code 41 = .ok (.aload_n 0, 1) := by decide +kernel
theorem d6_tryMill_42 : decode prog_8_method_8_code 42 = .ok (.getfield 41, 3) := by decide +kernel
theorem d6_tryMill_45 : decode prog_8_method_8_code 45 = .ok (.iload_n 3, 1) := by decide +kernel
theorem d6_tryMill_46 : decode prog_8_method_8_code 46 = .ok (.aload_n 0, 1) := by decide +kernel
theorem d6_tryMill_47 : decode prog_8_method_8_code 47 = .ok (.getfield 35, 3) := by decide +kernel
theorem d6_tryMill_50 : decode prog_8_method_8_code 50 = .ok (.aload_n 0, 1) := by decide +kernel
theorem d6_tryMill_51 : decode prog_8_method_8_code 51 = .ok (.getfield 65, 3) := by decide +kernel
theorem d6_tryMill_54 : decode prog_8_method_8_code 54 = .ok (.invokevirtual 128, 3) := by decide +kernel
theorem d6_tryMill_57 : decode prog_8_method_8_code 57 = .ok (.iadd, 1) := by decide +kernel
theorem d6_tryMill_58 : decode prog_8_method_8_code 58 = .ok (.istore_n 2, 1) := by decide +kernel
theorem d6_tryMill_59 : decode prog_8_method_8_code 59 = .ok (.iinc 3 1, 3) := by decide +kernel
theorem d6_tryMill_62 : decode prog_8_method_8_code 62 = .ok (.goto (-33), 3) := by decide +kernel
theorem d6_tryMill_65 : decode prog_8_method_8_code 65 = .ok (.iconst 0, 1) := by decide +kernel
theorem d6_tryMill_66 : decode prog_8_method_8_code 66 = .ok (.istore_n 3, 1) := by decide +kernel
theorem d6_tryMill_67 : decode prog_8_method_8_code 67 = .ok (.iload_n 3, 1) := by decide +kernel
theorem d6_tryMill_68 : decode prog_8_method_8_code 68 = .ok (.aload_n 0, 1) := by decide +kernel
theorem d6_tryMill_69 : decode prog_8_method_8_code 69 = .ok (.getfield 23, 3) := by decide +kernel
theorem d6_tryMill_72 : decode prog_8_method_8_code 72 = .ok (.iload_n 1, 1) := by decide +kernel
theorem d6_tryMill_73 : decode prog_8_method_8_code 73 = .ok (.iaload, 1) := by decide +kernel
theorem d6_tryMill_74 : decode prog_8_method_8_code 74 = .ok (.if_icmp .ge 39, 3) := by decide +kernel
theorem d6_tryMill_77 : decode prog_8_method_8_code 77 = .ok (.iload_n 2, 1) := by decide +kernel
theorem d6_tryMill_78 : decode prog_8_method_8_code 78 = .ok (.aload_n 0, 1) := by decide +kernel
theorem d6_tryMill_79 : decode prog_8_method_8_code 79 = .ok (.getfield 26, 3) := by decide +kernel
theorem d6_tryMill_82 : decode prog_8_method_8_code 82 = .ok (.iload_n 1, 1) := by decide +kernel
theorem d6_tryMill_83 : decode prog_8_method_8_code 83 = .ok (.aaload, 1) := by decide +kernel
theorem d6_tryMill_84 : decode prog_8_method_8_code 84 = .ok (.iload_n 3, 1) := by decide +kernel
theorem d6_tryMill_85 : decode prog_8_method_8_code 85 = .ok (.iaload, 1) := by decide +kernel
theorem d6_tryMill_86 : decode prog_8_method_8_code 86 = .ok (.iadd, 1) := by decide +kernel
theorem d6_tryMill_87 : decode prog_8_method_8_code 87 = .ok (.aload_n 0, 1) := by decide +kernel
theorem d6_tryMill_88 : decode prog_8_method_8_code 88 = .ok (.getfield 101, 3) := by decide +kernel
theorem d6_tryMill_91 : decode prog_8_method_8_code 91 = .ok (.if_icmp .le 16, 3) := by decide +kernel
theorem d6_tryMill_94 : decode prog_8_method_8_code 94 = .ok (.aload_n 0, 1) := by decide +kernel
theorem d6_tryMill_95 : decode prog_8_method_8_code 95 = .ok (.iload_n 1, 1) := by decide +kernel
theorem d6_tryMill_96 : decode prog_8_method_8_code 96 = .ok (.aload_n 0, 1) := by decide +kernel
theorem d6_tryMill_97 : decode prog_8_method_8_code 97 = .ok (.getfield 20, 3) := by decide +kernel
theorem d6_tryMill_100 : decode prog_8_method_8_code 100 = .ok (.iload_n 1, 1) := by decide +kernel
theorem d6_tryMill_101 : decode prog_8_method_8_code 101 = .ok (.aaload, 1) := by decide +kernel
theorem d6_tryMill_102 : decode prog_8_method_8_code 102 = .ok (.iload_n 3, 1) := by decide +kernel
theorem d6_tryMill_103 : decode prog_8_method_8_code 103 = .ok (.iaload, 1) := by decide +kernel
theorem d6_tryMill_104 : decode prog_8_method_8_code 104 = .ok (.invokevirtual 144, 3) := by decide +kernel
theorem d6_tryMill_107 : decode prog_8_method_8_code 107 = .ok (.iinc 3 1, 3) := by decide +kernel
theorem d6_tryMill_110 : decode prog_8_method_8_code 110 = .ok (.goto (-43), 3) := by decide +kernel
theorem d6_tryMill_113 : decode prog_8_method_8_code 113 = .ok (.return_, 1) := by decide +kernel
theorem d6_search_0 : decode prog_8_method_4_code 0 = .ok (.aload_n 0, 1) := by decide +kernel
theorem d6_search_1 : decode prog_8_method_4_code 1 = .ok (.aload_n 0, 1) := by decide +kernel
theorem d6_search_2 : decode prog_8_method_4_code 2 = .ok (.getfield 45, 3) := by decide +kernel
theorem d6_search_5 : decode prog_8_method_4_code 5 = .ok (.getfield 53, 3) := by decide +kernel
theorem d6_search_8 : decode prog_8_method_4_code 8 = .ok (.iload_n 1, 1) := by decide +kernel
theorem d6_search_9 : decode prog_8_method_4_code 9 = .ok (.iload_n 2, 1) := by decide +kernel
theorem d6_search_10 : decode prog_8_method_4_code 10 = .ok (.iconst 5, 1) := by decide +kernel
theorem d6_search_11 : decode prog_8_method_4_code 11 = .ok (.invokevirtual 59, 3) := by decide +kernel
theorem d6_search_14 : decode prog_8_method_4_code 14 = .ok (.putfield 65, 3) := by decide +kernel
theorem d6_search_17 : decode prog_8_method_4_code 17 = .ok (.aload_n 0, 1) := by decide +kernel
theorem d6_search_18 : decode prog_8_method_4_code 18 = .ok (.aload_n 0, 1) := by decide +kernel
theorem d6_search_19 : decode prog_8_method_4_code 19 = .ok (.getfield 45, 3) := by decide +kernel
theorem d6_search_22 : decode prog_8_method_4_code 22 = .ok (.getfield 68, 3) := by decide +kernel
theorem d6_search_25 : decode prog_8_method_4_code 25 = .ok (.iload_n 1, 1) := by decide +kernel
theorem d6_search_26 : decode prog_8_method_4_code 26 = .ok (.iload_n 2, 1) := by decide +kernel
theorem d6_search_27 : decode prog_8_method_4_code 27 = .ok (.iconst 0, 1) := by decide +kernel
theorem d6_search_28 : decode prog_8_method_4_code 28 = .ok (.invokevirtual 71, 3) := by decide +kernel
theorem d6_search_31 : decode prog_8_method_4_code 31 = .ok (.iconst 1, 1) := by decide +kernel
theorem d6_search_32 : decode prog_8_method_4_code 32 = .ok (.if_icmp .ne 7, 3) := by decide +kernel
theorem d6_search_35 : decode prog_8_method_4_code 35 = .ok (.iconst 1, 1) := by decide +kernel
theorem d6_search_36 : decode prog_8_method_4_code 36 = .ok (.goto 4, 3) := by decide +kernel
theorem d6_search_39 : decode prog_8_method_4_code 39 = .ok (.iconst 0, 1) := by decide +kernel
theorem d6_search_40 : decode prog_8_method_4_code 40 = .ok (.putfield 74, 3) := by decide +kernel
theorem d6_search_43 : decode prog_8_method_4_code 43 = .ok (.aload_n 0, 1) := by decide +kernel
theorem d6_search_44 : decode prog_8_method_4_code 44 = .ok (.iload_n 3, 1) := by decide +kernel
theorem d6_search_45 : decode prog_8_method_4_code 45 = .ok (.invokevirtual 78, 3) := by decide +kernel
theorem d6_search_48 : decode prog_8_method_4_code 48 = .ok (.iconst 1, 1) := by decide +kernel
theorem d6_search_49 : decode prog_8_method_4_code 49 = .ok (.istore 6, 2) := by decide +kernel
theorem d6_search_51 : decode prog_8_method_4_code 51 = .ok (.iload 4, 2) := by decide +kernel
theorem d6_search_53 : decode prog_8_method_4_code 53 = .ok (.istore 7, 2) := by decide +kernel
theorem d6_search_55 : decode prog_8_method_4_code 55 = .ok (.iload 7, 2) := by decide +kernel
theorem d6_search_57 : decode prog_8_method_4_code 57 = .ok (.iload 5, 2) := by decide +kernel
theorem d6_search_59 : decode prog_8_method_4_code 59 = .ok (.if_icmp .gt 73, 3) := by decide +kernel
theorem d6_search_62 : decode prog_8_method_4_code 62 = .ok (.iload 7, 2) := by decide +kernel
theorem d6_search_64 : decode prog_8_method_4_code 64 = .ok (.bipush 12, 2) := by decide +kernel
theorem d6_search_66 : decode prog_8_method_4_code 66 = .ok (.if_icmp .ge 66, 3) := by decide +kernel
theorem d6_search_69 : decode prog_8_method_4_code 69 = .ok (.aload_n 0, 1) := by decide +kernel
theorem d6_search_70 : decode prog_8_method_4_code 70 = .ok (.getfield 32, 3) := by decide +kernel
theorem d6_search_73 : decode prog_8_method_4_code 73 = .ok (.iload 7, 2) := by decide +kernel
theorem d6_search_75 : decode prog_8_method_4_code 75 = .ok (.aload_n 0, 1) := by decide +kernel
theorem d6_search_76 : decode prog_8_method_4_code 76 = .ok (.getfield 45, 3) := by decide +kernel
theorem d6_search_79 : decode prog_8_method_4_code 79 = .ok (.iload 7, 2) := by decide +kernel
theorem d6_search_81 : decode prog_8_method_4_code 81 = .ok (.iload_n 1, 1) := by decide +kernel
theorem d6_search_82 : decode prog_8_method_4_code 82 = .ok (.iload_n 2, 1) := by decide +kernel
theorem d6_search_83 : decode prog_8_method_4_code 83 = .ok (.invokevirtual 82, 3) := by decide +kernel
theorem d6_search_86 : decode prog_8_method_4_code 86 = .ok (.iastore, 1) := by decide +kernel
theorem d6_search_87 : decode prog_8_method_4_code 87 = .ok (.iload 6, 2) := by decide +kernel
theorem d6_search_89 : decode prog_8_method_4_code 89 = .ok (.ifCond .eq 34, 3) := by decide +kernel
theorem d6_search_92 : decode prog_8_method_4_code 92 = .ok (.aload_n 0, 1) := by decide +kernel
theorem d6_search_93 : decode prog_8_method_4_code 93 = .ok (.getfield 41, 3) := by decide +kernel
theorem d6_search_96 : decode prog_8_method_4_code 96 = .ok (.iload 7, 2) := by decide +kernel
theorem d6_search_98 : decode prog_8_method_4_code 98 = .ok (.aload_n 0, 1) := by decide +kernel
theorem d6_search_99 : decode prog_8_method_4_code 99 = .ok (.getfield 32, 3) := by decide +kernel
theorem d6_search_102 : decode prog_8_method_4_code 102 = .ok (.iload 7, 2) := by decide +kernel
theorem d6_search_104 : decode prog_8_method_4_code 104 = .ok (.iaload, 1) := by decide +kernel
theorem d6_search_105 : decode prog_8_method_4_code 105 = .ok (.aload_n 0, 1) := by decide +kernel
theorem d6_search_106 : decode prog_8_method_4_code 106 = .ok (.getfield 35, 3) := by decide +kernel
theorem d6_search_109 : decode prog_8_method_4_code 109 = .ok (.aload_n 0, 1) := by decide +kernel
theorem d6_search_110 : decode prog_8_method_4_code 110 = .ok (.getfield 65, 3) := by decide +kernel
theorem d6_search_113 : decode prog_8_method_4_code 113 = .ok (.invokevirtual 85, 3) := by decide +kernel
theorem d6_search_116 : decode prog_8_method_4_code 116 = .ok (.ifCond .eq 7, 3) := by decide +kernel
theorem d6_search_119 : decode prog_8_method_4_code 119 = .ok (.iconst 1, 1) := by decide +kernel
theorem d6_search_120 : decode prog_8_method_4_code 120 = .ok (.goto 4, 3) := by decide +kernel
theorem d6_search_123 : decode prog_8_method_4_code 123 = .ok (.iconst 0, 1) := by decide +kernel
theorem d6_search_124 : decode prog_8_method_4_code 124 = .ok (.istore 6, 2) := by decide +kernel
theorem d6_search_126 : decode prog_8_method_4_code 126 = .ok (.iinc 7 1, 3) := by decide +kernel
theorem d6_search_129 : decode prog_8_method_4_code 129 = .ok (.goto (-74), 3) := by decide +kernel
theorem d6_search_132 : decode prog_8_method_4_code 132 = .ok (.iconst 0, 1) := by decide +kernel
theorem d6_search_133 : decode prog_8_method_4_code 133 = .ok (.istore 7, 2) := by decide +kernel
theorem d6_search_135 : decode prog_8_method_4_code 135 = .ok (.iload 7, 2) := by decide +kernel
theorem d6_search_137 : decode prog_8_method_4_code 137 = .ok (.aload_n 0, 1) := by decide +kernel
theorem d6_search_138 : decode prog_8_method_4_code 138 = .ok (.getfield 91, 3) := by decide +kernel
theorem d6_search_141 : decode prog_8_method_4_code 141 = .ok (.if_icmp .ge 21, 3) := by decide +kernel
theorem d6_search_144 : decode prog_8_method_4_code 144 = .ok (.aload_n 0, 1) := by decide +kernel
theorem d6_search_145 : decode prog_8_method_4_code 145 = .ok (.iload 7, 2) := by decide +kernel
theorem d6_search_147 : decode prog_8_method_4_code 147 = .ok (.iload_n 1, 1) := by decide +kernel
theorem d6_search_148 : decode prog_8_method_4_code 148 = .ok (.iload_n 2, 1) := by decide +kernel
theorem d6_search_149 : decode prog_8_method_4_code 149 = .ok (.iload 4, 2) := by decide +kernel
theorem d6_search_151 : decode prog_8_method_4_code 151 = .ok (.iload 5, 2) := by decide +kernel
theorem d6_search_153 : decode prog_8_method_4_code 153 = .ok (.invokevirtual 94, 3) := by decide +kernel
theorem d6_search_156 : decode prog_8_method_4_code 156 = .ok (.iinc 7 1, 3) := by decide +kernel
theorem d6_search_159 : decode prog_8_method_4_code 159 = .ok (.goto (-24), 3) := by decide +kernel
theorem d6_search_162 : decode prog_8_method_4_code 162 = .ok (.aload_n 0, 1) := by decide +kernel
theorem d6_search_163 : decode prog_8_method_4_code 163 = .ok (.invokevirtual 98, 3) := by decide +kernel
theorem d6_search_166 : decode prog_8_method_4_code 166 = .ok (.aload_n 0, 1) := by decide +kernel
theorem d6_search_167 : decode prog_8_method_4_code 167 = .ok (.iconst (-1), 1) := by decide +kernel
theorem d6_search_168 : decode prog_8_method_4_code 168 = .ok (.putfield 101, 3) := by decide +kernel
theorem d6_search_171 : decode prog_8_method_4_code 171 = .ok (.iload 6, 2) := by decide +kernel
theorem d6_search_173 : decode prog_8_method_4_code 173 = .ok (.ifCond .eq 8, 3) := by decide +kernel
theorem d6_search_176 : decode prog_8_method_4_code 176 = .ok (.aload_n 0, 1) := by decide +kernel
theorem d6_search_177 : decode prog_8_method_4_code 177 = .ok (.iconst 0, 1) := by decide +kernel
theorem d6_search_178 : decode prog_8_method_4_code 178 = .ok (.invokevirtual 104, 3) := by decide +kernel
theorem d6_search_181 : decode prog_8_method_4_code 181 = .ok (.aload_n 0, 1) := by decide +kernel
theorem d6_search_182 : decode prog_8_method_4_code 182 = .ok (.aload_n 0, 1) := by decide +kernel
theorem d6_search_183 : decode prog_8_method_4_code 183 = .ok (.getfield 101, 3) := by decide +kernel
theorem d6_search_186 : decode prog_8_method_4_code 186 = .ok (.ifCond .ge 7, 3) := by decide +kernel
theorem d6_search_189 : decode prog_8_method_4_code 189 = .ok (.iconst 0, 1) := by decide +kernel
theorem d6_search_190 : decode prog_8_method_4_code 190 = .ok (.goto 4, 3) := by decide +kernel
theorem d6_search_193 : decode prog_8_method_4_code 193 = .ok (.iload_n 3, 1) := by decide +kernel
theorem d6_search_194 : decode prog_8_method_4_code 194 = .ok (.putfield 49, 3) := by decide +kernel
theorem d6_search_197 : decode prog_8_method_4_code 197 = .ok (.aload_n 0, 1) := by decide +kernel
theorem d6_search_198 : decode prog_8_method_4_code 198 = .ok (.getfield 38, 3) := by decide +kernel
theorem d6_search_201 : decode prog_8_method_4_code 201 = .ok (.iconst 0, 1) := by decide +kernel
theorem d6_search_202 : decode prog_8_method_4_code 202 = .ok (.aload_n 0, 1) := by decide +kernel
theorem d6_search_203 : decode prog_8_method_4_code 203 = .ok (.getfield 9, 3) := by decide +kernel
theorem d6_search_206 : decode prog_8_method_4_code 206 = .ok (.iconst 0, 1) := by decide +kernel
theorem d6_search_207 : decode prog_8_method_4_code 207 = .ok (.bipush 6, 2) := by decide +kernel
theorem d6_search_209 : decode prog_8_method_4_code 209 = .ok (.invokestatic 107, 3) := by decide +kernel
theorem d6_search_212 : decode prog_8_method_4_code 212 = .ok (.aload_n 0, 1) := by decide +kernel
theorem d6_search_213 : decode prog_8_method_4_code 213 = .ok (.getfield 101, 3) := by decide +kernel
theorem d6_search_216 : decode prog_8_method_4_code 216 = .ok (.ireturn, 1) := by decide +kernel
theorem d7_refuse_0 : decode prog_9_method_12_code 0 = .ok (.aload_n 0, 1) := by decide +kernel
theorem d7_refuse_1 : decode prog_9_method_12_code 1 = .ok (.iload_n 1, 1) := by decide +kernel
theorem d7_refuse_2 : decode prog_9_method_12_code 2 = .ok (.putfield 84, 3) := by decide +kernel
theorem d7_refuse_5 : decode prog_9_method_12_code 5 = .ok (.aload_n 0, 1) := by decide +kernel
theorem d7_refuse_6 : decode prog_9_method_12_code 6 = .ok (.aload_n 0, 1) := by decide +kernel
theorem d7_refuse_7 : decode prog_9_method_12_code 7 = .ok (.getfield 87, 3) := by decide +kernel
theorem d7_refuse_10 : decode prog_9_method_12_code 10 = .ok (.ifCond .lt 27, 3) := by decide +kernel
theorem d7_refuse_13 : decode prog_9_method_12_code 13 = .ok (.aload_n 0, 1) := by decide +kernel
theorem d7_refuse_14 : decode prog_9_method_12_code 14 = .ok (.getfield 87, 3) := by decide +kernel
theorem d7_refuse_17 : decode prog_9_method_12_code 17 = .ok (.aload_n 0, 1) := by decide +kernel
theorem d7_refuse_18 : decode prog_9_method_12_code 18 = .ok (.getfield 15, 3) := by decide +kernel
theorem d7_refuse_21 : decode prog_9_method_12_code 21 = .ok (.arraylength, 1) := by decide +kernel
theorem d7_refuse_22 : decode prog_9_method_12_code 22 = .ok (.if_icmp .ge 15, 3) := by decide +kernel
theorem d7_refuse_25 : decode prog_9_method_12_code 25 = .ok (.aload_n 0, 1) := by decide +kernel
theorem d7_refuse_26 : decode prog_9_method_12_code 26 = .ok (.getfield 15, 3) := by decide +kernel
theorem d7_refuse_29 : decode prog_9_method_12_code 29 = .ok (.aload_n 0, 1) := by decide +kernel
theorem d7_refuse_30 : decode prog_9_method_12_code 30 = .ok (.getfield 87, 3) := by decide +kernel
theorem d7_refuse_33 : decode prog_9_method_12_code 33 = .ok (.iaload, 1) := by decide +kernel
theorem d7_refuse_34 : decode prog_9_method_12_code 34 = .ok (.goto 4, 3) := by decide +kernel
theorem d7_refuse_37 : decode prog_9_method_12_code 37 = .ok (.iconst (-1), 1) := by decide +kernel
theorem d7_refuse_38 : decode prog_9_method_12_code 38 = .ok (.putfield 37, 3) := by decide +kernel
theorem d7_refuse_41 : decode prog_9_method_12_code 41 = .ok (.iconst 0, 1) := by decide +kernel
theorem d7_refuse_42 : decode prog_9_method_12_code 42 = .ok (.ireturn, 1) := by decide +kernel
theorem d7_step_0 : decode prog_9_method_11_code 0 = .ok (.aload_n 0, 1) := by decide +kernel
theorem d7_step_1 : decode prog_9_method_11_code 1 = .ok (.getfield 87, 3) := by decide +kernel
theorem d7_step_4 : decode prog_9_method_11_code 4 = .ok (.aload_n 0, 1) := by decide +kernel
theorem d7_step_5 : decode prog_9_method_11_code 5 = .ok (.getfield 97, 3) := by decide +kernel
theorem d7_step_8 : decode prog_9_method_11_code 8 = .ok (.iconst 1, 1) := by decide +kernel
theorem d7_step_9 : decode prog_9_method_11_code 9 = .ok (.isub, 1) := by decide +kernel
theorem d7_step_10 : decode prog_9_method_11_code 10 = .ok (.if_icmp .ge 40, 3) := by decide +kernel
theorem d7_step_13 : decode prog_9_method_11_code 13 = .ok (.aload_n 0, 1) := by decide +kernel
theorem d7_step_14 : decode prog_9_method_11_code 14 = .ok (.getfield 87, 3) := by decide +kernel
theorem d7_step_17 : decode prog_9_method_11_code 17 = .ok (.aload_n 0, 1) := by decide +kernel
theorem d7_step_18 : decode prog_9_method_11_code 18 = .ok (.getfield 9, 3) := by decide +kernel
theorem d7_step_21 : decode prog_9_method_11_code 21 = .ok (.arraylength, 1) := by decide +kernel
theorem d7_step_22 : decode prog_9_method_11_code 22 = .ok (.iconst 1, 1) := by decide +kernel
theorem d7_step_23 : decode prog_9_method_11_code 23 = .ok (.isub, 1) := by decide +kernel
theorem d7_step_24 : decode prog_9_method_11_code 24 = .ok (.if_icmp .ge 26, 3) := by decide +kernel
theorem d7_step_27 : decode prog_9_method_11_code 27 = .ok (.aload_n 0, 1) := by decide +kernel
theorem d7_step_28 : decode prog_9_method_11_code 28 = .ok (.dup, 1) := by decide +kernel
theorem d7_step_29 : decode prog_9_method_11_code 29 = .ok (.getfield 87, 3) := by decide +kernel
theorem d7_step_32 : decode prog_9_method_11_code 32 = .ok (.iconst 1, 1) := by decide +kernel
theorem d7_step_33 : decode prog_9_method_11_code 33 = .ok (.iadd, 1) := by decide +kernel
theorem d7_step_34 : decode prog_9_method_11_code 34 = .ok (.putfield 87, 3) := by decide +kernel
theorem d7_step_37 : decode prog_9_method_11_code 37 = .ok (.aload_n 0, 1) := by decide +kernel
theorem d7_step_38 : decode prog_9_method_11_code 38 = .ok (.aload_n 0, 1) := by decide +kernel
theorem d7_step_39 : decode prog_9_method_11_code 39 = .ok (.getfield 9, 3) := by decide +kernel
theorem d7_step_42 : decode prog_9_method_11_code 42 = .ok (.aload_n 0, 1) := by decide +kernel
theorem d7_step_43 : decode prog_9_method_11_code 43 = .ok (.getfield 87, 3) := by decide +kernel
theorem d7_step_46 : decode prog_9_method_11_code 46 = .ok (.iaload, 1) := by decide +kernel
theorem d7_step_47 : decode prog_9_method_11_code 47 = .ok (.putfield 90, 3) := by decide +kernel
theorem d7_step_50 : decode prog_9_method_11_code 50 = .ok (.return_, 1) := by decide +kernel
theorem d7_take_0 : decode prog_9_method_13_code 0 = .ok (.aload_n 0, 1) := by decide +kernel
theorem d7_take_1 : decode prog_9_method_13_code 1 = .ok (.getfield 90, 3) := by decide +kernel
theorem d7_take_4 : decode prog_9_method_13_code 4 = .ok (.iload_n 1, 1) := by decide +kernel
theorem d7_take_5 : decode prog_9_method_13_code 5 = .ok (.if_icmp .eq 9, 3) := by decide +kernel
theorem d7_take_8 : decode prog_9_method_13_code 8 = .ok (.aload_n 0, 1) := by decide +kernel
theorem d7_take_9 : decode prog_9_method_13_code 9 = .ok (.iconst 1, 1) := by decide +kernel
theorem d7_take_10 : decode prog_9_method_13_code 10 = .ok (.invokevirtual 120, 3) := by decide +kernel
theorem d7_take_13 : decode prog_9_method_13_code 13 = .ok (.ireturn, 1) := by decide +kernel
theorem d7_take_14 : decode prog_9_method_13_code 14 = .ok (.aload_n 0, 1) := by decide +kernel
theorem d7_take_15 : decode prog_9_method_13_code 15 = .ok (.invokevirtual 123, 3) := by decide +kernel
theorem d7_take_18 : decode prog_9_method_13_code 18 = .ok (.iconst 1, 1) := by decide +kernel
theorem d7_take_19 : decode prog_9_method_13_code 19 = .ok (.ireturn, 1) := by decide +kernel
theorem d10_close_0 : decode prog_12_method_4_code 0 = .ok (.aload_n 0, 1) := by decide +kernel
theorem d10_close_1 : decode prog_12_method_4_code 1 = .ok (.getfield 35, 3) := by decide +kernel
theorem d10_close_4 : decode prog_12_method_4_code 4 = .ok (.aload_n 0, 1) := by decide +kernel
theorem d10_close_5 : decode prog_12_method_4_code 5 = .ok (.getfield 19, 3) := by decide +kernel
theorem d10_close_8 : decode prog_12_method_4_code 8 = .ok (.arraylength, 1) := by decide +kernel
theorem d10_close_9 : decode prog_12_method_4_code 9 = .ok (.if_icmp .ge 56, 3) := by decide +kernel
theorem d10_close_12 : decode prog_12_method_4_code 12 = .ok (.aload_n 0, 1) := by decide +kernel
theorem d10_close_13 : decode prog_12_method_4_code 13 = .ok (.getfield 19, 3) := by decide +kernel
theorem d10_close_16 : decode prog_12_method_4_code 16 = .ok (.aload_n 0, 1) := by decide +kernel
theorem d10_close_17 : decode prog_12_method_4_code 17 = .ok (.getfield 35, 3) := by decide +kernel
theorem d10_close_20 : decode prog_12_method_4_code 20 = .ok (.iload_n 1, 1) := by decide +kernel
theorem d10_close_21 : decode prog_12_method_4_code 21 = .ok (.iastore, 1) := by decide +kernel
theorem d10_close_22 : decode prog_12_method_4_code 22 = .ok (.aload_n 0, 1) := by decide +kernel
theorem d10_close_23 : decode prog_12_method_4_code 23 = .ok (.getfield 25, 3) := by decide +kernel
theorem d10_close_26 : decode prog_12_method_4_code 26 = .ok (.aload_n 0, 1) := by decide +kernel
theorem d10_close_27 : decode prog_12_method_4_code 27 = .ok (.getfield 35, 3) := by decide +kernel
theorem d10_close_30 : decode prog_12_method_4_code 30 = .ok (.iload_n 2, 1) := by decide +kernel
theorem d10_close_31 : decode prog_12_method_4_code 31 = .ok (.iastore, 1) := by decide +kernel
theorem d10_close_32 : decode prog_12_method_4_code 32 = .ok (.aload_n 0, 1) := by decide +kernel
theorem d10_close_33 : decode prog_12_method_4_code 33 = .ok (.getfield 28, 3) := by decide +kernel
theorem d10_close_36 : decode prog_12_method_4_code 36 = .ok (.aload_n 0, 1) := by decide +kernel
theorem d10_close_37 : decode prog_12_method_4_code 37 = .ok (.getfield 35, 3) := by decide +kernel
theorem d10_close_40 : decode prog_12_method_4_code 40 = .ok (.iload_n 3, 1) := by decide +kernel
theorem d10_close_41 : decode prog_12_method_4_code 41 = .ok (.iastore, 1) := by decide +kernel
theorem d10_close_42 : decode prog_12_method_4_code 42 = .ok (.aload_n 0, 1) := by decide +kernel
theorem d10_close_43 : decode prog_12_method_4_code 43 = .ok (.getfield 22, 3) := by decide +kernel
theorem d10_close_46 : decode prog_12_method_4_code 46 = .ok (.aload_n 0, 1) := by decide +kernel
theorem d10_close_47 : decode prog_12_method_4_code 47 = .ok (.getfield 35, 3) := by decide +kernel
theorem d10_close_50 : decode prog_12_method_4_code 50 = .ok (.aload_n 0, 1) := by decide +kernel
theorem d10_close_51 : decode prog_12_method_4_code 51 = .ok (.getfield 31, 3) := by decide +kernel
theorem d10_close_54 : decode prog_12_method_4_code 54 = .ok (.iastore, 1) := by decide +kernel
theorem d10_close_55 : decode prog_12_method_4_code 55 = .ok (.aload_n 0, 1) := by decide +kernel
theorem d10_close_56 : decode prog_12_method_4_code 56 = .ok (.dup, 1) := by decide +kernel
theorem d10_close_57 : decode prog_12_method_4_code 57 = .ok (.getfield 35, 3) := by decide +kernel
theorem d10_close_60 : decode prog_12_method_4_code 60 = .ok (.iconst 1, 1) := by decide +kernel
theorem d10_close_61 : decode prog_12_method_4_code 61 = .ok (.iadd, 1) := by decide +kernel
theorem d10_close_62 : decode prog_12_method_4_code 62 = .ok (.putfield 35, 3) := by decide +kernel
theorem d10_close_65 : decode prog_12_method_4_code 65 = .ok (.return_, 1) := by decide +kernel
theorem d7_closeRule_0 : decode prog_9_method_16_code 0 = .ok (.aload_n 0, 1) := by decide +kernel
theorem d7_closeRule_1 : decode prog_9_method_16_code 1 = .ok (.getfield 33, 3) := by decide +kernel
theorem d7_closeRule_4 : decode prog_9_method_16_code 4 = .ok (.iload_n 1, 1) := by decide +kernel
theorem d7_closeRule_5 : decode prog_9_method_16_code 5 = .ok (.iload_n 2, 1) := by decide +kernel
theorem d7_closeRule_6 : decode prog_9_method_16_code 6 = .ok (.iload_n 3, 1) := by decide +kernel
theorem d7_closeRule_7 : decode prog_9_method_16_code 7 = .ok (.invokevirtual 148, 3) := by decide +kernel
theorem d7_closeRule_10 : decode prog_9_method_16_code 10 = .ok (.aload_n 0, 1) := by decide +kernel
theorem d7_closeRule_11 : decode prog_9_method_16_code 11 = .ok (.bipush 59, 2) := by decide +kernel
theorem d7_closeRule_13 : decode prog_9_method_16_code 13 = .ok (.invokevirtual 138, 3) := by decide +kernel
theorem d7_closeRule_16 : decode prog_9_method_16_code 16 = .ok (.ireturn, 1) := by decide +kernel
theorem d7_known_0 : decode prog_9_method_29_code 0 = .ok (.iconst 0, 1) := by decide +kernel
theorem d7_known_1 : decode prog_9_method_29_code 1 = .ok (.istore_n 3, 1) := by decide +kernel
theorem d7_known_2 : decode prog_9_method_29_code 2 = .ok (.iload_n 3, 1) := by decide +kernel
theorem d7_known_3 : decode prog_9_method_29_code 3 = .ok (.bipush 9, 2) := by decide +kernel
theorem d7_known_5 : decode prog_9_method_29_code 5 = .ok (.aload_n 0, 1) := by decide +kernel
theorem d7_known_6 : decode prog_9_method_29_code 6 = .ok (.getfield 78, 3) := by decide +kernel
theorem d7_known_9 : decode prog_9_method_29_code 9 = .ok (.iadd, 1) := by decide +kernel
theorem d7_known_10 : decode prog_9_method_29_code 10 = .ok (.if_icmp .ge 31, 3) := by decide +kernel
theorem d7_known_13 : decode prog_9_method_29_code 13 = .ok (.iload_n 3, 1) := by decide +kernel
theorem d7_known_14 : decode prog_9_method_29_code 14 = .ok (.aload_n 0, 1) := by decide +kernel
theorem d7_known_15 : decode prog_9_method_29_code 15 = .ok (.getfield 25, 3) := by decide +kernel
theorem d7_known_18 : decode prog_9_method_29_code 18 = .ok (.arraylength, 1) := by decide +kernel
theorem d7_known_19 : decode prog_9_method_29_code 19 = .ok (.if_icmp .ge 22, 3) := by decide +kernel
theorem d7_known_22 : decode prog_9_method_29_code 22 = .ok (.aload_n 0, 1) := by decide +kernel
theorem d7_known_23 : decode prog_9_method_29_code 23 = .ok (.getfield 25, 3) := by decide +kernel
theorem d7_known_26 : decode prog_9_method_29_code 26 = .ok (.iload_n 3, 1) := by decide +kernel
theorem d7_known_27 : decode prog_9_method_29_code 27 = .ok (.laload, 1) := by decide +kernel
theorem d7_known_28 : decode prog_9_method_29_code 28 = .ok (.lload_n 1, 1) := by decide +kernel
theorem d7_known_29 : decode prog_9_method_29_code 29 = .ok (.lcmp, 1) := by decide +kernel
theorem d7_known_30 : decode prog_9_method_29_code 30 = .ok (.ifCond .ne 5, 3) := by decide +kernel
theorem d7_known_33 : decode prog_9_method_29_code 33 = .ok (.iload_n 3, 1) := by decide +kernel
theorem d7_known_34 : decode prog_9_method_29_code 34 = .ok (.ireturn, 1) := by decide +kernel
theorem d7_known_35 : decode prog_9_method_29_code 35 = .ok (.iinc 3 1, 3) := by decide +kernel
theorem d7_known_38 : decode prog_9_method_29_code 38 = .ok (.goto (-36), 3) := by decide +kernel
theorem d7_known_41 : decode prog_9_method_29_code 41 = .ok (.iconst (-1), 1) := by decide +kernel
theorem d7_known_42 : decode prog_9_method_29_code 42 = .ok (.ireturn, 1) := by decide +kernel
theorem d7_valueHere_0 : decode prog_9_method_14_code 0 = .ok (.aload_n 0, 1) := by decide +kernel
theorem d7_valueHere_1 : decode prog_9_method_14_code 1 = .ok (.getfield 87, 3) := by decide +kernel
theorem d7_valueHere_4 : decode prog_9_method_14_code 4 = .ok (.ifCond .lt 27, 3) := by decide +kernel
theorem d7_valueHere_7 : decode prog_9_method_14_code 7 = .ok (.aload_n 0, 1) := by decide +kernel
theorem d7_valueHere_8 : decode prog_9_method_14_code 8 = .ok (.getfield 87, 3) := by decide +kernel
theorem d7_valueHere_11 : decode prog_9_method_14_code 11 = .ok (.aload_n 0, 1) := by decide +kernel
theorem d7_valueHere_12 : decode prog_9_method_14_code 12 = .ok (.getfield 18, 3) := by decide +kernel
theorem d7_valueHere_15 : decode prog_9_method_14_code 15 = .ok (.arraylength, 1) := by decide +kernel
theorem d7_valueHere_16 : decode prog_9_method_14_code 16 = .ok (.if_icmp .ge 15, 3) := by decide +kernel
theorem d7_valueHere_19 : decode prog_9_method_14_code 19 = .ok (.aload_n 0, 1) := by decide +kernel
theorem d7_valueHere_20 : decode prog_9_method_14_code 20 = .ok (.getfield 18, 3) := by decide +kernel
theorem d7_valueHere_23 : decode prog_9_method_14_code 23 = .ok (.aload_n 0, 1) := by decide +kernel
theorem d7_valueHere_24 : decode prog_9_method_14_code 24 = .ok (.getfield 87, 3) := by decide +kernel
theorem d7_valueHere_27 : decode prog_9_method_14_code 27 = .ok (.laload, 1) := by decide +kernel
theorem d7_valueHere_28 : decode prog_9_method_14_code 28 = .ok (.goto 4, 3) := by decide +kernel
theorem d7_valueHere_31 : decode prog_9_method_14_code 31 = .ok (.lconst 0, 1) := by decide +kernel
theorem d7_valueHere_32 : decode prog_9_method_14_code 32 = .ok (.lreturn, 1) := by decide +kernel
theorem d10_emit_0 : decode prog_12_method_3_code 0 = .ok (.aload_n 0, 1) := by decide +kernel
theorem d10_emit_1 : decode prog_12_method_3_code 1 = .ok (.getfield 31, 3) := by decide +kernel
theorem d10_emit_4 : decode prog_12_method_3_code 4 = .ok (.aload_n 0, 1) := by decide +kernel
theorem d10_emit_5 : decode prog_12_method_3_code 5 = .ok (.getfield 13, 3) := by decide +kernel
theorem d10_emit_8 : decode prog_12_method_3_code 8 = .ok (.arraylength, 1) := by decide +kernel
theorem d10_emit_9 : decode prog_12_method_3_code 9 = .ok (.if_icmp .ge 23, 3) := by decide +kernel
theorem d10_emit_12 : decode prog_12_method_3_code 12 = .ok (.aload_n 0, 1) := by decide +kernel
theorem d10_emit_13 : decode prog_12_method_3_code 13 = .ok (.getfield 13, 3) := by decide +kernel
theorem d10_emit_16 : decode prog_12_method_3_code 16 = .ok (.aload_n 0, 1) := by decide +kernel
theorem d10_emit_17 : decode prog_12_method_3_code 17 = .ok (.getfield 31, 3) := by decide +kernel
theorem d10_emit_20 : decode prog_12_method_3_code 20 = .ok (.iload_n 1, 1) := by decide +kernel
theorem d10_emit_21 : decode prog_12_method_3_code 21 = .ok (.iastore, 1) := by decide +kernel
theorem d10_emit_22 : decode prog_12_method_3_code 22 = .ok (.aload_n 0, 1) := by decide +kernel
theorem d10_emit_23 : decode prog_12_method_3_code 23 = .ok (.dup, 1) := by decide +kernel
theorem d10_emit_24 : decode prog_12_method_3_code 24 = .ok (.getfield 31, 3) := by decide +kernel
theorem d10_emit_27 : decode prog_12_method_3_code 27 = .ok (.iconst 1, 1) := by decide +kernel
theorem d10_emit_28 : decode prog_12_method_3_code 28 = .ok (.iadd, 1) := by decide +kernel
theorem d10_emit_29 : decode prog_12_method_3_code 29 = .ok (.putfield 31, 3) := by decide +kernel
theorem d10_emit_32 : decode prog_12_method_3_code 32 = .ok (.return_, 1) := by decide +kernel
theorem d7_bracketedSum_0 : decode prog_9_method_28_code 0 = .ok (.aload_n 0, 1) := by decide +kernel
theorem d7_bracketedSum_1 : decode prog_9_method_28_code 1 = .ok (.getfield 81, 3) := by decide +kernel
theorem d7_bracketedSum_4 : decode prog_9_method_28_code 4 = .ok (.iconst 4, 1) := by decide +kernel
theorem d7_bracketedSum_5 : decode prog_9_method_28_code 5 = .ok (.if_icmp .lt 9, 3) := by decide +kernel
theorem d7_bracketedSum_8 : decode prog_9_method_28_code 8 = .ok (.aload_n 0, 1) := by decide +kernel
theorem d7_bracketedSum_9 : decode prog_9_method_28_code 9 = .ok (.iconst 4, 1) := by decide +kernel
theorem d7_bracketedSum_10 : decode prog_9_method_28_code 10 = .ok (.invokevirtual 120, 3) := by decide +kernel
theorem d7_bracketedSum_13 : decode prog_9_method_28_code 13 = .ok (.ireturn, 1) := by decide +kernel
theorem d7_bracketedSum_14 : decode prog_9_method_28_code 14 = .ok (.aload_n 0, 1) := by decide +kernel
theorem d7_bracketedSum_15 : decode prog_9_method_28_code 15 = .ok (.dup, 1) := by decide +kernel
theorem d7_bracketedSum_16 : decode prog_9_method_28_code 16 = .ok (.getfield 81, 3) := by decide +kernel
theorem d7_bracketedSum_19 : decode prog_9_method_28_code 19 = .ok (.iconst 1, 1) := by decide +kernel
theorem d7_bracketedSum_20 : decode prog_9_method_28_code 20 = .ok (.iadd, 1) := by decide +kernel
theorem d7_bracketedSum_21 : decode prog_9_method_28_code 21 = .ok (.putfield 81, 3) := by decide +kernel
theorem d7_bracketedSum_24 : decode prog_9_method_28_code 24 = .ok (.aload_n 0, 1) := by decide +kernel
theorem d7_bracketedSum_25 : decode prog_9_method_28_code 25 = .ok (.invokevirtual 123, 3) := by decide +kernel
theorem d7_bracketedSum_28 : decode prog_9_method_28_code 28 = .ok (.aload_n 0, 1) := by decide +kernel
theorem d7_bracketedSum_29 : decode prog_9_method_28_code 29 = .ok (.invokevirtual 160, 3) := by decide +kernel
theorem d7_bracketedSum_32 : decode prog_9_method_28_code 32 = .ok (.ifCond .ne 5, 3) := by decide +kernel
theorem d7_bracketedSum_35 : decode prog_9_method_28_code 35 = .ok (.iconst 0, 1) := by decide +kernel
theorem d7_bracketedSum_36 : decode prog_9_method_28_code 36 = .ok (.ireturn, 1) := by decide +kernel
theorem d7_bracketedSum_37 : decode prog_9_method_28_code 37 = .ok (.aload_n 0, 1) := by decide +kernel
theorem d7_bracketedSum_38 : decode prog_9_method_28_code 38 = .ok (.getfield 90, 3) := by decide +kernel
theorem d7_bracketedSum_41 : decode prog_9_method_28_code 41 = .ok (.bipush 41, 2) := by decide +kernel
theorem d7_bracketedSum_43 : decode prog_9_method_28_code 43 = .ok (.if_icmp .eq 9, 3) := by decide +kernel
theorem d7_bracketedSum_46 : decode prog_9_method_28_code 46 = .ok (.aload_n 0, 1) := by decide +kernel
theorem d7_bracketedSum_47 : decode prog_9_method_28_code 47 = .ok (.iconst 1, 1) := by decide +kernel
theorem d7_bracketedSum_48 : decode prog_9_method_28_code 48 = .ok (.invokevirtual 120, 3) := by decide +kernel
theorem d7_bracketedSum_51 : decode prog_9_method_28_code 51 = .ok (.ireturn, 1) := by decide +kernel
theorem d7_bracketedSum_52 : decode prog_9_method_28_code 52 = .ok (.aload_n 0, 1) := by decide +kernel
theorem d7_bracketedSum_53 : decode prog_9_method_28_code 53 = .ok (.dup, 1) := by decide +kernel
theorem d7_bracketedSum_54 : decode prog_9_method_28_code 54 = .ok (.getfield 81, 3) := by decide +kernel
theorem d7_bracketedSum_57 : decode prog_9_method_28_code 57 = .ok (.iconst 1, 1) := by decide +kernel
theorem d7_bracketedSum_58 : decode prog_9_method_28_code 58 = .ok (.isub, 1) := by decide +kernel
theorem d7_bracketedSum_59 : decode prog_9_method_28_code 59 = .ok (.putfield 81, 3) := by decide +kernel
theorem d7_bracketedSum_62 : decode prog_9_method_28_code 62 = .ok (.aload_n 0, 1) := by decide +kernel
theorem d7_bracketedSum_63 : decode prog_9_method_28_code 63 = .ok (.invokevirtual 123, 3) := by decide +kernel
theorem d7_bracketedSum_66 : decode prog_9_method_28_code 66 = .ok (.iconst 1, 1) := by decide +kernel
theorem d7_bracketedSum_67 : decode prog_9_method_28_code 67 = .ok (.ireturn, 1) := by decide +kernel
abbrev m8_isOpen : MD := ("MillBoats$River", ⟨"MillBoats$River", "isOpen", "(II[II)Z"⟩, prog_10_method_14_code, 9, (some Jvm.ClassFile.FieldType.boolean))
theorem k8_isOpen : okY m8_isOpen.2.1 4 := ⟨by decide +kernel, by decide +kernel, by decide +kernel⟩
def f8_isOpen_p71 (K6 : St → Nat → Int32 → Int32 → Nat → Int32 → Int32 → Int32 → Option (Int32 × St)) (σ : St) (v0 : Nat) (v1 : Int32) (v2 : Int32) (v3 : Nat) (v4 : Int32) (v6 : Int32) (x0 : Int32) : Option (Int32 × St) :=
  lt (v6 + (1 : Int32)) fun y18 => (
  K6 σ v0 v1 v2 v3 v4 x0 y18)
set_option maxRecDepth 20000 in
theorem s8_isOpen_p71 {K6 : St → Nat → Int32 → Int32 → Nat → Int32 → Int32 → Int32 → Option (Int32 × St)} (hK6 : ∀ (σ : St) (v0 : Nat) (v1 : Int32) (v2 : Int32) (v3 : Nat) (v4 : Int32) (v5 : Int32) (v6 : Int32) (r : Int32) (τ : St), K6 σ v0 v1 v2 v3 v4 v5 v6 = some (r, τ) → Ev 3 m8_isOpen 6 [(0, .ref v0), (1, .int v1), (2, .int v2), (3, .ref v3), (4, .int v4), (5, .int v5), (6, .int v6)] [] σ (some (.int r)) τ) : ∀ (σ : St) (v0 : Nat) (v1 : Int32) (v2 : Int32) (v3 : Nat) (v4 : Int32) (v6 : Int32) (x0 : Int32) (r : Int32) (τ : St), f8_isOpen_p71 K6 σ v0 v1 v2 v3 v4 v6 x0 = some (r, τ) → Ev 3 m8_isOpen 71 [(0, .ref v0), (1, .int v1), (2, .int v2), (3, .ref v3), (4, .int v4), (6, .int v6)] [.int x0] σ (some (.int r)) τ := by
  intro σ v0 v1 v2 v3 v4 v6 x0 r τ hf
  unfold f8_isOpen_p71 at hf
  refine ev_istore (lv2 := [(5, .int x0), (0, .ref v0), (1, .int v1), (2, .int v2), (3, .ref v3), (4, .int v4), (6, .int v6)]) (i := 5) (by decide) rfl d8_isOpen_71 ?_
  obtain ⟨y18, e19, hf⟩ := lt_some hf
  refine ev_iinc (lv2 := [(6, .int y18), (5, .int x0), (0, .ref v0), (1, .int v1), (2, .int v2), (3, .ref v3), (4, .int v4)]) (i := 6) (q := 6) (v := y18) (n := 1) rfl (by rw [ci_1]; exact e19.symm) (by decide) rfl d8_isOpen_73 ?_
  refine ev_goto (tgt := 6) (by decide) d8_isOpen_76 ?_
  exact Ev.sub [2, 3, 4, 5, 6, 1, 0] rfl (hK6 _ _ _ _ _ _ _ _ _ _ hf)
def f8_isOpen_p56 (K6 : St → Nat → Int32 → Int32 → Nat → Int32 → Int32 → Int32 → Option (Int32 × St)) (σ : St) (v0 : Nat) (v1 : Int32) (v2 : Int32) (v3 : Nat) (v4 : Int32) (v5 : Int32) (v6 : Int32) (x0 : Int32) : Option (Int32 × St) :=
  (if x0 = (0 : Int32) then
  f8_isOpen_p71 K6 σ v0 v1 v2 v3 v4 v6 (0 : Int32)
  else
  f8_isOpen_p71 K6 σ v0 v1 v2 v3 v4 v6 (v5 + (1 : Int32)))
set_option maxRecDepth 20000 in
theorem s8_isOpen_p56 {K6 : St → Nat → Int32 → Int32 → Nat → Int32 → Int32 → Int32 → Option (Int32 × St)} (hK6 : ∀ (σ : St) (v0 : Nat) (v1 : Int32) (v2 : Int32) (v3 : Nat) (v4 : Int32) (v5 : Int32) (v6 : Int32) (r : Int32) (τ : St), K6 σ v0 v1 v2 v3 v4 v5 v6 = some (r, τ) → Ev 3 m8_isOpen 6 [(0, .ref v0), (1, .int v1), (2, .int v2), (3, .ref v3), (4, .int v4), (5, .int v5), (6, .int v6)] [] σ (some (.int r)) τ) : ∀ (σ : St) (v0 : Nat) (v1 : Int32) (v2 : Int32) (v3 : Nat) (v4 : Int32) (v5 : Int32) (v6 : Int32) (x0 : Int32) (r : Int32) (τ : St), f8_isOpen_p56 K6 σ v0 v1 v2 v3 v4 v5 v6 x0 = some (r, τ) → Ev 3 m8_isOpen 56 [(0, .ref v0), (1, .int v1), (2, .int v2), (3, .ref v3), (4, .int v4), (5, .int v5), (6, .int v6)] [.int x0] σ (some (.int r)) τ := by
  intro σ v0 v1 v2 v3 v4 v5 v6 x0 r τ hf
  unfold f8_isOpen_p56 at hf
  refine ev_istore (lv2 := [(8, .int x0), (0, .ref v0), (1, .int v1), (2, .int v2), (3, .ref v3), (4, .int v4), (5, .int v5), (6, .int v6)]) (i := 8) (by decide) rfl d8_isOpen_56 ?_
  refine ev_iload (i := 8) (q := 0) rfl d8_isOpen_58 ?_
  rcases ite_some hf with ⟨c16, hf⟩ | ⟨c16, hf⟩
  · refine ev_if_eq_P (tgt := 70) c16 (by decide) d8_isOpen_60 ?_
    refine ev_iconst ci_0 d8_isOpen_70 ?_
    exact Ev.sub [1, 2, 3, 4, 5, 7] rfl (s8_isOpen_p71 hK6 _ _ _ _ _ _ _ _ _ _ hf)
  · refine ev_if_eq_Q (tgt := 70) c16 (by decide) d8_isOpen_60 ?_
    refine ev_iload (i := 5) (q := 6) rfl d8_isOpen_63 ?_
    refine ev_iconst ci_1 d8_isOpen_65 ?_
    refine ev_iadd d8_isOpen_66 ?_
    refine ev_goto (tgt := 71) (by decide) d8_isOpen_67 ?_
    exact Ev.sub [1, 2, 3, 4, 5, 7] rfl (s8_isOpen_p71 hK6 _ _ _ _ _ _ _ _ _ _ hf)
def f8_isOpen_p55 (K6 : St → Nat → Int32 → Int32 → Nat → Int32 → Int32 → Int32 → Option (Int32 × St)) (σ : St) (v0 : Nat) (v1 : Int32) (v2 : Int32) (v3 : Nat) (v4 : Int32) (v5 : Int32) (v6 : Int32) : Option (Int32 × St) :=
  f8_isOpen_p56 K6 σ v0 v1 v2 v3 v4 v5 v6 (0 : Int32)
set_option maxRecDepth 20000 in
theorem s8_isOpen_p55 {K6 : St → Nat → Int32 → Int32 → Nat → Int32 → Int32 → Int32 → Option (Int32 × St)} (hK6 : ∀ (σ : St) (v0 : Nat) (v1 : Int32) (v2 : Int32) (v3 : Nat) (v4 : Int32) (v5 : Int32) (v6 : Int32) (r : Int32) (τ : St), K6 σ v0 v1 v2 v3 v4 v5 v6 = some (r, τ) → Ev 3 m8_isOpen 6 [(0, .ref v0), (1, .int v1), (2, .int v2), (3, .ref v3), (4, .int v4), (5, .int v5), (6, .int v6)] [] σ (some (.int r)) τ) : ∀ (σ : St) (v0 : Nat) (v1 : Int32) (v2 : Int32) (v3 : Nat) (v4 : Int32) (v5 : Int32) (v6 : Int32) (r : Int32) (τ : St), f8_isOpen_p55 K6 σ v0 v1 v2 v3 v4 v5 v6 = some (r, τ) → Ev 3 m8_isOpen 55 [(0, .ref v0), (1, .int v1), (2, .int v2), (3, .ref v3), (4, .int v4), (5, .int v5), (6, .int v6)] [] σ (some (.int r)) τ := by
  intro σ v0 v1 v2 v3 v4 v5 v6 r τ hf
  unfold f8_isOpen_p55 at hf
  refine ev_iconst ci_0 d8_isOpen_55 ?_
  exact Ev.sub [0, 1, 2, 3, 4, 5, 6] rfl (s8_isOpen_p56 hK6 _ _ _ _ _ _ _ _ _ _ _ hf)
def f8_isOpen_p79 (σ : St) (v2 : Int32) (v5 : Int32) : Option (Int32 × St) :=
  (if v5 < v2 then
  some ((0 : Int32), σ)
  else
  some ((1 : Int32), σ))
set_option maxRecDepth 20000 in
theorem s8_isOpen_p79 : ∀ (σ : St) (v2 : Int32) (v5 : Int32) (r : Int32) (τ : St), f8_isOpen_p79 σ v2 v5 = some (r, τ) → Ev 3 m8_isOpen 79 [(2, .int v2), (5, .int v5)] [] σ (some (.int r)) τ := by
  intro σ v2 v5 r τ hf
  unfold f8_isOpen_p79 at hf
  refine ev_iload (i := 5) (q := 1) rfl d8_isOpen_79 ?_
  refine ev_iload_n (j := 2) (i := 2) (q := 0) rfl rfl d8_isOpen_81 ?_
  rcases ite_some hf with ⟨c17, hf⟩ | ⟨c17, hf⟩
  · refine ev_icmp_lt_P (tgt := 89) c17 (by decide) d8_isOpen_82 ?_
    refine ev_iconst ci_0 d8_isOpen_89 ?_
    obtain ⟨rfl, rfl⟩ := ret_some hf
    exact ev_zret rfl (by decide) d8_isOpen_90
  · refine ev_icmp_lt_Q (tgt := 89) c17 (by decide) d8_isOpen_82 ?_
    refine ev_iconst ci_1 d8_isOpen_85 ?_
    refine ev_goto (tgt := 90) (by decide) d8_isOpen_86 ?_
    obtain ⟨rfl, rfl⟩ := ret_some hf
    exact ev_zret rfl (by decide) d8_isOpen_90
def f8_isOpen_p6 : Nat → St → Nat → Int32 → Int32 → Nat → Int32 → Int32 → Int32 → Option (Int32 × St)
  | 0, _, _, _, _, _, _, _, _ => none
  | n + 1, σ, v0, v1, v2, v3, v4, v5, v6 =>
  (if v6 < (6 : Int32) then
  (if v5 < v2 then
  lt ((v6 * (12 : Int32)) + v1) fun y3 => (
  gd (ob σ v0 8) (
  bd (f8_depth σ v0 y3 v4) fun r6 t7 => (
  (if r6 < (2 : Int32) then
  f8_isOpen_p55 (f8_isOpen_p6 n) t7 v0 v1 v2 v3 v4 v5 v6
  else
  bd (f8_lyingAt t7 v0 y3 v3) fun r11 t12 => (
  (if r11 = (-1 : Int32) then
  f8_isOpen_p56 (f8_isOpen_p6 n) t12 v0 v1 v2 v3 v4 v5 v6 (1 : Int32)
  else
  f8_isOpen_p55 (f8_isOpen_p6 n) t12 v0 v1 v2 v3 v4 v5 v6))))))
  else
  f8_isOpen_p79 σ v2 v5)
  else
  f8_isOpen_p79 σ v2 v5)
set_option maxRecDepth 20000 in
theorem s8_isOpen_p6 : ∀ (n : Nat) (σ : St) (v0 : Nat) (v1 : Int32) (v2 : Int32) (v3 : Nat) (v4 : Int32) (v5 : Int32) (v6 : Int32) (r : Int32) (τ : St), f8_isOpen_p6 n σ v0 v1 v2 v3 v4 v5 v6 = some (r, τ) → Ev 3 m8_isOpen 6 [(0, .ref v0), (1, .int v1), (2, .int v2), (3, .ref v3), (4, .int v4), (5, .int v5), (6, .int v6)] [] σ (some (.int r)) τ := by
  intro n
  induction n with
  | zero =>
    intro σ v0 v1 v2 v3 v4 v5 v6 r τ hf
    cases hf
  | succ n ih =>
    intro σ v0 v1 v2 v3 v4 v5 v6 r τ hf
    rw [f8_isOpen_p6] at hf
    refine ev_iload (i := 6) (q := 6) rfl d8_isOpen_6 ?_
    refine ev_bipush cb_6 d8_isOpen_8 ?_
    rcases ite_some hf with ⟨c1, hf⟩ | ⟨c1, hf⟩
    · refine ev_icmp_ge_P (tgt := 79) c1 (by decide) d8_isOpen_10 ?_
      refine ev_iload (i := 5) (q := 5) rfl d8_isOpen_13 ?_
      refine ev_iload_n (j := 2) (i := 2) (q := 2) rfl rfl d8_isOpen_15 ?_
      rcases ite_some hf with ⟨c2, hf⟩ | ⟨c2, hf⟩
      · refine ev_icmp_ge_P (tgt := 79) c2 (by decide) d8_isOpen_16 ?_
        refine ev_iload (i := 6) (q := 6) rfl d8_isOpen_19 ?_
        refine ev_bipush cb_12 d8_isOpen_21 ?_
        refine ev_imul d8_isOpen_23 ?_
        refine ev_iload_n (j := 1) (i := 1) (q := 1) rfl rfl d8_isOpen_24 ?_
        refine ev_iadd d8_isOpen_25 ?_
        obtain ⟨y3, e4, hf⟩ := lt_some hf
        refine ev_nmI e4 ?_
        refine ev_istore (lv2 := [(7, .int y3), (0, .ref v0), (1, .int v1), (2, .int v2), (3, .ref v3), (4, .int v4), (5, .int v5), (6, .int v6)]) (i := 7) (by decide) rfl d8_isOpen_26 ?_
        refine ev_aload_n (j := 0) (i := 0) (q := 1) rfl rfl d8_isOpen_28 ?_
        refine ev_iload (i := 7) (q := 0) rfl d8_isOpen_29 ?_
        refine ev_iload (i := 4) (q := 5) rfl d8_isOpen_31 ?_
        obtain ⟨h5, hf⟩ := gd_some hf
        obtain ⟨r6, t7, k8, hf⟩ := bd_some hf
        have q9 := s8_depth _ _ _ _ _ _ k8
        refine ev_callV (vs := [.int y3, .int v4]) (sk := []) cls8 h5 q9 (by decide) (Nat.le_of_ble_eq_true rfl) w626 w627 w628 w2 w629 k8_depth rfl (Nat.le_of_ble_eq_true rfl) d8_isOpen_33 ?_
        refine ev_iconst ci_2 d8_isOpen_36 ?_
        rcases ite_some hf with ⟨c10, hf⟩ | ⟨c10, hf⟩
        · refine ev_icmp_lt_P (tgt := 55) c10 (by decide) d8_isOpen_37 ?_
          exact Ev.sub [1, 2, 3, 4, 5, 6, 7] rfl (s8_isOpen_p55 ih _ _ _ _ _ _ _ _ _ _ hf)
        · refine ev_icmp_lt_Q (tgt := 55) c10 (by decide) d8_isOpen_37 ?_
          refine ev_aload_n (j := 0) (i := 0) (q := 1) rfl rfl d8_isOpen_40 ?_
          refine ev_iload (i := 7) (q := 0) rfl d8_isOpen_41 ?_
          refine ev_aload_n (j := 3) (i := 3) (q := 4) rfl rfl d8_isOpen_43 ?_
          obtain ⟨r11, t12, k13, hf⟩ := bd_some hf
          have q14 := s8_lyingAt _ _ _ _ _ _ k13
          refine ev_callV (vs := [.int y3, .ref v3]) (sk := []) cls8 (mono_ob q9.1 h5) q14 (by decide) (Nat.le_of_ble_eq_true rfl) w935 w581 w582 w2 w583 k8_lyingAt rfl (Nat.le_of_ble_eq_true rfl) d8_isOpen_44 ?_
          refine ev_iconst ci_m1 d8_isOpen_47 ?_
          rcases ite_some hf with ⟨c15, hf⟩ | ⟨c15, hf⟩
          · refine ev_icmp_ne_P (tgt := 55) c15 (by decide) d8_isOpen_48 ?_
            refine ev_iconst ci_1 d8_isOpen_51 ?_
            refine ev_goto (tgt := 56) (by decide) d8_isOpen_52 ?_
            exact Ev.sub [1, 2, 3, 4, 5, 6, 7] rfl (s8_isOpen_p56 ih _ _ _ _ _ _ _ _ _ _ _ hf)
          · refine ev_icmp_ne_Q (tgt := 55) c15 (by decide) d8_isOpen_48 ?_
            exact Ev.sub [1, 2, 3, 4, 5, 6, 7] rfl (s8_isOpen_p55 ih _ _ _ _ _ _ _ _ _ _ hf)
      · refine ev_icmp_ge_Q (tgt := 79) c2 (by decide) d8_isOpen_16 ?_
        exact Ev.sub [2, 5] rfl (s8_isOpen_p79 _ _ _ _ _ hf)
    · refine ev_icmp_ge_Q (tgt := 79) c1 (by decide) d8_isOpen_10 ?_
      exact Ev.sub [2, 5] rfl (s8_isOpen_p79 _ _ _ _ _ hf)
def f8_isOpen (σ : St) (v0 : Nat) (v1 : Int32) (v2 : Int32) (v3 : Nat) (v4 : Int32) : Option (Int32 × St) :=
  f8_isOpen_p6 FU σ v0 v1 v2 v3 v4 (0 : Int32) (0 : Int32)
set_option maxRecDepth 50000 in
theorem s8_isOpen : ∀ (σ : St) (v0 : Nat) (v1 : Int32) (v2 : Int32) (v3 : Nat) (v4 : Int32) (r : Int32) (τ : St), f8_isOpen σ v0 v1 v2 v3 v4 = some (r, τ) → Call 3 m8_isOpen [.ref v0, .int v1, .int v2, .ref v3, .int v4] σ (some (.int r)) τ := by
  intro σ v0 v1 v2 v3 v4 r τ hf
  unfold f8_isOpen at hf
  refine Call.of (by decide +kernel) rfl (Nat.le_of_ble_eq_true rfl) ?_
  refine ev_iconst ci_0 d8_isOpen_0 ?_
  refine ev_istore (lv2 := [(5, .int (0 : Int32)), (0, .ref v0), (1, .int v1), (2, .int v2), (3, .ref v3), (4, .int v4)]) (i := 5) (by decide) rfl d8_isOpen_1 ?_
  refine ev_iconst ci_0 d8_isOpen_3 ?_
  refine ev_istore (lv2 := [(6, .int (0 : Int32)), (5, .int (0 : Int32)), (0, .ref v0), (1, .int v1), (2, .int v2), (3, .ref v3), (4, .int v4)]) (i := 6) (by decide) rfl d8_isOpen_4 ?_
  exact Ev.sub [2, 3, 4, 5, 6, 1, 0] rfl (s8_isOpen_p6 FU _ _ _ _ _ _ _ _ _ _ hf)
abbrev m6_weigh : MD := ("MillBoats$Planner", ⟨"MillBoats$Planner", "weigh", "()V"⟩, prog_8_method_10_code, 3, (none : Option Jvm.ClassFile.FieldType))
theorem k6_weigh : okY m6_weigh.2.1 0 := ⟨by decide +kernel, by decide +kernel, by decide +kernel⟩
def f6_weigh_p63 : Nat → St → Nat → Int32 → Int32 → Option (Unit × St)
  | 0, _, _, _, _ => none
  | n + 1, σ, v0, v1, v2 =>
  gd (ob σ v0 6) (
  lt (sR σ v0 0) fun b38 => (
  gd (nz b38) (
  gd (ob σ b38 8) (
  (if v2 < (sI σ b38 5) then
  lt (sR σ v0 10) fun b43 => (
  gd (nz b43) (
  bd (f8_powerHad σ b38 v2 b43 (sI σ v0 14)) fun r46 t47 => (
  lt (v1 + r46) fun y50 => (
  lt (v2 + (1 : Int32)) fun y52 => (
  (f6_weigh_p63 n) t47 v0 y50 y52)))))
  else
  (if v1 ≤ (sI σ v0 13) then
  some ((), σ)
  else
  lt (wI σ v0 13 v1) fun t55 => (
  lt (sR t55 v0 10) fun b57 => (
  gd (nz b57) (
  lt (sR t55 v0 11) fun b60 => (
  gd (nz b60) (
  gd (ob t55 b57 14) (
  gd (ob t55 b60 14) (
  gd (cpOk t55 b57 (0 : Int32) b60 (0 : Int32) (6 : Int32)) (
  lt (wCp t55 b57 (ix (0 : Int32)) b60 (ix (0 : Int32)) (ix (6 : Int32))) fun t66 => (
  some ((), t66))))))))))))))))
set_option maxRecDepth 20000 in
theorem s6_weigh_p63 : ∀ (n : Nat) (σ : St) (v0 : Nat) (v1 : Int32) (v2 : Int32) (r : Unit) (τ : St), f6_weigh_p63 n σ v0 v1 v2 = some (r, τ) → Ev 6 m6_weigh 63 [(0, .ref v0), (1, .int v1), (2, .int v2)] [] σ none τ := by
  intro n
  induction n with
  | zero =>
    intro σ v0 v1 v2 r τ hf
    cases hf
  | succ n ih =>
    intro σ v0 v1 v2 r τ hf
    rw [f6_weigh_p63] at hf
    refine ev_iload_n (j := 2) (i := 2) (q := 2) rfl rfl d6_weigh_63 ?_
    refine ev_aload_n (j := 0) (i := 0) (q := 0) rfl rfl d6_weigh_64 ?_
    obtain ⟨h37, hf⟩ := gd_some hf
    obtain ⟨b38, e39, hf⟩ := lt_some hf
    obtain ⟨h40, hf⟩ := gd_some hf
    refine ev_getRb cls6 (j := 0) (by decide) rfl w417 h37 e39 (nz_ne h40) d6_weigh_65 ?_
    obtain ⟨h41, hf⟩ := gd_some hf
    refine ev_getIN cls8 (j := 5) (by decide) rfl w124 h41 d6_weigh_68 ?_
    rcases ite_some hf with ⟨c42, hf⟩ | ⟨c42, hf⟩
    · refine ev_icmp_ge_P (tgt := 99) c42 (by decide) d6_weigh_71 ?_
      refine ev_iload_n (j := 1) (i := 1) (q := 1) rfl rfl d6_weigh_74 ?_
      refine ev_aload_n (j := 0) (i := 0) (q := 0) rfl rfl d6_weigh_75 ?_
      refine ev_getRb cls6 (j := 0) (by decide) rfl w417 h37 e39 (nz_ne h40) d6_weigh_76 ?_
      refine ev_iload_n (j := 2) (i := 2) (q := 2) rfl rfl d6_weigh_79 ?_
      refine ev_aload_n (j := 0) (i := 0) (q := 0) rfl rfl d6_weigh_80 ?_
      obtain ⟨b43, e44, hf⟩ := lt_some hf
      obtain ⟨h45, hf⟩ := gd_some hf
      refine ev_getRb cls6 (j := 10) (by decide) rfl w429 h37 e44 (nz_ne h45) d6_weigh_81 ?_
      refine ev_aload_n (j := 0) (i := 0) (q := 0) rfl rfl d6_weigh_84 ?_
      refine ev_getI cls6 (j := 14) (by decide) rfl w433 h37 d6_weigh_85 ?_
      obtain ⟨r46, t47, k48, hf⟩ := bd_some hf
      have q49 := s8_powerHad _ _ _ _ _ _ _ k48
      refine ev_callV (vs := [.int v2, .ref b43, .int (sI σ v0 14)]) (sk := [.int v1]) cls8 h41 q49 (by decide) (Nat.le_of_ble_eq_true rfl) w1069 w619 w620 w2 w621 k8_powerHad rfl (Nat.le_of_ble_eq_true rfl) d6_weigh_88 ?_
      refine ev_iadd d6_weigh_91 ?_
      obtain ⟨y50, e51, hf⟩ := lt_some hf
      refine ev_nmI e51 ?_
      refine ev_istore_n (lv2 := [(1, .int y50), (0, .ref v0), (2, .int v2)]) (j := 1) (i := 1) rfl (by decide) rfl d6_weigh_92 ?_
      obtain ⟨y52, e53, hf⟩ := lt_some hf
      refine ev_iinc (lv2 := [(2, .int y52), (1, .int y50), (0, .ref v0)]) (i := 2) (q := 2) (v := y52) (n := 1) rfl (by rw [ci_1]; exact e53.symm) (by decide) rfl d6_weigh_93 ?_
      refine ev_goto (tgt := 63) (by decide) d6_weigh_96 ?_
      exact Ev.sub [2, 1, 0] rfl (ih _ _ _ _ _ _ hf)
    · refine ev_icmp_ge_Q (tgt := 99) c42 (by decide) d6_weigh_71 ?_
      refine ev_iload_n (j := 1) (i := 1) (q := 1) rfl rfl d6_weigh_99 ?_
      refine ev_aload_n (j := 0) (i := 0) (q := 0) rfl rfl d6_weigh_100 ?_
      refine ev_getI cls6 (j := 13) (by decide) rfl w432 h37 d6_weigh_101 ?_
      rcases ite_some hf with ⟨c54, hf⟩ | ⟨c54, hf⟩
      · refine ev_icmp_le_P (tgt := 127) c54 (by decide) d6_weigh_104 ?_
        obtain ⟨-, rfl⟩ := ret_some hf
        exact ev_vret rfl d6_weigh_127
      · refine ev_icmp_le_Q (tgt := 127) c54 (by decide) d6_weigh_104 ?_
        refine ev_aload_n (j := 0) (i := 0) (q := 0) rfl rfl d6_weigh_107 ?_
        refine ev_iload_n (j := 1) (i := 1) (q := 1) rfl rfl d6_weigh_108 ?_
        obtain ⟨t55, e56, hf⟩ := lt_some hf
        refine ev_putI cls6 (j := 13) (by decide) rfl rfl w432 h37 (fun _ => ⟨rfl, rfl⟩) d6_weigh_109 (ev_nmS e56 ?_)
        refine ev_aload_n (j := 0) (i := 0) (q := 0) rfl rfl d6_weigh_112 ?_
        obtain ⟨b57, e58, hf⟩ := lt_some hf
        obtain ⟨h59, hf⟩ := gd_some hf
        refine ev_getRb cls6 (j := 10) (by decide) rfl w429 (mono_ob (mono_eI e56) h37) e58 (nz_ne h59) d6_weigh_113 ?_
        refine ev_iconst ci_0 d6_weigh_116 ?_
        refine ev_aload_n (j := 0) (i := 0) (q := 0) rfl rfl d6_weigh_117 ?_
        obtain ⟨b60, e61, hf⟩ := lt_some hf
        obtain ⟨h62, hf⟩ := gd_some hf
        refine ev_getRb cls6 (j := 11) (by decide) rfl w430 (mono_ob (mono_eI e56) h37) e61 (nz_ne h62) d6_weigh_118 ?_
        refine ev_iconst ci_0 d6_weigh_121 ?_
        refine ev_bipush cb_6 d6_weigh_122 ?_
        obtain ⟨h63, hf⟩ := gd_some hf
        obtain ⟨h64, hf⟩ := gd_some hf
        obtain ⟨h65, hf⟩ := gd_some hf
        obtain ⟨t66, e67, hf⟩ := lt_some hf
        refine ev_copyi w1070 w656 w655 w20 h63 h64 h65 (by decide) (Nat.le_of_ble_eq_true rfl) d6_weigh_124 (ev_nmS e67 ?_)
        obtain ⟨-, rfl⟩ := ret_some hf
        exact ev_vret rfl d6_weigh_127
def f6_weigh_p2 : Nat → St → Nat → Int32 → Option (Unit × St)
  | 0, _, _, _ => none
  | n + 1, σ, v0, v1 =>
  gd (ob σ v0 6) (
  (if v1 < (sI σ v0 12) then
  lt (sR σ v0 4) fun b3 => (
  gd (nz b3) (
  gd (ob σ b3 14) (
  gd (inb σ b3 v1) (
  lt (sI σ b3 (ix v1)) fun y8 => (
  lt (sR σ v0 0) fun b10 => (
  gd (nz b10) (
  lt (sR σ v0 10) fun b13 => (
  gd (nz b13) (
  gd (ob σ b10 8) (
  bd (f8_pullBorne σ b10 y8 b13 (sI σ v0 14) (sI σ v0 15)) fun r17 t18 => (
  lt (sR t18 v0 0) fun b21 => (
  gd (nz b21) (
  gd (ob t18 b21 8) (
  lt (sR t18 b21 2) fun b25 => (
  gd (nz b25) (
  gd (ob t18 b25 17) (
  gd (inb t18 b25 y8) (
  lt (sR t18 b25 (ix y8)) fun b30 => (
  gd (nz b30) (
  gd (ob t18 b30 0) (
  (if r17 ≤ (sI t18 b30 2) then
  lt (v1 + (1 : Int32)) fun y35 => (
  (f6_weigh_p2 n) t18 v0 y35)
  else
  some ((), t18)))))))))))))))))))))))
  else
  f6_weigh_p63 FU σ v0 (0 : Int32) (0 : Int32)))
set_option maxRecDepth 20000 in
theorem s6_weigh_p2 : ∀ (n : Nat) (σ : St) (v0 : Nat) (v1 : Int32) (r : Unit) (τ : St), f6_weigh_p2 n σ v0 v1 = some (r, τ) → Ev 6 m6_weigh 2 [(0, .ref v0), (1, .int v1)] [] σ none τ := by
  intro n
  induction n with
  | zero =>
    intro σ v0 v1 r τ hf
    cases hf
  | succ n ih =>
    intro σ v0 v1 r τ hf
    rw [f6_weigh_p2] at hf
    refine ev_iload_n (j := 1) (i := 1) (q := 1) rfl rfl d6_weigh_2 ?_
    refine ev_aload_n (j := 0) (i := 0) (q := 0) rfl rfl d6_weigh_3 ?_
    obtain ⟨h1, hf⟩ := gd_some hf
    refine ev_getI cls6 (j := 12) (by decide) rfl w431 h1 d6_weigh_4 ?_
    rcases ite_some hf with ⟨c2, hf⟩ | ⟨c2, hf⟩
    · refine ev_icmp_ge_P (tgt := 59) c2 (by decide) d6_weigh_7 ?_
      refine ev_aload_n (j := 0) (i := 0) (q := 0) rfl rfl d6_weigh_10 ?_
      obtain ⟨b3, e4, hf⟩ := lt_some hf
      obtain ⟨h5, hf⟩ := gd_some hf
      refine ev_getRb cls6 (j := 4) (by decide) rfl w423 h1 e4 (nz_ne h5) d6_weigh_11 ?_
      refine ev_iload_n (j := 1) (i := 1) (q := 1) rfl rfl d6_weigh_14 ?_
      obtain ⟨h6, hf⟩ := gd_some hf
      obtain ⟨h7, hf⟩ := gd_some hf
      refine ev_iald h6 h7 d6_weigh_15 ?_
      obtain ⟨y8, e9, hf⟩ := lt_some hf
      refine ev_nmI e9 ?_
      refine ev_istore_n (lv2 := [(2, .int y8), (0, .ref v0), (1, .int v1)]) (j := 2) (i := 2) rfl (by decide) rfl d6_weigh_16 ?_
      refine ev_aload_n (j := 0) (i := 0) (q := 1) rfl rfl d6_weigh_17 ?_
      obtain ⟨b10, e11, hf⟩ := lt_some hf
      obtain ⟨h12, hf⟩ := gd_some hf
      refine ev_getRb cls6 (j := 0) (by decide) rfl w417 h1 e11 (nz_ne h12) d6_weigh_18 ?_
      refine ev_iload_n (j := 2) (i := 2) (q := 0) rfl rfl d6_weigh_21 ?_
      refine ev_aload_n (j := 0) (i := 0) (q := 1) rfl rfl d6_weigh_22 ?_
      obtain ⟨b13, e14, hf⟩ := lt_some hf
      obtain ⟨h15, hf⟩ := gd_some hf
      refine ev_getRb cls6 (j := 10) (by decide) rfl w429 h1 e14 (nz_ne h15) d6_weigh_23 ?_
      refine ev_aload_n (j := 0) (i := 0) (q := 1) rfl rfl d6_weigh_26 ?_
      refine ev_getI cls6 (j := 14) (by decide) rfl w433 h1 d6_weigh_27 ?_
      refine ev_aload_n (j := 0) (i := 0) (q := 1) rfl rfl d6_weigh_30 ?_
      refine ev_getI cls6 (j := 15) (by decide) rfl w434 h1 d6_weigh_31 ?_
      obtain ⟨h16, hf⟩ := gd_some hf
      obtain ⟨r17, t18, k19, hf⟩ := bd_some hf
      have q20 := s8_pullBorne _ _ _ _ _ _ _ _ k19
      refine ev_callV (vs := [.int y8, .ref b13, .int (sI σ v0 14), .int (sI σ v0 15)]) (sk := []) cls8 h16 q20 (by decide) (Nat.le_of_ble_eq_true rfl) w1068 w643 w644 w2 w645 k8_pullBorne rfl (Nat.le_of_ble_eq_true rfl) d6_weigh_34 ?_
      refine ev_aload_n (j := 0) (i := 0) (q := 1) rfl rfl d6_weigh_37 ?_
      obtain ⟨b21, e22, hf⟩ := lt_some hf
      obtain ⟨h23, hf⟩ := gd_some hf
      refine ev_getRb cls6 (j := 0) (by decide) rfl w417 (mono_ob q20.1 h1) e22 (nz_ne h23) d6_weigh_38 ?_
      obtain ⟨h24, hf⟩ := gd_some hf
      obtain ⟨b25, e26, hf⟩ := lt_some hf
      obtain ⟨h27, hf⟩ := gd_some hf
      refine ev_getRNb cls8 (j := 2) (by decide) rfl w113 h24 e26 (nz_ne h27) d6_weigh_41 ?_
      refine ev_iload_n (j := 2) (i := 2) (q := 0) rfl rfl d6_weigh_44 ?_
      obtain ⟨h28, hf⟩ := gd_some hf
      obtain ⟨h29, hf⟩ := gd_some hf
      obtain ⟨b30, e31, hf⟩ := lt_some hf
      obtain ⟨h32, hf⟩ := gd_some hf
      refine ev_qaldb (kd := 17) (by decide) (by decide) rfl h28 h29 e31 (nz_ne h32) d6_weigh_45 ?_
      obtain ⟨h33, hf⟩ := gd_some hf
      refine ev_getIN cls0 (j := 2) (by decide) rfl w73 h33 d6_weigh_46 ?_
      rcases ite_some hf with ⟨c34, hf⟩ | ⟨c34, hf⟩
      · refine ev_icmp_le_P (tgt := 53) c34 (by decide) d6_weigh_49 ?_
        obtain ⟨y35, e36, hf⟩ := lt_some hf
        refine ev_iinc (lv2 := [(1, .int y35), (2, .int y8), (0, .ref v0)]) (i := 1) (q := 2) (v := y35) (n := 1) rfl (by rw [ci_1]; exact e36.symm) (by decide) rfl d6_weigh_53 ?_
        refine ev_goto (tgt := 2) (by decide) d6_weigh_56 ?_
        exact Ev.sub [2, 0] rfl (ih _ _ _ _ _ hf)
      · refine ev_icmp_le_Q (tgt := 53) c34 (by decide) d6_weigh_49 ?_
        obtain ⟨-, rfl⟩ := ret_some hf
        exact ev_vret rfl d6_weigh_52
    · refine ev_icmp_ge_Q (tgt := 59) c2 (by decide) d6_weigh_7 ?_
      refine ev_iconst ci_0 d6_weigh_59 ?_
      refine ev_istore_n (lv2 := [(1, .int (0 : Int32)), (0, .ref v0)]) (j := 1) (i := 1) rfl (by decide) rfl d6_weigh_60 ?_
      refine ev_iconst ci_0 d6_weigh_61 ?_
      refine ev_istore_n (lv2 := [(2, .int (0 : Int32)), (1, .int (0 : Int32)), (0, .ref v0)]) (j := 2) (i := 2) rfl (by decide) rfl d6_weigh_62 ?_
      exact Ev.sub [2, 1, 0] rfl (s6_weigh_p63 FU _ _ _ _ _ _ hf)
def f6_weigh (σ : St) (v0 : Nat) : Option (Unit × St) :=
  f6_weigh_p2 FU σ v0 (0 : Int32)
set_option maxRecDepth 50000 in
theorem s6_weigh : ∀ (σ : St) (v0 : Nat) (r : Unit) (τ : St), f6_weigh σ v0 = some (r, τ) → Call 6 m6_weigh [.ref v0] σ none τ := by
  intro σ v0 r τ hf
  unfold f6_weigh at hf
  refine Call.of (by decide +kernel) rfl (Nat.le_of_ble_eq_true rfl) ?_
  refine ev_iconst ci_0 d6_weigh_0 ?_
  refine ev_istore_n (lv2 := [(1, .int (0 : Int32)), (0, .ref v0)]) (j := 1) (i := 1) rfl (by decide) rfl d6_weigh_1 ?_
  exact Ev.sub [1, 0] rfl (s6_weigh_p2 FU _ _ _ _ _ hf)
abbrev m6_tryBerth : MD := ("MillBoats$Planner", ⟨"MillBoats$Planner", "tryBerth", "(II)V"⟩, prog_8_method_9_code, 4, (none : Option Jvm.ClassFile.FieldType))
theorem k6_tryBerth : okY m6_tryBerth.2.1 2 := ⟨by decide +kernel, by decide +kernel, by decide +kernel⟩
abbrev m6_tryMill : MD := ("MillBoats$Planner", ⟨"MillBoats$Planner", "tryMill", "(I)V"⟩, prog_8_method_8_code, 4, (none : Option Jvm.ClassFile.FieldType))
theorem k6_tryMill : okY m6_tryMill.2.1 1 := ⟨by decide +kernel, by decide +kernel, by decide +kernel⟩
def f6_tryBerth_p79 (F : St → Nat → Int32 → Option (Unit × St)) (σ : St) (v0 : Nat) (v3 : Int32) : Option (Unit × St) :=
  gd (ob σ v0 6) (
  lt (sR σ v0 10) fun b62 => (
  gd (nz b62) (
  gd (ob σ b62 14) (
  gd (inb σ b62 v3) (
  lt (wI σ b62 (ix v3) (-1 : Int32)) fun t67 => (
  some ((), t67)))))))
set_option maxRecDepth 20000 in
theorem s6_tryBerth_p79 {F : St → Nat → Int32 → Option (Unit × St)} {dF : Nat} (hB : 7 ≤ dF) (hF : ∀ (σ : St) (a0 : Nat) (a1 : Int32) (r : Unit) (τ : St), F σ a0 a1 = some (r, τ) → Call dF m6_tryMill [.ref a0, .int a1] σ none τ) : ∀ (σ : St) (v0 : Nat) (v3 : Int32) (r : Unit) (τ : St), f6_tryBerth_p79 F σ v0 v3 = some (r, τ) → Ev (dF + 1) m6_tryBerth 79 [(0, .ref v0), (3, .int v3)] [] σ none τ := by
  intro σ v0 v3 r τ hf
  unfold f6_tryBerth_p79 at hf
  refine ev_aload_n (j := 0) (i := 0) (q := 0) rfl rfl d6_tryBerth_79 ?_
  obtain ⟨h61, hf⟩ := gd_some hf
  obtain ⟨b62, e63, hf⟩ := lt_some hf
  obtain ⟨h64, hf⟩ := gd_some hf
  refine ev_getRb cls6 (j := 10) (by decide) rfl w429 h61 e63 (nz_ne h64) d6_tryBerth_80 ?_
  refine ev_iload_n (j := 3) (i := 3) (q := 1) rfl rfl d6_tryBerth_83 ?_
  refine ev_iconst ci_m1 d6_tryBerth_84 ?_
  obtain ⟨h65, hf⟩ := gd_some hf
  obtain ⟨h66, hf⟩ := gd_some hf
  obtain ⟨t67, e68, hf⟩ := lt_some hf
  refine ev_iast h65 h66 d6_tryBerth_85 (ev_nmS e68 ?_)
  obtain ⟨-, rfl⟩ := ret_some hf
  exact ev_vret rfl d6_tryBerth_86
def f6_tryBerth_p72 (F : St → Nat → Int32 → Option (Unit × St)) (σ : St) (v0 : Nat) (v1 : Int32) (v3 : Int32) : Option (Unit × St) :=
  gd (ob σ v0 6) (
  bd (F σ v0 (v1 + (1 : Int32))) fun r57 t58 => (
  f6_tryBerth_p79 F t58 v0 v3))
set_option maxRecDepth 20000 in
theorem s6_tryBerth_p72 {F : St → Nat → Int32 → Option (Unit × St)} {dF : Nat} (hB : 7 ≤ dF) (hF : ∀ (σ : St) (a0 : Nat) (a1 : Int32) (r : Unit) (τ : St), F σ a0 a1 = some (r, τ) → Call dF m6_tryMill [.ref a0, .int a1] σ none τ) : ∀ (σ : St) (v0 : Nat) (v1 : Int32) (v3 : Int32) (r : Unit) (τ : St), f6_tryBerth_p72 F σ v0 v1 v3 = some (r, τ) → Ev (dF + 1) m6_tryBerth 72 [(0, .ref v0), (1, .int v1), (3, .int v3)] [] σ none τ := by
  intro σ v0 v1 v3 r τ hf
  unfold f6_tryBerth_p72 at hf
  refine ev_aload_n (j := 0) (i := 0) (q := 0) rfl rfl d6_tryBerth_72 ?_
  refine ev_iload_n (j := 1) (i := 1) (q := 1) rfl rfl d6_tryBerth_73 ?_
  refine ev_iconst ci_1 d6_tryBerth_74 ?_
  refine ev_iadd d6_tryBerth_75 ?_
  obtain ⟨h56, hf⟩ := gd_some hf
  obtain ⟨r57, t58, k59, hf⟩ := bd_some hf
  have q60 := hF _ _ _ _ _ k59
  refine ev_callV (vs := [.int (v1 + (1 : Int32))]) (sk := []) cls6 h56 q60 (by omega) (Nat.le_of_ble_eq_true rfl) w1060 w1062 ws42 w17 w1063 k6_tryMill rfl (Nat.le_of_ble_eq_true rfl) d6_tryBerth_76 ?_
  exact Ev.sub [0, 2] rfl (s6_tryBerth_p79 hB hF _ _ _ _ _ hf)
def f6_tryBerth_p22 (F : St → Nat → Int32 → Option (Unit × St)) (σ : St) (v0 : Nat) (v1 : Int32) (v2 : Int32) : Option (Unit × St) :=
  gd (ob σ v0 6) (
  lt (sR σ v0 4) fun b16 => (
  gd (nz b16) (
  gd (ob σ b16 14) (
  gd (inb σ b16 v1) (
  lt (sI σ b16 (ix v1)) fun y21 => (
  lt (sR σ v0 10) fun b23 => (
  gd (nz b23) (
  gd (ob σ b23 14) (
  gd (inb σ b23 y21) (
  lt (wI σ b23 (ix y21) v2) fun t28 => (
  (if v2 = (-1 : Int32) then
  f6_tryBerth_p72 F t28 v0 v1 y21
  else
  lt (sR t28 v0 0) fun b31 => (
  gd (nz b31) (
  bd (f11_stretchOf t28 v2) fun r34 t35 => (
  lt (sR t35 v0 9) fun b38 => (
  gd (nz b38) (
  bd (f11_stretchOf t35 v2) fun r41 t42 => (
  gd (ob t42 b38 14) (
  gd (inb t42 b38 r41) (
  lt (sR t42 v0 10) fun b47 => (
  gd (nz b47) (
  gd (ob t42 b31 8) (
  bd (f8_isOpen t42 b31 r34 (sI t42 b38 (ix r41)) b47 (sI t42 v0 14)) fun r51 t52 => (
  (if r51 = (0 : Int32) then
  f6_tryBerth_p79 F t52 v0 y21
  else
  f6_tryBerth_p72 F t52 v0 v1 y21)))))))))))))))))))))))))
set_option maxRecDepth 20000 in
theorem s6_tryBerth_p22 {F : St → Nat → Int32 → Option (Unit × St)} {dF : Nat} (hB : 7 ≤ dF) (hF : ∀ (σ : St) (a0 : Nat) (a1 : Int32) (r : Unit) (τ : St), F σ a0 a1 = some (r, τ) → Call dF m6_tryMill [.ref a0, .int a1] σ none τ) : ∀ (σ : St) (v0 : Nat) (v1 : Int32) (v2 : Int32) (r : Unit) (τ : St), f6_tryBerth_p22 F σ v0 v1 v2 = some (r, τ) → Ev (dF + 1) m6_tryBerth 22 [(0, .ref v0), (1, .int v1), (2, .int v2)] [] σ none τ := by
  intro σ v0 v1 v2 r τ hf
  unfold f6_tryBerth_p22 at hf
  refine ev_aload_n (j := 0) (i := 0) (q := 0) rfl rfl d6_tryBerth_22 ?_
  obtain ⟨h15, hf⟩ := gd_some hf
  obtain ⟨b16, e17, hf⟩ := lt_some hf
  obtain ⟨h18, hf⟩ := gd_some hf
  refine ev_getRb cls6 (j := 4) (by decide) rfl w423 h15 e17 (nz_ne h18) d6_tryBerth_23 ?_
  refine ev_iload_n (j := 1) (i := 1) (q := 1) rfl rfl d6_tryBerth_26 ?_
  obtain ⟨h19, hf⟩ := gd_some hf
  obtain ⟨h20, hf⟩ := gd_some hf
  refine ev_iald h19 h20 d6_tryBerth_27 ?_
  obtain ⟨y21, e22, hf⟩ := lt_some hf
  refine ev_nmI e22 ?_
  refine ev_istore_n (lv2 := [(3, .int y21), (0, .ref v0), (1, .int v1), (2, .int v2)]) (j := 3) (i := 3) rfl (by decide) rfl d6_tryBerth_28 ?_
  refine ev_aload_n (j := 0) (i := 0) (q := 1) rfl rfl d6_tryBerth_29 ?_
  obtain ⟨b23, e24, hf⟩ := lt_some hf
  obtain ⟨h25, hf⟩ := gd_some hf
  refine ev_getRb cls6 (j := 10) (by decide) rfl w429 h15 e24 (nz_ne h25) d6_tryBerth_30 ?_
  refine ev_iload_n (j := 3) (i := 3) (q := 0) rfl rfl d6_tryBerth_33 ?_
  refine ev_iload_n (j := 2) (i := 2) (q := 3) rfl rfl d6_tryBerth_34 ?_
  obtain ⟨h26, hf⟩ := gd_some hf
  obtain ⟨h27, hf⟩ := gd_some hf
  obtain ⟨t28, e29, hf⟩ := lt_some hf
  refine ev_iast h26 h27 d6_tryBerth_35 (ev_nmS e29 ?_)
  refine ev_iload_n (j := 2) (i := 2) (q := 3) rfl rfl d6_tryBerth_36 ?_
  refine ev_iconst ci_m1 d6_tryBerth_37 ?_
  rcases ite_some hf with ⟨c30, hf⟩ | ⟨c30, hf⟩
  · refine ev_icmp_eq_P (tgt := 72) c30 (by decide) d6_tryBerth_38 ?_
    exact Ev.sub [1, 2, 0] rfl (s6_tryBerth_p72 hB hF _ _ _ _ _ _ hf)
  · refine ev_icmp_eq_Q (tgt := 72) c30 (by decide) d6_tryBerth_38 ?_
    refine ev_aload_n (j := 0) (i := 0) (q := 1) rfl rfl d6_tryBerth_41 ?_
    obtain ⟨b31, e32, hf⟩ := lt_some hf
    obtain ⟨h33, hf⟩ := gd_some hf
    refine ev_getRb cls6 (j := 0) (by decide) rfl w417 (mono_ob (mono_eI e29) h15) e32 (nz_ne h33) d6_tryBerth_42 ?_
    refine ev_iload_n (j := 2) (i := 2) (q := 3) rfl rfl d6_tryBerth_45 ?_
    obtain ⟨r34, t35, k36, hf⟩ := bd_some hf
    have q37 := s11_stretchOf _ _ _ _ k36
    refine ev_callSN (vs := [.int v2]) (sk := [.ref b31]) q37 (by omega) (Nat.le_of_ble_eq_true rfl) w1075 w867 w1 w868 k11_stretchOf rfl (Nat.le_of_ble_eq_true rfl) d6_tryBerth_46 ?_
    refine ev_aload_n (j := 0) (i := 0) (q := 1) rfl rfl d6_tryBerth_49 ?_
    obtain ⟨b38, e39, hf⟩ := lt_some hf
    obtain ⟨h40, hf⟩ := gd_some hf
    refine ev_getRb cls6 (j := 9) (by decide) rfl w428 (mono_ob q37.1 (mono_ob (mono_eI e29) h15)) e39 (nz_ne h40) d6_tryBerth_50 ?_
    refine ev_iload_n (j := 2) (i := 2) (q := 3) rfl rfl d6_tryBerth_53 ?_
    obtain ⟨r41, t42, k43, hf⟩ := bd_some hf
    have q44 := s11_stretchOf _ _ _ _ k43
    refine ev_callSN (vs := [.int v2]) (sk := [.ref b38, .int r34, .ref b31]) q44 (by omega) (Nat.le_of_ble_eq_true rfl) w1075 w867 w1 w868 k11_stretchOf rfl (Nat.le_of_ble_eq_true rfl) d6_tryBerth_54 ?_
    obtain ⟨h45, hf⟩ := gd_some hf
    obtain ⟨h46, hf⟩ := gd_some hf
    refine ev_iald h45 h46 d6_tryBerth_57 ?_
    refine ev_aload_n (j := 0) (i := 0) (q := 1) rfl rfl d6_tryBerth_58 ?_
    obtain ⟨b47, e48, hf⟩ := lt_some hf
    obtain ⟨h49, hf⟩ := gd_some hf
    refine ev_getRb cls6 (j := 10) (by decide) rfl w429 (mono_ob q44.1 (mono_ob q37.1 (mono_ob (mono_eI e29) h15))) e48 (nz_ne h49) d6_tryBerth_59 ?_
    refine ev_aload_n (j := 0) (i := 0) (q := 1) rfl rfl d6_tryBerth_62 ?_
    refine ev_getI cls6 (j := 14) (by decide) rfl w433 (mono_ob q44.1 (mono_ob q37.1 (mono_ob (mono_eI e29) h15))) d6_tryBerth_63 ?_
    obtain ⟨h50, hf⟩ := gd_some hf
    obtain ⟨r51, t52, k53, hf⟩ := bd_some hf
    have q54 := s8_isOpen _ _ _ _ _ _ _ _ k53
    refine ev_callV (vs := [.int r34, .int (sI t42 b38 (ix r41)), .ref b47, .int (sI t42 v0 14)]) (sk := []) cls8 h50 q54 (by omega) (Nat.le_of_ble_eq_true rfl) w1037 w932 w933 w2 w934 k8_isOpen rfl (Nat.le_of_ble_eq_true rfl) d6_tryBerth_66 ?_
    rcases ite_some hf with ⟨c55, hf⟩ | ⟨c55, hf⟩
    · refine ev_if_eq_P (tgt := 79) c55 (by decide) d6_tryBerth_69 ?_
      exact Ev.sub [1, 0] rfl (s6_tryBerth_p79 hB hF _ _ _ _ _ hf)
    · refine ev_if_eq_Q (tgt := 79) c55 (by decide) d6_tryBerth_69 ?_
      exact Ev.sub [1, 2, 0] rfl (s6_tryBerth_p72 hB hF _ _ _ _ _ _ hf)
def f6_tryBerth (F : St → Nat → Int32 → Option (Unit × St)) (σ : St) (v0 : Nat) (v1 : Int32) (v2 : Int32) : Option (Unit × St) :=
  (if v2 = (-1 : Int32) then
  f6_tryBerth_p22 F σ v0 v1 v2
  else
  gd (ob σ v0 6) (
  lt (sR σ v0 0) fun b3 => (
  gd (nz b3) (
  lt (sR σ v0 10) fun b6 => (
  gd (nz b6) (
  gd (ob σ b3 8) (
  bd (f8_lyingAt σ b3 v2 b6) fun r10 t11 => (
  (if r10 = (-1 : Int32) then
  f6_tryBerth_p22 F t11 v0 v1 v2
  else
  some ((), t11))))))))))
set_option maxRecDepth 50000 in
theorem s6_tryBerth {F : St → Nat → Int32 → Option (Unit × St)} {dF : Nat} (hB : 7 ≤ dF) (hF : ∀ (σ : St) (a0 : Nat) (a1 : Int32) (r : Unit) (τ : St), F σ a0 a1 = some (r, τ) → Call dF m6_tryMill [.ref a0, .int a1] σ none τ) : ∀ (σ : St) (v0 : Nat) (v1 : Int32) (v2 : Int32) (r : Unit) (τ : St), f6_tryBerth F σ v0 v1 v2 = some (r, τ) → Call (dF + 1) m6_tryBerth [.ref v0, .int v1, .int v2] σ none τ := by
  intro σ v0 v1 v2 r τ hf
  unfold f6_tryBerth at hf
  refine Call.of (by decide +kernel) rfl (Nat.le_of_ble_eq_true rfl) ?_
  refine ev_iload_n (j := 2) (i := 2) (q := 2) rfl rfl d6_tryBerth_0 ?_
  refine ev_iconst ci_m1 d6_tryBerth_1 ?_
  rcases ite_some hf with ⟨c1, hf⟩ | ⟨c1, hf⟩
  · refine ev_icmp_eq_P (tgt := 22) c1 (by decide) d6_tryBerth_2 ?_
    exact Ev.sub [0, 1, 2] rfl (s6_tryBerth_p22 hB hF _ _ _ _ _ _ hf)
  · refine ev_icmp_eq_Q (tgt := 22) c1 (by decide) d6_tryBerth_2 ?_
    refine ev_aload_n (j := 0) (i := 0) (q := 0) rfl rfl d6_tryBerth_5 ?_
    obtain ⟨h2, hf⟩ := gd_some hf
    obtain ⟨b3, e4, hf⟩ := lt_some hf
    obtain ⟨h5, hf⟩ := gd_some hf
    refine ev_getRb cls6 (j := 0) (by decide) rfl w417 h2 e4 (nz_ne h5) d6_tryBerth_6 ?_
    refine ev_iload_n (j := 2) (i := 2) (q := 2) rfl rfl d6_tryBerth_9 ?_
    refine ev_aload_n (j := 0) (i := 0) (q := 0) rfl rfl d6_tryBerth_10 ?_
    obtain ⟨b6, e7, hf⟩ := lt_some hf
    obtain ⟨h8, hf⟩ := gd_some hf
    refine ev_getRb cls6 (j := 10) (by decide) rfl w429 h2 e7 (nz_ne h8) d6_tryBerth_11 ?_
    obtain ⟨h9, hf⟩ := gd_some hf
    obtain ⟨r10, t11, k12, hf⟩ := bd_some hf
    have q13 := s8_lyingAt _ _ _ _ _ _ k12
    refine ev_callV (vs := [.int v2, .ref b6]) (sk := []) cls8 h9 q13 (by omega) (Nat.le_of_ble_eq_true rfl) w1042 w581 w582 w2 w583 k8_lyingAt rfl (Nat.le_of_ble_eq_true rfl) d6_tryBerth_14 ?_
    refine ev_iconst ci_m1 d6_tryBerth_17 ?_
    rcases ite_some hf with ⟨c14, hf⟩ | ⟨c14, hf⟩
    · refine ev_icmp_eq_P (tgt := 22) c14 (by decide) d6_tryBerth_18 ?_
      exact Ev.sub [0, 1, 2] rfl (s6_tryBerth_p22 hB hF _ _ _ _ _ _ hf)
    · refine ev_icmp_eq_Q (tgt := 22) c14 (by decide) d6_tryBerth_18 ?_
      obtain ⟨-, rfl⟩ := ret_some hf
      exact ev_vret rfl d6_tryBerth_21
def f6_tryMill_p107 (F : St → Nat → Int32 → Option (Unit × St)) (K67 : St → Nat → Int32 → Int32 → Int32 → Option (Unit × St)) (σ : St) (v0 : Nat) (v1 : Int32) (v2 : Int32) (v3 : Int32) : Option (Unit × St) :=
  lt (v3 + (1 : Int32)) fun y65 => (
  K67 σ v0 v1 v2 y65)
set_option maxRecDepth 20000 in
theorem s6_tryMill_p107 {F : St → Nat → Int32 → Option (Unit × St)} {dF : Nat} (hB : 7 ≤ dF) (hF : ∀ (σ : St) (a0 : Nat) (a1 : Int32) (r : Unit) (τ : St), F σ a0 a1 = some (r, τ) → Call dF m6_tryMill [.ref a0, .int a1] σ none τ) {K67 : St → Nat → Int32 → Int32 → Int32 → Option (Unit × St)} (hK67 : ∀ (σ : St) (v0 : Nat) (v1 : Int32) (v2 : Int32) (v3 : Int32) (r : Unit) (τ : St), K67 σ v0 v1 v2 v3 = some (r, τ) → Ev (dF + 2) m6_tryMill 67 [(0, .ref v0), (1, .int v1), (2, .int v2), (3, .int v3)] [] σ none τ) : ∀ (σ : St) (v0 : Nat) (v1 : Int32) (v2 : Int32) (v3 : Int32) (r : Unit) (τ : St), f6_tryMill_p107 F K67 σ v0 v1 v2 v3 = some (r, τ) → Ev (dF + 2) m6_tryMill 107 [(0, .ref v0), (1, .int v1), (2, .int v2), (3, .int v3)] [] σ none τ := by
  intro σ v0 v1 v2 v3 r τ hf
  unfold f6_tryMill_p107 at hf
  obtain ⟨y65, e66, hf⟩ := lt_some hf
  refine ev_iinc (lv2 := [(3, .int y65), (0, .ref v0), (1, .int v1), (2, .int v2)]) (i := 3) (q := 3) (v := y65) (n := 1) rfl (by rw [ci_1]; exact e66.symm) (by decide) rfl d6_tryMill_107 ?_
  refine ev_goto (tgt := 67) (by decide) d6_tryMill_110 ?_
  exact Ev.sub [1, 2, 3, 0] rfl (hK67 _ _ _ _ _ _ _ hf)
def f6_tryMill_p67 (F : St → Nat → Int32 → Option (Unit × St)) : Nat → St → Nat → Int32 → Int32 → Int32 → Option (Unit × St)
  | 0, _, _, _, _, _ => none
  | n + 1, σ, v0, v1, v2, v3 =>
  gd (ob σ v0 6) (
  lt (sR σ v0 6) fun b34 => (
  gd (nz b34) (
  gd (ob σ b34 14) (
  gd (inb σ b34 v1) (
  (if v3 < (sI σ b34 (ix v1)) then
  lt (sR σ v0 7) fun b40 => (
  gd (nz b40) (
  gd (ob σ b40 21) (
  gd (inb σ b40 v1) (
  lt (sR σ b40 (ix v1)) fun b45 => (
  gd (nz b45) (
  gd (ob σ b45 14) (
  gd (inb σ b45 v3) (
  (if (v2 + (sI σ b45 (ix v3))) ≤ (sI σ v0 13) then
  f6_tryMill_p107 F (f6_tryMill_p67 F n) σ v0 v1 v2 v3
  else
  lt (sR σ v0 5) fun b51 => (
  gd (nz b51) (
  gd (ob σ b51 21) (
  gd (inb σ b51 v1) (
  lt (sR σ b51 (ix v1)) fun b56 => (
  gd (nz b56) (
  gd (ob σ b56 14) (
  gd (inb σ b56 v3) (
  bd (f6_tryBerth F σ v0 v1 (sI σ b56 (ix v3))) fun r61 t62 => (
  f6_tryMill_p107 F (f6_tryMill_p67 F n) t62 v0 v1 v2 v3))))))))))))))))))
  else
  some ((), σ)))))))
set_option maxRecDepth 20000 in
theorem s6_tryMill_p67 {F : St → Nat → Int32 → Option (Unit × St)} {dF : Nat} (hB : 7 ≤ dF) (hF : ∀ (σ : St) (a0 : Nat) (a1 : Int32) (r : Unit) (τ : St), F σ a0 a1 = some (r, τ) → Call dF m6_tryMill [.ref a0, .int a1] σ none τ) : ∀ (n : Nat) (σ : St) (v0 : Nat) (v1 : Int32) (v2 : Int32) (v3 : Int32) (r : Unit) (τ : St), f6_tryMill_p67 F n σ v0 v1 v2 v3 = some (r, τ) → Ev (dF + 2) m6_tryMill 67 [(0, .ref v0), (1, .int v1), (2, .int v2), (3, .int v3)] [] σ none τ := by
  intro n
  induction n with
  | zero =>
    intro σ v0 v1 v2 v3 r τ hf
    cases hf
  | succ n ih =>
    intro σ v0 v1 v2 v3 r τ hf
    rw [f6_tryMill_p67] at hf
    refine ev_iload_n (j := 3) (i := 3) (q := 3) rfl rfl d6_tryMill_67 ?_
    refine ev_aload_n (j := 0) (i := 0) (q := 0) rfl rfl d6_tryMill_68 ?_
    obtain ⟨h33, hf⟩ := gd_some hf
    obtain ⟨b34, e35, hf⟩ := lt_some hf
    obtain ⟨h36, hf⟩ := gd_some hf
    refine ev_getRb cls6 (j := 6) (by decide) rfl w425 h33 e35 (nz_ne h36) d6_tryMill_69 ?_
    refine ev_iload_n (j := 1) (i := 1) (q := 1) rfl rfl d6_tryMill_72 ?_
    obtain ⟨h37, hf⟩ := gd_some hf
    obtain ⟨h38, hf⟩ := gd_some hf
    refine ev_iald h37 h38 d6_tryMill_73 ?_
    rcases ite_some hf with ⟨c39, hf⟩ | ⟨c39, hf⟩
    · refine ev_icmp_ge_P (tgt := 113) c39 (by decide) d6_tryMill_74 ?_
      refine ev_iload_n (j := 2) (i := 2) (q := 2) rfl rfl d6_tryMill_77 ?_
      refine ev_aload_n (j := 0) (i := 0) (q := 0) rfl rfl d6_tryMill_78 ?_
      obtain ⟨b40, e41, hf⟩ := lt_some hf
      obtain ⟨h42, hf⟩ := gd_some hf
      refine ev_getRb cls6 (j := 7) (by decide) rfl w426 h33 e41 (nz_ne h42) d6_tryMill_79 ?_
      refine ev_iload_n (j := 1) (i := 1) (q := 1) rfl rfl d6_tryMill_82 ?_
      obtain ⟨h43, hf⟩ := gd_some hf
      obtain ⟨h44, hf⟩ := gd_some hf
      obtain ⟨b45, e46, hf⟩ := lt_some hf
      obtain ⟨h47, hf⟩ := gd_some hf
      refine ev_qaldb (kd := 21) (by decide) (by decide) rfl h43 h44 e46 (nz_ne h47) d6_tryMill_83 ?_
      refine ev_iload_n (j := 3) (i := 3) (q := 3) rfl rfl d6_tryMill_84 ?_
      obtain ⟨h48, hf⟩ := gd_some hf
      obtain ⟨h49, hf⟩ := gd_some hf
      refine ev_iald h48 h49 d6_tryMill_85 ?_
      refine ev_iadd d6_tryMill_86 ?_
      refine ev_aload_n (j := 0) (i := 0) (q := 0) rfl rfl d6_tryMill_87 ?_
      refine ev_getI cls6 (j := 13) (by decide) rfl w432 h33 d6_tryMill_88 ?_
      rcases ite_some hf with ⟨c50, hf⟩ | ⟨c50, hf⟩
      · refine ev_icmp_le_P (tgt := 107) c50 (by decide) d6_tryMill_91 ?_
        exact Ev.sub [0, 1, 2, 3] rfl (s6_tryMill_p107 hB hF ih _ _ _ _ _ _ _ hf)
      · refine ev_icmp_le_Q (tgt := 107) c50 (by decide) d6_tryMill_91 ?_
        refine ev_aload_n (j := 0) (i := 0) (q := 0) rfl rfl d6_tryMill_94 ?_
        refine ev_iload_n (j := 1) (i := 1) (q := 1) rfl rfl d6_tryMill_95 ?_
        refine ev_aload_n (j := 0) (i := 0) (q := 0) rfl rfl d6_tryMill_96 ?_
        obtain ⟨b51, e52, hf⟩ := lt_some hf
        obtain ⟨h53, hf⟩ := gd_some hf
        refine ev_getRb cls6 (j := 5) (by decide) rfl w424 h33 e52 (nz_ne h53) d6_tryMill_97 ?_
        refine ev_iload_n (j := 1) (i := 1) (q := 1) rfl rfl d6_tryMill_100 ?_
        obtain ⟨h54, hf⟩ := gd_some hf
        obtain ⟨h55, hf⟩ := gd_some hf
        obtain ⟨b56, e57, hf⟩ := lt_some hf
        obtain ⟨h58, hf⟩ := gd_some hf
        refine ev_qaldb (kd := 21) (by decide) (by decide) rfl h54 h55 e57 (nz_ne h58) d6_tryMill_101 ?_
        refine ev_iload_n (j := 3) (i := 3) (q := 3) rfl rfl d6_tryMill_102 ?_
        obtain ⟨h59, hf⟩ := gd_some hf
        obtain ⟨h60, hf⟩ := gd_some hf
        refine ev_iald h59 h60 d6_tryMill_103 ?_
        obtain ⟨r61, t62, k63, hf⟩ := bd_some hf
        have q64 := s6_tryBerth hB hF _ _ _ _ _ _ k63
        refine ev_callV (vs := [.int v1, .int (sI σ b56 (ix v3))]) (sk := []) cls6 h33 q64 (by omega) (Nat.le_of_ble_eq_true rfl) w1071 w1073 ws44 w17 w1074 k6_tryBerth rfl (Nat.le_of_ble_eq_true rfl) d6_tryMill_104 ?_
        exact Ev.sub [0, 1, 2, 3] rfl (s6_tryMill_p107 hB hF ih _ _ _ _ _ _ _ hf)
    · refine ev_icmp_ge_Q (tgt := 113) c39 (by decide) d6_tryMill_74 ?_
      obtain ⟨-, rfl⟩ := ret_some hf
      exact ev_vret rfl d6_tryMill_113
def f6_tryMill_p29 (F : St → Nat → Int32 → Option (Unit × St)) : Nat → St → Nat → Int32 → Int32 → Int32 → Option (Unit × St)
  | 0, _, _, _, _, _ => none
  | n + 1, σ, v0, v1, v2, v3 =>
  gd (ob σ v0 6) (
  lt (sR σ v0 0) fun b12 => (
  gd (nz b12) (
  gd (ob σ b12 8) (
  (if v3 < (sI σ b12 5) then
  lt (sR σ v0 10) fun b17 => (
  gd (nz b17) (
  bd (f8_topPower σ b12 v3 b17 (sI σ v0 14)) fun r20 t21 => (
  lt (v2 + r20) fun y24 => (
  lt (v3 + (1 : Int32)) fun y26 => (
  (f6_tryMill_p29 F n) t21 v0 v1 y24 y26)))))
  else
  f6_tryMill_p67 F FU σ v0 v1 v2 (0 : Int32))))))
set_option maxRecDepth 20000 in
theorem s6_tryMill_p29 {F : St → Nat → Int32 → Option (Unit × St)} {dF : Nat} (hB : 7 ≤ dF) (hF : ∀ (σ : St) (a0 : Nat) (a1 : Int32) (r : Unit) (τ : St), F σ a0 a1 = some (r, τ) → Call dF m6_tryMill [.ref a0, .int a1] σ none τ) : ∀ (n : Nat) (σ : St) (v0 : Nat) (v1 : Int32) (v2 : Int32) (v3 : Int32) (r : Unit) (τ : St), f6_tryMill_p29 F n σ v0 v1 v2 v3 = some (r, τ) → Ev (dF + 2) m6_tryMill 29 [(0, .ref v0), (1, .int v1), (2, .int v2), (3, .int v3)] [] σ none τ := by
  intro n
  induction n with
  | zero =>
    intro σ v0 v1 v2 v3 r τ hf
    cases hf
  | succ n ih =>
    intro σ v0 v1 v2 v3 r τ hf
    rw [f6_tryMill_p29] at hf
    refine ev_iload_n (j := 3) (i := 3) (q := 3) rfl rfl d6_tryMill_29 ?_
    refine ev_aload_n (j := 0) (i := 0) (q := 0) rfl rfl d6_tryMill_30 ?_
    obtain ⟨h11, hf⟩ := gd_some hf
    obtain ⟨b12, e13, hf⟩ := lt_some hf
    obtain ⟨h14, hf⟩ := gd_some hf
    refine ev_getRb cls6 (j := 0) (by decide) rfl w417 h11 e13 (nz_ne h14) d6_tryMill_31 ?_
    obtain ⟨h15, hf⟩ := gd_some hf
    refine ev_getIN cls8 (j := 5) (by decide) rfl w124 h15 d6_tryMill_34 ?_
    rcases ite_some hf with ⟨c16, hf⟩ | ⟨c16, hf⟩
    · refine ev_icmp_ge_P (tgt := 65) c16 (by decide) d6_tryMill_37 ?_
      refine ev_iload_n (j := 2) (i := 2) (q := 2) rfl rfl d6_tryMill_40 ?_
      refine ev_aload_n (j := 0) (i := 0) (q := 0) rfl rfl d6_tryMill_41 ?_
      refine ev_getRb cls6 (j := 0) (by decide) rfl w417 h11 e13 (nz_ne h14) d6_tryMill_42 ?_
      refine ev_iload_n (j := 3) (i := 3) (q := 3) rfl rfl d6_tryMill_45 ?_
      refine ev_aload_n (j := 0) (i := 0) (q := 0) rfl rfl d6_tryMill_46 ?_
      obtain ⟨b17, e18, hf⟩ := lt_some hf
      obtain ⟨h19, hf⟩ := gd_some hf
      refine ev_getRb cls6 (j := 10) (by decide) rfl w429 h11 e18 (nz_ne h19) d6_tryMill_47 ?_
      refine ev_aload_n (j := 0) (i := 0) (q := 0) rfl rfl d6_tryMill_50 ?_
      refine ev_getI cls6 (j := 14) (by decide) rfl w433 h11 d6_tryMill_51 ?_
      obtain ⟨r20, t21, k22, hf⟩ := bd_some hf
      have q23 := s8_topPower _ _ _ _ _ _ _ k22
      refine ev_callV (vs := [.int v3, .ref b17, .int (sI σ v0 14)]) (sk := [.int v2]) cls8 h15 q23 (by omega) (Nat.le_of_ble_eq_true rfl) w1045 w1046 w1047 w2 w1048 k8_topPower rfl (Nat.le_of_ble_eq_true rfl) d6_tryMill_54 ?_
      refine ev_iadd d6_tryMill_57 ?_
      obtain ⟨y24, e25, hf⟩ := lt_some hf
      refine ev_nmI e25 ?_
      refine ev_istore_n (lv2 := [(2, .int y24), (0, .ref v0), (1, .int v1), (3, .int v3)]) (j := 2) (i := 2) rfl (by decide) rfl d6_tryMill_58 ?_
      obtain ⟨y26, e27, hf⟩ := lt_some hf
      refine ev_iinc (lv2 := [(3, .int y26), (2, .int y24), (0, .ref v0), (1, .int v1)]) (i := 3) (q := 3) (v := y26) (n := 1) rfl (by rw [ci_1]; exact e27.symm) (by decide) rfl d6_tryMill_59 ?_
      refine ev_goto (tgt := 29) (by decide) d6_tryMill_62 ?_
      exact Ev.sub [2, 3, 1, 0] rfl (ih _ _ _ _ _ _ _ hf)
    · refine ev_icmp_ge_Q (tgt := 65) c16 (by decide) d6_tryMill_37 ?_
      refine ev_iconst ci_0 d6_tryMill_65 ?_
      refine ev_istore_n (lv2 := [(3, .int (0 : Int32)), (0, .ref v0), (1, .int v1), (2, .int v2)]) (j := 3) (i := 3) rfl (by decide) rfl d6_tryMill_66 ?_
      exact Ev.sub [1, 2, 3, 0] rfl (s6_tryMill_p67 hB hF FU _ _ _ _ _ _ _ hf)
def f6_tryMill_p13 (F : St → Nat → Int32 → Option (Unit × St)) (σ : St) (v0 : Nat) : Option (Unit × St) :=
  gd (ob σ v0 6) (
  bd (f6_weigh σ v0) fun r29 t30 => (
  some ((), t30)))
set_option maxRecDepth 20000 in
theorem s6_tryMill_p13 {F : St → Nat → Int32 → Option (Unit × St)} {dF : Nat} (hB : 7 ≤ dF) (hF : ∀ (σ : St) (a0 : Nat) (a1 : Int32) (r : Unit) (τ : St), F σ a0 a1 = some (r, τ) → Call dF m6_tryMill [.ref a0, .int a1] σ none τ) : ∀ (σ : St) (v0 : Nat) (r : Unit) (τ : St), f6_tryMill_p13 F σ v0 = some (r, τ) → Ev (dF + 2) m6_tryMill 13 [(0, .ref v0)] [] σ none τ := by
  intro σ v0 r τ hf
  unfold f6_tryMill_p13 at hf
  refine ev_aload_n (j := 0) (i := 0) (q := 0) rfl rfl d6_tryMill_13 ?_
  obtain ⟨h28, hf⟩ := gd_some hf
  obtain ⟨r29, t30, k31, hf⟩ := bd_some hf
  have q32 := s6_weigh _ _ _ _ k31
  refine ev_callV (vs := []) (sk := []) cls6 h28 q32 (by omega) (Nat.le_of_ble_eq_true rfl) w1064 w1066 ws43 w17 w1067 k6_weigh rfl (Nat.le_of_ble_eq_true rfl) d6_tryMill_14 ?_
  obtain ⟨-, rfl⟩ := ret_some hf
  exact ev_vret rfl d6_tryMill_17
def f6_tryMill_b (F : St → Nat → Int32 → Option (Unit × St)) (σ : St) (v0 : Nat) (v1 : Int32) : Option (Unit × St) :=
  gd (ob σ v0 6) (
  (if v1 < (sI σ v0 12) then
  (if v1 < (3 : Int32) then
  lt (sR σ v0 8) fun b4 => (
  gd (nz b4) (
  gd (ob σ b4 14) (
  gd (inb σ b4 (v1 + (1 : Int32))) (
  lt (sI σ b4 (ix (v1 + (1 : Int32)))) fun y9 => (
  f6_tryMill_p29 F FU σ v0 v1 y9 (0 : Int32))))))
  else
  f6_tryMill_p13 F σ v0)
  else
  f6_tryMill_p13 F σ v0))
set_option maxRecDepth 50000 in
theorem s6_tryMill_b {F : St → Nat → Int32 → Option (Unit × St)} {dF : Nat} (hB : 7 ≤ dF) (hF : ∀ (σ : St) (a0 : Nat) (a1 : Int32) (r : Unit) (τ : St), F σ a0 a1 = some (r, τ) → Call dF m6_tryMill [.ref a0, .int a1] σ none τ) : ∀ (σ : St) (v0 : Nat) (v1 : Int32) (r : Unit) (τ : St), f6_tryMill_b F σ v0 v1 = some (r, τ) → Call (dF + 2) m6_tryMill [.ref v0, .int v1] σ none τ := by
  intro σ v0 v1 r τ hf
  unfold f6_tryMill_b at hf
  refine Call.of (by decide +kernel) rfl (Nat.le_of_ble_eq_true rfl) ?_
  refine ev_iload_n (j := 1) (i := 1) (q := 1) rfl rfl d6_tryMill_0 ?_
  refine ev_aload_n (j := 0) (i := 0) (q := 0) rfl rfl d6_tryMill_1 ?_
  obtain ⟨h1, hf⟩ := gd_some hf
  refine ev_getI cls6 (j := 12) (by decide) rfl w431 h1 d6_tryMill_2 ?_
  rcases ite_some hf with ⟨c2, hf⟩ | ⟨c2, hf⟩
  · refine ev_icmp_ge_P (tgt := 13) c2 (by decide) d6_tryMill_5 ?_
    refine ev_iload_n (j := 1) (i := 1) (q := 1) rfl rfl d6_tryMill_8 ?_
    refine ev_iconst ci_3 d6_tryMill_9 ?_
    rcases ite_some hf with ⟨c3, hf⟩ | ⟨c3, hf⟩
    · refine ev_icmp_lt_P (tgt := 18) c3 (by decide) d6_tryMill_10 ?_
      refine ev_aload_n (j := 0) (i := 0) (q := 0) rfl rfl d6_tryMill_18 ?_
      obtain ⟨b4, e5, hf⟩ := lt_some hf
      obtain ⟨h6, hf⟩ := gd_some hf
      refine ev_getRb cls6 (j := 8) (by decide) rfl w427 h1 e5 (nz_ne h6) d6_tryMill_19 ?_
      refine ev_iload_n (j := 1) (i := 1) (q := 1) rfl rfl d6_tryMill_22 ?_
      refine ev_iconst ci_1 d6_tryMill_23 ?_
      refine ev_iadd d6_tryMill_24 ?_
      obtain ⟨h7, hf⟩ := gd_some hf
      obtain ⟨h8, hf⟩ := gd_some hf
      refine ev_iald h7 h8 d6_tryMill_25 ?_
      obtain ⟨y9, e10, hf⟩ := lt_some hf
      refine ev_nmI e10 ?_
      refine ev_istore_n (lv2 := [(2, .int y9), (0, .ref v0), (1, .int v1)]) (j := 2) (i := 2) rfl (by decide) rfl d6_tryMill_26 ?_
      refine ev_iconst ci_0 d6_tryMill_27 ?_
      refine ev_istore_n (lv2 := [(3, .int (0 : Int32)), (2, .int y9), (0, .ref v0), (1, .int v1)]) (j := 3) (i := 3) rfl (by decide) rfl d6_tryMill_28 ?_
      exact Ev.sub [2, 3, 1, 0] rfl (s6_tryMill_p29 hB hF FU _ _ _ _ _ _ _ hf)
    · refine ev_icmp_lt_Q (tgt := 18) c3 (by decide) d6_tryMill_10 ?_
      exact Ev.sub [0] rfl (s6_tryMill_p13 hB hF _ _ _ _ hf)
  · refine ev_icmp_ge_Q (tgt := 13) c2 (by decide) d6_tryMill_5 ?_
    exact Ev.sub [0] rfl (s6_tryMill_p13 hB hF _ _ _ _ hf)
def f6_tryMill : Nat → St → Nat → Int32 → Option (Unit × St)
  | 0, _, _, _ => none
  | n + 1, σ, a0, a1 => f6_tryMill_b (f6_tryMill n) σ a0 a1
theorem s6_tryMill : ∀ (n : Nat) (σ : St) (a0 : Nat) (a1 : Int32) (r : Unit) (τ : St), f6_tryMill n σ a0 a1 = some (r, τ) → Call (7 + 2 * n) m6_tryMill [.ref a0, .int a1] σ none τ := by
  intro n
  induction n with
  | zero =>
    intro σ a0 a1 r τ hf
    cases hf
  | succ n ih =>
    intro σ a0 a1 r τ hf
    rw [f6_tryMill] at hf
    have := s6_tryMill_b (F := f6_tryMill n) (dF := 7 + 2 * n) (by omega) ih σ a0 a1 r τ hf
    rw [show 7 + 2 * (n + 1) = 7 + 2 * n + 2 by omega]
    exact this
abbrev m6_search : MD := ("MillBoats$Planner", ⟨"MillBoats$Planner", "search", "(IIIII)I"⟩, prog_8_method_4_code, 8, (some Jvm.ClassFile.FieldType.int))
theorem k6_search : okY m6_search.2.1 5 := ⟨by decide +kernel, by decide +kernel, by decide +kernel⟩
def f6_search_p124 (K55 : St → Nat → Int32 → Int32 → Int32 → Int32 → Int32 → Int32 → Int32 → Option (Int32 × St)) (σ : St) (v0 : Nat) (v1 : Int32) (v2 : Int32) (v3 : Int32) (v4 : Int32) (v5 : Int32) (v7 : Int32) (x0 : Int32) : Option (Int32 × St) :=
  lt (v7 + (1 : Int32)) fun y74 => (
  K55 σ v0 v1 v2 v3 v4 v5 x0 y74)
set_option maxRecDepth 20000 in
theorem s6_search_p124 {K55 : St → Nat → Int32 → Int32 → Int32 → Int32 → Int32 → Int32 → Int32 → Option (Int32 × St)} (hK55 : ∀ (σ : St) (v0 : Nat) (v1 : Int32) (v2 : Int32) (v3 : Int32) (v4 : Int32) (v5 : Int32) (v6 : Int32) (v7 : Int32) (r : Int32) (τ : St), K55 σ v0 v1 v2 v3 v4 v5 v6 v7 = some (r, τ) → Ev 20 m6_search 55 [(0, .ref v0), (1, .int v1), (2, .int v2), (3, .int v3), (4, .int v4), (5, .int v5), (6, .int v6), (7, .int v7)] [] σ (some (.int r)) τ) : ∀ (σ : St) (v0 : Nat) (v1 : Int32) (v2 : Int32) (v3 : Int32) (v4 : Int32) (v5 : Int32) (v7 : Int32) (x0 : Int32) (r : Int32) (τ : St), f6_search_p124 K55 σ v0 v1 v2 v3 v4 v5 v7 x0 = some (r, τ) → Ev 20 m6_search 124 [(0, .ref v0), (1, .int v1), (2, .int v2), (3, .int v3), (4, .int v4), (5, .int v5), (7, .int v7)] [.int x0] σ (some (.int r)) τ := by
  intro σ v0 v1 v2 v3 v4 v5 v7 x0 r τ hf
  unfold f6_search_p124 at hf
  refine ev_istore (lv2 := [(6, .int x0), (0, .ref v0), (1, .int v1), (2, .int v2), (3, .int v3), (4, .int v4), (5, .int v5), (7, .int v7)]) (i := 6) (by decide) rfl d6_search_124 ?_
  obtain ⟨y74, e75, hf⟩ := lt_some hf
  refine ev_iinc (lv2 := [(7, .int y74), (6, .int x0), (0, .ref v0), (1, .int v1), (2, .int v2), (3, .int v3), (4, .int v4), (5, .int v5)]) (i := 7) (q := 7) (v := y74) (n := 1) rfl (by rw [ci_1]; exact e75.symm) (by decide) rfl d6_search_126 ?_
  refine ev_goto (tgt := 55) (by decide) d6_search_129 ?_
  exact Ev.sub [2, 3, 4, 5, 6, 7, 1, 0] rfl (hK55 _ _ _ _ _ _ _ _ _ _ _ hf)
def f6_search_p123 (K55 : St → Nat → Int32 → Int32 → Int32 → Int32 → Int32 → Int32 → Int32 → Option (Int32 × St)) (σ : St) (v0 : Nat) (v1 : Int32) (v2 : Int32) (v3 : Int32) (v4 : Int32) (v5 : Int32) (v7 : Int32) : Option (Int32 × St) :=
  f6_search_p124 K55 σ v0 v1 v2 v3 v4 v5 v7 (0 : Int32)
set_option maxRecDepth 20000 in
theorem s6_search_p123 {K55 : St → Nat → Int32 → Int32 → Int32 → Int32 → Int32 → Int32 → Int32 → Option (Int32 × St)} (hK55 : ∀ (σ : St) (v0 : Nat) (v1 : Int32) (v2 : Int32) (v3 : Int32) (v4 : Int32) (v5 : Int32) (v6 : Int32) (v7 : Int32) (r : Int32) (τ : St), K55 σ v0 v1 v2 v3 v4 v5 v6 v7 = some (r, τ) → Ev 20 m6_search 55 [(0, .ref v0), (1, .int v1), (2, .int v2), (3, .int v3), (4, .int v4), (5, .int v5), (6, .int v6), (7, .int v7)] [] σ (some (.int r)) τ) : ∀ (σ : St) (v0 : Nat) (v1 : Int32) (v2 : Int32) (v3 : Int32) (v4 : Int32) (v5 : Int32) (v7 : Int32) (r : Int32) (τ : St), f6_search_p123 K55 σ v0 v1 v2 v3 v4 v5 v7 = some (r, τ) → Ev 20 m6_search 123 [(0, .ref v0), (1, .int v1), (2, .int v2), (3, .int v3), (4, .int v4), (5, .int v5), (7, .int v7)] [] σ (some (.int r)) τ := by
  intro σ v0 v1 v2 v3 v4 v5 v7 r τ hf
  unfold f6_search_p123 at hf
  refine ev_iconst ci_0 d6_search_123 ?_
  exact Ev.sub [0, 1, 2, 3, 4, 5, 6] rfl (s6_search_p124 hK55 _ _ _ _ _ _ _ _ _ _ _ hf)
def f6_search_p194 (σ : St) (v0 : Nat) (x0 : Int32) (x1 : Nat) : Option (Int32 × St) :=
  gd (ob σ x1 6) (
  lt (wI σ x1 3 x0) fun t98 => (
  gd (ob t98 v0 6) (
  lt (sR t98 v0 11) fun b101 => (
  gd (nz b101) (
  lt (sR t98 v0 2) fun b104 => (
  gd (nz b104) (
  gd (ob t98 b101 14) (
  gd (ob t98 b104 14) (
  gd (cpOk t98 b101 (0 : Int32) b104 (0 : Int32) (6 : Int32)) (
  lt (wCp t98 b101 (ix (0 : Int32)) b104 (ix (0 : Int32)) (ix (6 : Int32))) fun t110 => (
  some (sI t110 v0 13, t110))))))))))))
set_option maxRecDepth 20000 in
theorem s6_search_p194 : ∀ (σ : St) (v0 : Nat) (x0 : Int32) (x1 : Nat) (r : Int32) (τ : St), f6_search_p194 σ v0 x0 x1 = some (r, τ) → Ev 20 m6_search 194 [(0, .ref v0)] [.int x0, .ref x1] σ (some (.int r)) τ := by
  intro σ v0 x0 x1 r τ hf
  unfold f6_search_p194 at hf
  obtain ⟨h97, hf⟩ := gd_some hf
  obtain ⟨t98, e99, hf⟩ := lt_some hf
  refine ev_putI cls6 (j := 3) (by decide) rfl rfl w422 h97 (fun _ => ⟨rfl, rfl⟩) d6_search_194 (ev_nmS e99 ?_)
  refine ev_aload_n (j := 0) (i := 0) (q := 0) rfl rfl d6_search_197 ?_
  obtain ⟨h100, hf⟩ := gd_some hf
  obtain ⟨b101, e102, hf⟩ := lt_some hf
  obtain ⟨h103, hf⟩ := gd_some hf
  refine ev_getRb cls6 (j := 11) (by decide) rfl w430 h100 e102 (nz_ne h103) d6_search_198 ?_
  refine ev_iconst ci_0 d6_search_201 ?_
  refine ev_aload_n (j := 0) (i := 0) (q := 0) rfl rfl d6_search_202 ?_
  obtain ⟨b104, e105, hf⟩ := lt_some hf
  obtain ⟨h106, hf⟩ := gd_some hf
  refine ev_getRb cls6 (j := 2) (by decide) rfl w419 h100 e105 (nz_ne h106) d6_search_203 ?_
  refine ev_iconst ci_0 d6_search_206 ?_
  refine ev_bipush cb_6 d6_search_207 ?_
  obtain ⟨h107, hf⟩ := gd_some hf
  obtain ⟨h108, hf⟩ := gd_some hf
  obtain ⟨h109, hf⟩ := gd_some hf
  obtain ⟨t110, e111, hf⟩ := lt_some hf
  refine ev_copyi w1070 w656 w655 w20 h107 h108 h109 (by decide) (Nat.le_of_ble_eq_true rfl) d6_search_209 (ev_nmS e111 ?_)
  refine ev_aload_n (j := 0) (i := 0) (q := 0) rfl rfl d6_search_212 ?_
  refine ev_getI cls6 (j := 13) (by decide) rfl w432 (mono_ob (mono_eC e111) h100) d6_search_213 ?_
  obtain ⟨rfl, rfl⟩ := ret_some hf
  exact ev_iret rfl d6_search_216
def f6_search_p181 (σ : St) (v0 : Nat) (v3 : Int32) : Option (Int32 × St) :=
  gd (ob σ v0 6) (
  (if (sI σ v0 13) < (0 : Int32) then
  f6_search_p194 σ v0 (0 : Int32) v0
  else
  f6_search_p194 σ v0 v3 v0))
set_option maxRecDepth 20000 in
theorem s6_search_p181 : ∀ (σ : St) (v0 : Nat) (v3 : Int32) (r : Int32) (τ : St), f6_search_p181 σ v0 v3 = some (r, τ) → Ev 20 m6_search 181 [(0, .ref v0), (3, .int v3)] [] σ (some (.int r)) τ := by
  intro σ v0 v3 r τ hf
  unfold f6_search_p181 at hf
  refine ev_aload_n (j := 0) (i := 0) (q := 0) rfl rfl d6_search_181 ?_
  refine ev_aload_n (j := 0) (i := 0) (q := 0) rfl rfl d6_search_182 ?_
  obtain ⟨h95, hf⟩ := gd_some hf
  refine ev_getI cls6 (j := 13) (by decide) rfl w432 h95 d6_search_183 ?_
  rcases ite_some hf with ⟨c96, hf⟩ | ⟨c96, hf⟩
  · refine ev_if_ge_P (tgt := 193) c96 (by decide) d6_search_186 ?_
    refine ev_iconst ci_0 d6_search_189 ?_
    refine ev_goto (tgt := 194) (by decide) d6_search_190 ?_
    exact Ev.sub [0] rfl (s6_search_p194 _ _ _ _ _ _ hf)
  · refine ev_if_ge_Q (tgt := 193) c96 (by decide) d6_search_186 ?_
    refine ev_iload_n (j := 3) (i := 3) (q := 1) rfl rfl d6_search_193 ?_
    exact Ev.sub [0] rfl (s6_search_p194 _ _ _ _ _ _ hf)
def f6_search_p135 : Nat → St → Nat → Int32 → Int32 → Int32 → Int32 → Int32 → Int32 → Int32 → Option (Int32 × St)
  | 0, _, _, _, _, _, _, _, _, _ => none
  | n + 1, σ, v0, v1, v2, v3, v4, v5, v6, v7 =>
  gd (ob σ v0 6) (
  (if v7 < (sI σ v0 12) then
  bd (f6_listChoices σ v0 v7 v1 v2 v4 v5) fun r78 t79 => (
  lt (v7 + (1 : Int32)) fun y82 => (
  (f6_search_p135 n) t79 v0 v1 v2 v3 v4 v5 v6 y82))
  else
  bd (f6_sumTops σ v0) fun r84 t85 => (
  lt (wI t85 v0 13 (-1 : Int32)) fun t88 => (
  (if v6 = (0 : Int32) then
  f6_search_p181 t88 v0 v3
  else
  bd (f6_tryMill 6 t88 v0 (0 : Int32)) fun r91 t92 => (
  f6_search_p181 t92 v0 v3))))))
set_option maxRecDepth 20000 in
theorem s6_search_p135 : ∀ (n : Nat) (σ : St) (v0 : Nat) (v1 : Int32) (v2 : Int32) (v3 : Int32) (v4 : Int32) (v5 : Int32) (v6 : Int32) (v7 : Int32) (r : Int32) (τ : St), f6_search_p135 n σ v0 v1 v2 v3 v4 v5 v6 v7 = some (r, τ) → Ev 20 m6_search 135 [(0, .ref v0), (1, .int v1), (2, .int v2), (3, .int v3), (4, .int v4), (5, .int v5), (6, .int v6), (7, .int v7)] [] σ (some (.int r)) τ := by
  intro n
  induction n with
  | zero =>
    intro σ v0 v1 v2 v3 v4 v5 v6 v7 r τ hf
    cases hf
  | succ n ih =>
    intro σ v0 v1 v2 v3 v4 v5 v6 v7 r τ hf
    rw [f6_search_p135] at hf
    refine ev_iload (i := 7) (q := 7) rfl d6_search_135 ?_
    refine ev_aload_n (j := 0) (i := 0) (q := 0) rfl rfl d6_search_137 ?_
    obtain ⟨h76, hf⟩ := gd_some hf
    refine ev_getI cls6 (j := 12) (by decide) rfl w431 h76 d6_search_138 ?_
    rcases ite_some hf with ⟨c77, hf⟩ | ⟨c77, hf⟩
    · refine ev_icmp_ge_P (tgt := 162) c77 (by decide) d6_search_141 ?_
      refine ev_aload_n (j := 0) (i := 0) (q := 0) rfl rfl d6_search_144 ?_
      refine ev_iload (i := 7) (q := 7) rfl d6_search_145 ?_
      refine ev_iload_n (j := 1) (i := 1) (q := 1) rfl rfl d6_search_147 ?_
      refine ev_iload_n (j := 2) (i := 2) (q := 2) rfl rfl d6_search_148 ?_
      refine ev_iload (i := 4) (q := 4) rfl d6_search_149 ?_
      refine ev_iload (i := 5) (q := 5) rfl d6_search_151 ?_
      obtain ⟨r78, t79, k80, hf⟩ := bd_some hf
      have q81 := s6_listChoices _ _ _ _ _ _ _ _ _ k80
      refine ev_callV (vs := [.int v7, .int v1, .int v2, .int v4, .int v5]) (sk := []) cls6 h76 q81 (by decide) (Nat.le_of_ble_eq_true rfl) w1038 w1040 ws40 w17 w1041 k6_listChoices rfl (Nat.le_of_ble_eq_true rfl) d6_search_153 ?_
      obtain ⟨y82, e83, hf⟩ := lt_some hf
      refine ev_iinc (lv2 := [(7, .int y82), (0, .ref v0), (1, .int v1), (2, .int v2), (3, .int v3), (4, .int v4), (5, .int v5), (6, .int v6)]) (i := 7) (q := 7) (v := y82) (n := 1) rfl (by rw [ci_1]; exact e83.symm) (by decide) rfl d6_search_156 ?_
      refine ev_goto (tgt := 135) (by decide) d6_search_159 ?_
      exact Ev.sub [1, 2, 3, 4, 5, 6, 7, 0] rfl (ih _ _ _ _ _ _ _ _ _ _ _ hf)
    · refine ev_icmp_ge_Q (tgt := 162) c77 (by decide) d6_search_141 ?_
      refine ev_aload_n (j := 0) (i := 0) (q := 0) rfl rfl d6_search_162 ?_
      obtain ⟨r84, t85, k86, hf⟩ := bd_some hf
      have q87 := s6_sumTops _ _ _ _ k86
      refine ev_callV (vs := []) (sk := []) cls6 h76 q87 (by decide) (Nat.le_of_ble_eq_true rfl) w1055 w1057 ws41 w17 w1058 k6_sumTops rfl (Nat.le_of_ble_eq_true rfl) d6_search_163 ?_
      refine ev_aload_n (j := 0) (i := 0) (q := 0) rfl rfl d6_search_166 ?_
      refine ev_iconst ci_m1 d6_search_167 ?_
      obtain ⟨t88, e89, hf⟩ := lt_some hf
      refine ev_putI cls6 (j := 13) (by decide) rfl rfl w432 (mono_ob q87.1 h76) (fun _ => ⟨rfl, rfl⟩) d6_search_168 (ev_nmS e89 ?_)
      refine ev_iload (i := 6) (q := 6) rfl d6_search_171 ?_
      rcases ite_some hf with ⟨c90, hf⟩ | ⟨c90, hf⟩
      · refine ev_if_eq_P (tgt := 181) c90 (by decide) d6_search_173 ?_
        exact Ev.sub [0, 3] rfl (s6_search_p181 _ _ _ _ _ hf)
      · refine ev_if_eq_Q (tgt := 181) c90 (by decide) d6_search_173 ?_
        refine ev_aload_n (j := 0) (i := 0) (q := 0) rfl rfl d6_search_176 ?_
        refine ev_iconst ci_0 d6_search_177 ?_
        obtain ⟨r91, t92, k93, hf⟩ := bd_some hf
        have q94 := s6_tryMill 6 _ _ _ _ _ k93
        refine ev_callV (vs := [.int (0 : Int32)]) (sk := []) cls6 (mono_ob (mono_eI e89) (mono_ob q87.1 h76)) q94 (by omega) (Nat.le_of_ble_eq_true rfl) w1060 w1062 ws42 w17 w1063 k6_tryMill rfl (Nat.le_of_ble_eq_true rfl) d6_search_178 ?_
        exact Ev.sub [0, 3] rfl (s6_search_p181 _ _ _ _ _ hf)
def f6_search_p132 (σ : St) (v0 : Nat) (v1 : Int32) (v2 : Int32) (v3 : Int32) (v4 : Int32) (v5 : Int32) (v6 : Int32) : Option (Int32 × St) :=
  f6_search_p135 FU σ v0 v1 v2 v3 v4 v5 v6 (0 : Int32)
set_option maxRecDepth 20000 in
theorem s6_search_p132 : ∀ (σ : St) (v0 : Nat) (v1 : Int32) (v2 : Int32) (v3 : Int32) (v4 : Int32) (v5 : Int32) (v6 : Int32) (r : Int32) (τ : St), f6_search_p132 σ v0 v1 v2 v3 v4 v5 v6 = some (r, τ) → Ev 20 m6_search 132 [(0, .ref v0), (1, .int v1), (2, .int v2), (3, .int v3), (4, .int v4), (5, .int v5), (6, .int v6)] [] σ (some (.int r)) τ := by
  intro σ v0 v1 v2 v3 v4 v5 v6 r τ hf
  unfold f6_search_p132 at hf
  refine ev_iconst ci_0 d6_search_132 ?_
  refine ev_istore (lv2 := [(7, .int (0 : Int32)), (0, .ref v0), (1, .int v1), (2, .int v2), (3, .int v3), (4, .int v4), (5, .int v5), (6, .int v6)]) (i := 7) (by decide) rfl d6_search_133 ?_
  exact Ev.sub [1, 2, 3, 4, 5, 6, 7, 0] rfl (s6_search_p135 FU _ _ _ _ _ _ _ _ _ _ _ hf)
def f6_search_p55 : Nat → St → Nat → Int32 → Int32 → Int32 → Int32 → Int32 → Int32 → Int32 → Option (Int32 × St)
  | 0, _, _, _, _, _, _, _, _, _ => none
  | n + 1, σ, v0, v1, v2, v3, v4, v5, v6, v7 =>
  (if v7 ≤ v5 then
  (if v7 < (12 : Int32) then
  gd (ob σ v0 6) (
  lt (sR σ v0 9) fun b41 => (
  gd (nz b41) (
  lt (sR σ v0 1) fun b44 => (
  gd (nz b44) (
  gd (ob σ b44 4) (
  bd (f4_wayOn σ b44 v7 v1 v2) fun r48 t49 => (
  gd (ob t49 b41 14) (
  gd (inb t49 b41 v7) (
  lt (wI t49 b41 (ix v7) r48) fun t54 => (
  (if v6 = (0 : Int32) then
  f6_search_p123 (f6_search_p55 n) t54 v0 v1 v2 v3 v4 v5 v7
  else
  lt (sR t54 v0 0) fun b57 => (
  gd (nz b57) (
  lt (sR t54 v0 9) fun b60 => (
  gd (nz b60) (
  gd (ob t54 b60 14) (
  gd (inb t54 b60 v7) (
  lt (sR t54 v0 10) fun b65 => (
  gd (nz b65) (
  gd (ob t54 b57 8) (
  bd (f8_isOpen t54 b57 v7 (sI t54 b60 (ix v7)) b65 (sI t54 v0 14)) fun r69 t70 => (
  (if r69 = (0 : Int32) then
  f6_search_p123 (f6_search_p55 n) t70 v0 v1 v2 v3 v4 v5 v7
  else
  f6_search_p124 (f6_search_p55 n) t70 v0 v1 v2 v3 v4 v5 v7 (1 : Int32)))))))))))))))))))))))
  else
  f6_search_p132 σ v0 v1 v2 v3 v4 v5 v6)
  else
  f6_search_p132 σ v0 v1 v2 v3 v4 v5 v6)
set_option maxRecDepth 20000 in
theorem s6_search_p55 : ∀ (n : Nat) (σ : St) (v0 : Nat) (v1 : Int32) (v2 : Int32) (v3 : Int32) (v4 : Int32) (v5 : Int32) (v6 : Int32) (v7 : Int32) (r : Int32) (τ : St), f6_search_p55 n σ v0 v1 v2 v3 v4 v5 v6 v7 = some (r, τ) → Ev 20 m6_search 55 [(0, .ref v0), (1, .int v1), (2, .int v2), (3, .int v3), (4, .int v4), (5, .int v5), (6, .int v6), (7, .int v7)] [] σ (some (.int r)) τ := by
  intro n
  induction n with
  | zero =>
    intro σ v0 v1 v2 v3 v4 v5 v6 v7 r τ hf
    cases hf
  | succ n ih =>
    intro σ v0 v1 v2 v3 v4 v5 v6 v7 r τ hf
    rw [f6_search_p55] at hf
    refine ev_iload (i := 7) (q := 7) rfl d6_search_55 ?_
    refine ev_iload (i := 5) (q := 5) rfl d6_search_57 ?_
    rcases ite_some hf with ⟨c38, hf⟩ | ⟨c38, hf⟩
    · refine ev_icmp_gt_P (tgt := 132) c38 (by decide) d6_search_59 ?_
      refine ev_iload (i := 7) (q := 7) rfl d6_search_62 ?_
      refine ev_bipush cb_12 d6_search_64 ?_
      rcases ite_some hf with ⟨c39, hf⟩ | ⟨c39, hf⟩
      · refine ev_icmp_ge_P (tgt := 132) c39 (by decide) d6_search_66 ?_
        refine ev_aload_n (j := 0) (i := 0) (q := 0) rfl rfl d6_search_69 ?_
        obtain ⟨h40, hf⟩ := gd_some hf
        obtain ⟨b41, e42, hf⟩ := lt_some hf
        obtain ⟨h43, hf⟩ := gd_some hf
        refine ev_getRb cls6 (j := 9) (by decide) rfl w428 h40 e42 (nz_ne h43) d6_search_70 ?_
        refine ev_iload (i := 7) (q := 7) rfl d6_search_73 ?_
        refine ev_aload_n (j := 0) (i := 0) (q := 0) rfl rfl d6_search_75 ?_
        obtain ⟨b44, e45, hf⟩ := lt_some hf
        obtain ⟨h46, hf⟩ := gd_some hf
        refine ev_getRb cls6 (j := 1) (by decide) rfl w418 h40 e45 (nz_ne h46) d6_search_76 ?_
        refine ev_iload (i := 7) (q := 7) rfl d6_search_79 ?_
        refine ev_iload_n (j := 1) (i := 1) (q := 1) rfl rfl d6_search_81 ?_
        refine ev_iload_n (j := 2) (i := 2) (q := 2) rfl rfl d6_search_82 ?_
        obtain ⟨h47, hf⟩ := gd_some hf
        obtain ⟨r48, t49, k50, hf⟩ := bd_some hf
        have q51 := s4_wayOn _ _ _ _ _ _ _ k50
        refine ev_callV (vs := [.int v7, .int v1, .int v2]) (sk := [.int v7, .ref b41]) cls4 h47 q51 (by decide) (Nat.le_of_ble_eq_true rfl) w1036 w914 w915 w6 w916 k4_wayOn rfl (Nat.le_of_ble_eq_true rfl) d6_search_83 ?_
        obtain ⟨h52, hf⟩ := gd_some hf
        obtain ⟨h53, hf⟩ := gd_some hf
        obtain ⟨t54, e55, hf⟩ := lt_some hf
        refine ev_iast h52 h53 d6_search_86 (ev_nmS e55 ?_)
        refine ev_iload (i := 6) (q := 6) rfl d6_search_87 ?_
        rcases ite_some hf with ⟨c56, hf⟩ | ⟨c56, hf⟩
        · refine ev_if_eq_P (tgt := 123) c56 (by decide) d6_search_89 ?_
          exact Ev.sub [0, 1, 2, 3, 4, 5, 7] rfl (s6_search_p123 ih _ _ _ _ _ _ _ _ _ _ hf)
        · refine ev_if_eq_Q (tgt := 123) c56 (by decide) d6_search_89 ?_
          refine ev_aload_n (j := 0) (i := 0) (q := 0) rfl rfl d6_search_92 ?_
          obtain ⟨b57, e58, hf⟩ := lt_some hf
          obtain ⟨h59, hf⟩ := gd_some hf
          refine ev_getRb cls6 (j := 0) (by decide) rfl w417 (mono_ob (mono_eI e55) (mono_ob q51.1 h40)) e58 (nz_ne h59) d6_search_93 ?_
          refine ev_iload (i := 7) (q := 7) rfl d6_search_96 ?_
          refine ev_aload_n (j := 0) (i := 0) (q := 0) rfl rfl d6_search_98 ?_
          obtain ⟨b60, e61, hf⟩ := lt_some hf
          obtain ⟨h62, hf⟩ := gd_some hf
          refine ev_getRb cls6 (j := 9) (by decide) rfl w428 (mono_ob (mono_eI e55) (mono_ob q51.1 h40)) e61 (nz_ne h62) d6_search_99 ?_
          refine ev_iload (i := 7) (q := 7) rfl d6_search_102 ?_
          obtain ⟨h63, hf⟩ := gd_some hf
          obtain ⟨h64, hf⟩ := gd_some hf
          refine ev_iald h63 h64 d6_search_104 ?_
          refine ev_aload_n (j := 0) (i := 0) (q := 0) rfl rfl d6_search_105 ?_
          obtain ⟨b65, e66, hf⟩ := lt_some hf
          obtain ⟨h67, hf⟩ := gd_some hf
          refine ev_getRb cls6 (j := 10) (by decide) rfl w429 (mono_ob (mono_eI e55) (mono_ob q51.1 h40)) e66 (nz_ne h67) d6_search_106 ?_
          refine ev_aload_n (j := 0) (i := 0) (q := 0) rfl rfl d6_search_109 ?_
          refine ev_getI cls6 (j := 14) (by decide) rfl w433 (mono_ob (mono_eI e55) (mono_ob q51.1 h40)) d6_search_110 ?_
          obtain ⟨h68, hf⟩ := gd_some hf
          obtain ⟨r69, t70, k71, hf⟩ := bd_some hf
          have q72 := s8_isOpen _ _ _ _ _ _ _ _ k71
          refine ev_callV (vs := [.int v7, .int (sI t54 b60 (ix v7)), .ref b65, .int (sI t54 v0 14)]) (sk := []) cls8 h68 q72 (by decide) (Nat.le_of_ble_eq_true rfl) w1037 w932 w933 w2 w934 k8_isOpen rfl (Nat.le_of_ble_eq_true rfl) d6_search_113 ?_
          rcases ite_some hf with ⟨c73, hf⟩ | ⟨c73, hf⟩
          · refine ev_if_eq_P (tgt := 123) c73 (by decide) d6_search_116 ?_
            exact Ev.sub [0, 1, 2, 3, 4, 5, 7] rfl (s6_search_p123 ih _ _ _ _ _ _ _ _ _ _ hf)
          · refine ev_if_eq_Q (tgt := 123) c73 (by decide) d6_search_116 ?_
            refine ev_iconst ci_1 d6_search_119 ?_
            refine ev_goto (tgt := 124) (by decide) d6_search_120 ?_
            exact Ev.sub [0, 1, 2, 3, 4, 5, 7] rfl (s6_search_p124 ih _ _ _ _ _ _ _ _ _ _ _ hf)
      · refine ev_icmp_ge_Q (tgt := 132) c39 (by decide) d6_search_66 ?_
        exact Ev.sub [0, 1, 2, 3, 4, 5, 6] rfl (s6_search_p132 _ _ _ _ _ _ _ _ _ _ hf)
    · refine ev_icmp_gt_Q (tgt := 132) c38 (by decide) d6_search_59 ?_
      exact Ev.sub [0, 1, 2, 3, 4, 5, 6] rfl (s6_search_p132 _ _ _ _ _ _ _ _ _ _ hf)
def f6_search_p40 (σ : St) (v0 : Nat) (v1 : Int32) (v2 : Int32) (v3 : Int32) (v4 : Int32) (v5 : Int32) (x0 : Int32) (x1 : Nat) : Option (Int32 × St) :=
  gd (ob σ x1 6) (
  gd (isB x0) (
  lt (wI σ x1 15 x0) fun t31 => (
  gd (ob t31 v0 6) (
  bd (f6_chooseMills t31 v0 v3) fun r34 t35 => (
  f6_search_p55 FU t35 v0 v1 v2 v3 v4 v5 (1 : Int32) v4)))))
set_option maxRecDepth 20000 in
theorem s6_search_p40 : ∀ (σ : St) (v0 : Nat) (v1 : Int32) (v2 : Int32) (v3 : Int32) (v4 : Int32) (v5 : Int32) (x0 : Int32) (x1 : Nat) (r : Int32) (τ : St), f6_search_p40 σ v0 v1 v2 v3 v4 v5 x0 x1 = some (r, τ) → Ev 20 m6_search 40 [(0, .ref v0), (1, .int v1), (2, .int v2), (3, .int v3), (4, .int v4), (5, .int v5)] [.int x0, .ref x1] σ (some (.int r)) τ := by
  intro σ v0 v1 v2 v3 v4 v5 x0 x1 r τ hf
  unfold f6_search_p40 at hf
  obtain ⟨h29, hf⟩ := gd_some hf
  obtain ⟨h30, hf⟩ := gd_some hf
  obtain ⟨t31, e32, hf⟩ := lt_some hf
  refine ev_putI cls6 (j := 15) (by decide) rfl rfl w434 h29 (narB2 h30) d6_search_40 (ev_nmS e32 ?_)
  refine ev_aload_n (j := 0) (i := 0) (q := 0) rfl rfl d6_search_43 ?_
  refine ev_iload_n (j := 3) (i := 3) (q := 3) rfl rfl d6_search_44 ?_
  obtain ⟨h33, hf⟩ := gd_some hf
  obtain ⟨r34, t35, k36, hf⟩ := bd_some hf
  have q37 := s6_chooseMills _ _ _ _ _ k36
  refine ev_callV (vs := [.int v3]) (sk := []) cls6 h33 q37 (by decide) (Nat.le_of_ble_eq_true rfl) w1032 w1034 ws39 w17 w1035 k6_chooseMills rfl (Nat.le_of_ble_eq_true rfl) d6_search_45 ?_
  refine ev_iconst ci_1 d6_search_48 ?_
  refine ev_istore (lv2 := [(6, .int (1 : Int32)), (0, .ref v0), (1, .int v1), (2, .int v2), (3, .int v3), (4, .int v4), (5, .int v5)]) (i := 6) (by decide) rfl d6_search_49 ?_
  refine ev_iload (i := 4) (q := 5) rfl d6_search_51 ?_
  refine ev_istore (lv2 := [(7, .int v4), (6, .int (1 : Int32)), (0, .ref v0), (1, .int v1), (2, .int v2), (3, .int v3), (4, .int v4), (5, .int v5)]) (i := 7) (by decide) rfl d6_search_53 ?_
  exact Ev.sub [2, 3, 4, 5, 6, 7, 1, 0] rfl (s6_search_p55 FU _ _ _ _ _ _ _ _ _ _ _ hf)
def f6_search (σ : St) (v0 : Nat) (v1 : Int32) (v2 : Int32) (v3 : Int32) (v4 : Int32) (v5 : Int32) : Option (Int32 × St) :=
  gd (ob σ v0 6) (
  lt (sR σ v0 1) fun b2 => (
  gd (nz b2) (
  gd (ob σ b2 4) (
  lt (sR σ b2 1) fun b6 => (
  gd (nz b6) (
  gd (ob σ b6 1) (
  bd (f1_latestOr σ b6 v1 v2 (5 : Int32)) fun r10 t11 => (
  lt (wI t11 v0 14 r10) fun t14 => (
  lt (sR t14 v0 1) fun b16 => (
  gd (nz b16) (
  gd (ob t14 b16 4) (
  lt (sR t14 b16 2) fun b20 => (
  gd (nz b20) (
  gd (ob t14 b20 1) (
  bd (f1_exactOr t14 b20 v1 v2 (0 : Int32)) fun r24 t25 => (
  (if r24 = (1 : Int32) then
  f6_search_p40 t25 v0 v1 v2 v3 v4 v5 (1 : Int32) v0
  else
  f6_search_p40 t25 v0 v1 v2 v3 v4 v5 (0 : Int32) v0)))))))))))))))))
set_option maxRecDepth 50000 in
theorem s6_search : ∀ (σ : St) (v0 : Nat) (v1 : Int32) (v2 : Int32) (v3 : Int32) (v4 : Int32) (v5 : Int32) (r : Int32) (τ : St), f6_search σ v0 v1 v2 v3 v4 v5 = some (r, τ) → Call 20 m6_search [.ref v0, .int v1, .int v2, .int v3, .int v4, .int v5] σ (some (.int r)) τ := by
  intro σ v0 v1 v2 v3 v4 v5 r τ hf
  unfold f6_search at hf
  refine Call.of (by decide +kernel) rfl (Nat.le_of_ble_eq_true rfl) ?_
  refine ev_aload_n (j := 0) (i := 0) (q := 0) rfl rfl d6_search_0 ?_
  refine ev_aload_n (j := 0) (i := 0) (q := 0) rfl rfl d6_search_1 ?_
  obtain ⟨h1, hf⟩ := gd_some hf
  obtain ⟨b2, e3, hf⟩ := lt_some hf
  obtain ⟨h4, hf⟩ := gd_some hf
  refine ev_getRb cls6 (j := 1) (by decide) rfl w418 h1 e3 (nz_ne h4) d6_search_2 ?_
  obtain ⟨h5, hf⟩ := gd_some hf
  obtain ⟨b6, e7, hf⟩ := lt_some hf
  obtain ⟨h8, hf⟩ := gd_some hf
  refine ev_getRNb cls4 (j := 1) (by decide) rfl w316 h5 e7 (nz_ne h8) d6_search_5 ?_
  refine ev_iload_n (j := 1) (i := 1) (q := 1) rfl rfl d6_search_8 ?_
  refine ev_iload_n (j := 2) (i := 2) (q := 2) rfl rfl d6_search_9 ?_
  refine ev_iconst ci_5 d6_search_10 ?_
  obtain ⟨h9, hf⟩ := gd_some hf
  obtain ⟨r10, t11, k12, hf⟩ := bd_some hf
  have q13 := s1_latestOr _ _ _ _ _ _ _ k12
  refine ev_callV (vs := [.int v1, .int v2, .int (5 : Int32)]) (sk := [.ref v0]) cls1 h9 q13 (by decide) (Nat.le_of_ble_eq_true rfl) w1030 w682 w683 w7 w684 k1_latestOr rfl (Nat.le_of_ble_eq_true rfl) d6_search_11 ?_
  obtain ⟨t14, e15, hf⟩ := lt_some hf
  refine ev_putI cls6 (j := 14) (by decide) rfl rfl w433 (mono_ob q13.1 h1) (fun _ => ⟨rfl, rfl⟩) d6_search_14 (ev_nmS e15 ?_)
  refine ev_aload_n (j := 0) (i := 0) (q := 0) rfl rfl d6_search_17 ?_
  refine ev_aload_n (j := 0) (i := 0) (q := 0) rfl rfl d6_search_18 ?_
  obtain ⟨b16, e17, hf⟩ := lt_some hf
  obtain ⟨h18, hf⟩ := gd_some hf
  refine ev_getRb cls6 (j := 1) (by decide) rfl w418 (mono_ob (mono_eI e15) (mono_ob q13.1 h1)) e17 (nz_ne h18) d6_search_19 ?_
  obtain ⟨h19, hf⟩ := gd_some hf
  obtain ⟨b20, e21, hf⟩ := lt_some hf
  obtain ⟨h22, hf⟩ := gd_some hf
  refine ev_getRNb cls4 (j := 2) (by decide) rfl w319 h19 e21 (nz_ne h22) d6_search_22 ?_
  refine ev_iload_n (j := 1) (i := 1) (q := 1) rfl rfl d6_search_25 ?_
  refine ev_iload_n (j := 2) (i := 2) (q := 2) rfl rfl d6_search_26 ?_
  refine ev_iconst ci_0 d6_search_27 ?_
  obtain ⟨h23, hf⟩ := gd_some hf
  obtain ⟨r24, t25, k26, hf⟩ := bd_some hf
  have q27 := s1_exactOr _ _ _ _ _ _ _ k26
  refine ev_callV (vs := [.int v1, .int v2, .int (0 : Int32)]) (sk := [.ref v0]) cls1 h23 q27 (by decide) (Nat.le_of_ble_eq_true rfl) w1031 w694 w695 w7 w696 k1_exactOr rfl (Nat.le_of_ble_eq_true rfl) d6_search_28 ?_
  refine ev_iconst ci_1 d6_search_31 ?_
  rcases ite_some hf with ⟨c28, hf⟩ | ⟨c28, hf⟩
  · refine ev_icmp_ne_P (tgt := 39) c28 (by decide) d6_search_32 ?_
    refine ev_iconst ci_1 d6_search_35 ?_
    refine ev_goto (tgt := 40) (by decide) d6_search_36 ?_
    exact Ev.sub [0, 1, 2, 3, 4, 5] rfl (s6_search_p40 _ _ _ _ _ _ _ _ _ _ _ hf)
  · refine ev_icmp_ne_Q (tgt := 39) c28 (by decide) d6_search_32 ?_
    refine ev_iconst ci_0 d6_search_39 ?_
    exact Ev.sub [0, 1, 2, 3, 4, 5] rfl (s6_search_p40 _ _ _ _ _ _ _ _ _ _ _ hf)
abbrev m7_refuse : MD := ("MillBoats$Reader", ⟨"MillBoats$Reader", "refuse", "(I)Z"⟩, prog_9_method_12_code, 2, (some Jvm.ClassFile.FieldType.boolean))
theorem k7_refuse : okY m7_refuse.2.1 1 := ⟨by decide +kernel, by decide +kernel, by decide +kernel⟩
def f7_refuse_p38 (σ : St) (x0 : Int32) (x1 : Nat) : Option (Int32 × St) :=
  gd (ob σ x1 7) (
  lt (wI σ x1 12 x0) fun t12 => (
  some ((0 : Int32), t12)))
set_option maxRecDepth 20000 in
theorem s7_refuse_p38 : ∀ (σ : St) (x0 : Int32) (x1 : Nat) (r : Int32) (τ : St), f7_refuse_p38 σ x0 x1 = some (r, τ) → Ev 2 m7_refuse 38 [] [.int x0, .ref x1] σ (some (.int r)) τ := by
  intro σ x0 x1 r τ hf
  unfold f7_refuse_p38 at hf
  obtain ⟨h11, hf⟩ := gd_some hf
  obtain ⟨t12, e13, hf⟩ := lt_some hf
  refine ev_putI cls7 (j := 12) (by decide) rfl rfl w284 h11 (fun _ => ⟨rfl, rfl⟩) d7_refuse_38 (ev_nmS e13 ?_)
  refine ev_iconst ci_0 d7_refuse_41 ?_
  obtain ⟨rfl, rfl⟩ := ret_some hf
  exact ev_zret rfl (by decide) d7_refuse_42
def f7_refuse_p37 (σ : St) (x0 : Nat) : Option (Int32 × St) :=
  f7_refuse_p38 σ (-1 : Int32) x0
set_option maxRecDepth 20000 in
theorem s7_refuse_p37 : ∀ (σ : St) (x0 : Nat) (r : Int32) (τ : St), f7_refuse_p37 σ x0 = some (r, τ) → Ev 2 m7_refuse 37 [] [.ref x0] σ (some (.int r)) τ := by
  intro σ x0 r τ hf
  unfold f7_refuse_p37 at hf
  refine ev_iconst ci_m1 d7_refuse_37 ?_
  exact Ev.sub [] rfl (s7_refuse_p38 _ _ _ _ _ hf)
def f7_refuse (σ : St) (v0 : Nat) (v1 : Int32) : Option (Int32 × St) :=
  gd (ob σ v0 7) (
  lt (wI σ v0 11 v1) fun t2 => (
  (if (sI t2 v0 7) < (0 : Int32) then
  f7_refuse_p37 t2 v0
  else
  lt (sR t2 v0 1) fun b5 => (
  gd (nz b5) (
  gd (ob t2 b5 14) (
  (if (sI t2 v0 7) < (Int32.ofNat (sK t2 b5).2) then
  gd (inb t2 b5 (sI t2 v0 7)) (
  f7_refuse_p38 t2 (sI t2 b5 (ix (sI t2 v0 7))) v0)
  else
  f7_refuse_p37 t2 v0)))))))
set_option maxRecDepth 50000 in
theorem s7_refuse : ∀ (σ : St) (v0 : Nat) (v1 : Int32) (r : Int32) (τ : St), f7_refuse σ v0 v1 = some (r, τ) → Call 2 m7_refuse [.ref v0, .int v1] σ (some (.int r)) τ := by
  intro σ v0 v1 r τ hf
  unfold f7_refuse at hf
  refine Call.of (by decide +kernel) rfl (Nat.le_of_ble_eq_true rfl) ?_
  refine ev_aload_n (j := 0) (i := 0) (q := 0) rfl rfl d7_refuse_0 ?_
  refine ev_iload_n (j := 1) (i := 1) (q := 1) rfl rfl d7_refuse_1 ?_
  obtain ⟨h1, hf⟩ := gd_some hf
  obtain ⟨t2, e3, hf⟩ := lt_some hf
  refine ev_putI cls7 (j := 11) (by decide) rfl rfl w283 h1 (fun _ => ⟨rfl, rfl⟩) d7_refuse_2 (ev_nmS e3 ?_)
  refine ev_aload_n (j := 0) (i := 0) (q := 0) rfl rfl d7_refuse_5 ?_
  refine ev_aload_n (j := 0) (i := 0) (q := 0) rfl rfl d7_refuse_6 ?_
  refine ev_getI cls7 (j := 7) (by decide) rfl w279 (mono_ob (mono_eI e3) h1) d7_refuse_7 ?_
  rcases ite_some hf with ⟨c4, hf⟩ | ⟨c4, hf⟩
  · refine ev_if_lt_P (tgt := 37) c4 (by decide) d7_refuse_10 ?_
    exact Ev.sub [] rfl (s7_refuse_p37 _ _ _ _ hf)
  · refine ev_if_lt_Q (tgt := 37) c4 (by decide) d7_refuse_10 ?_
    refine ev_aload_n (j := 0) (i := 0) (q := 0) rfl rfl d7_refuse_13 ?_
    refine ev_getI cls7 (j := 7) (by decide) rfl w279 (mono_ob (mono_eI e3) h1) d7_refuse_14 ?_
    refine ev_aload_n (j := 0) (i := 0) (q := 0) rfl rfl d7_refuse_17 ?_
    obtain ⟨b5, e6, hf⟩ := lt_some hf
    obtain ⟨h7, hf⟩ := gd_some hf
    refine ev_getRb cls7 (j := 1) (by decide) rfl w272 (mono_ob (mono_eI e3) h1) e6 (nz_ne h7) d7_refuse_18 ?_
    obtain ⟨h8, hf⟩ := gd_some hf
    refine ev_alen (kd := 14) (by decide) (by decide) h8 d7_refuse_21 ?_
    rcases ite_some hf with ⟨c9, hf⟩ | ⟨c9, hf⟩
    · refine ev_icmp_ge_P (tgt := 37) c9 (by decide) d7_refuse_22 ?_
      refine ev_aload_n (j := 0) (i := 0) (q := 0) rfl rfl d7_refuse_25 ?_
      refine ev_getRb cls7 (j := 1) (by decide) rfl w272 (mono_ob (mono_eI e3) h1) e6 (nz_ne h7) d7_refuse_26 ?_
      refine ev_aload_n (j := 0) (i := 0) (q := 0) rfl rfl d7_refuse_29 ?_
      refine ev_getI cls7 (j := 7) (by decide) rfl w279 (mono_ob (mono_eI e3) h1) d7_refuse_30 ?_
      obtain ⟨h10, hf⟩ := gd_some hf
      refine ev_iald h8 h10 d7_refuse_33 ?_
      refine ev_goto (tgt := 38) (by decide) d7_refuse_34 ?_
      exact Ev.sub [] rfl (s7_refuse_p38 _ _ _ _ _ hf)
    · refine ev_icmp_ge_Q (tgt := 37) c9 (by decide) d7_refuse_22 ?_
      exact Ev.sub [] rfl (s7_refuse_p37 _ _ _ _ hf)
abbrev m7_step : MD := ("MillBoats$Reader", ⟨"MillBoats$Reader", "step", "()V"⟩, prog_9_method_11_code, 1, (none : Option Jvm.ClassFile.FieldType))
theorem k7_step : okY m7_step.2.1 0 := ⟨by decide +kernel, by decide +kernel, by decide +kernel⟩
def f7_step (σ : St) (v0 : Nat) : Option (Unit × St) :=
  gd (ob σ v0 7) (
  (if (sI σ v0 7) < ((sI σ v0 6) - (1 : Int32)) then
  lt (sR σ v0 0) fun b3 => (
  gd (nz b3) (
  gd (ob σ b3 14) (
  (if (sI σ v0 7) < ((Int32.ofNat (sK σ b3).2) - (1 : Int32)) then
  lt (wI σ v0 7 ((sI σ v0 7) + (1 : Int32))) fun t8 => (
  gd (inb t8 b3 (sI t8 v0 7)) (
  lt (wI t8 v0 8 (sI t8 b3 (ix (sI t8 v0 7)))) fun t11 => (
  some ((), t11))))
  else
  some ((), σ)))))
  else
  some ((), σ)))
set_option maxRecDepth 50000 in
theorem s7_step : ∀ (σ : St) (v0 : Nat) (r : Unit) (τ : St), f7_step σ v0 = some (r, τ) → Call 2 m7_step [.ref v0] σ none τ := by
  intro σ v0 r τ hf
  unfold f7_step at hf
  refine Call.of (by decide +kernel) rfl (Nat.le_of_ble_eq_true rfl) ?_
  refine ev_aload_n (j := 0) (i := 0) (q := 0) rfl rfl d7_step_0 ?_
  obtain ⟨h1, hf⟩ := gd_some hf
  refine ev_getI cls7 (j := 7) (by decide) rfl w279 h1 d7_step_1 ?_
  refine ev_aload_n (j := 0) (i := 0) (q := 0) rfl rfl d7_step_4 ?_
  refine ev_getI cls7 (j := 6) (by decide) rfl w278 h1 d7_step_5 ?_
  refine ev_iconst ci_1 d7_step_8 ?_
  refine ev_isub d7_step_9 ?_
  rcases ite_some hf with ⟨c2, hf⟩ | ⟨c2, hf⟩
  · refine ev_icmp_ge_P (tgt := 50) c2 (by decide) d7_step_10 ?_
    refine ev_aload_n (j := 0) (i := 0) (q := 0) rfl rfl d7_step_13 ?_
    refine ev_getI cls7 (j := 7) (by decide) rfl w279 h1 d7_step_14 ?_
    refine ev_aload_n (j := 0) (i := 0) (q := 0) rfl rfl d7_step_17 ?_
    obtain ⟨b3, e4, hf⟩ := lt_some hf
    obtain ⟨h5, hf⟩ := gd_some hf
    refine ev_getRb cls7 (j := 0) (by decide) rfl w271 h1 e4 (nz_ne h5) d7_step_18 ?_
    obtain ⟨h6, hf⟩ := gd_some hf
    refine ev_alen (kd := 14) (by decide) (by decide) h6 d7_step_21 ?_
    refine ev_iconst ci_1 d7_step_22 ?_
    refine ev_isub d7_step_23 ?_
    rcases ite_some hf with ⟨c7, hf⟩ | ⟨c7, hf⟩
    · refine ev_icmp_ge_P (tgt := 50) c7 (by decide) d7_step_24 ?_
      refine ev_aload_n (j := 0) (i := 0) (q := 0) rfl rfl d7_step_27 ?_
      refine ev_dup rfl d7_step_28 ?_
      refine ev_getI cls7 (j := 7) (by decide) rfl w279 h1 d7_step_29 ?_
      refine ev_iconst ci_1 d7_step_32 ?_
      refine ev_iadd d7_step_33 ?_
      obtain ⟨t8, e9, hf⟩ := lt_some hf
      refine ev_putI cls7 (j := 7) (by decide) rfl rfl w279 h1 (fun _ => ⟨rfl, rfl⟩) d7_step_34 (ev_nmS e9 ?_)
      refine ev_aload_n (j := 0) (i := 0) (q := 0) rfl rfl d7_step_37 ?_
      refine ev_aload_n (j := 0) (i := 0) (q := 0) rfl rfl d7_step_38 ?_
      refine ev_getRb cls7 (j := 0) (by decide) rfl w271 (mono_ob (mono_eI e9) h1) (tr_I e9 e4) (nz_ne h5) d7_step_39 ?_
      refine ev_aload_n (j := 0) (i := 0) (q := 0) rfl rfl d7_step_42 ?_
      refine ev_getI cls7 (j := 7) (by decide) rfl w279 (mono_ob (mono_eI e9) h1) d7_step_43 ?_
      obtain ⟨h10, hf⟩ := gd_some hf
      refine ev_iald (mono_ob (mono_eI e9) h6) h10 d7_step_46 ?_
      obtain ⟨t11, e12, hf⟩ := lt_some hf
      refine ev_putI cls7 (j := 8) (by decide) rfl rfl w280 (mono_ob (mono_eI e9) h1) (fun _ => ⟨rfl, rfl⟩) d7_step_47 (ev_nmS e12 ?_)
      obtain ⟨-, rfl⟩ := ret_some hf
      exact ev_vret rfl d7_step_50
    · refine ev_icmp_ge_Q (tgt := 50) c7 (by decide) d7_step_24 ?_
      obtain ⟨-, rfl⟩ := ret_some hf
      exact ev_vret rfl d7_step_50
  · refine ev_icmp_ge_Q (tgt := 50) c2 (by decide) d7_step_10 ?_
    obtain ⟨-, rfl⟩ := ret_some hf
    exact ev_vret rfl d7_step_50
abbrev m7_take : MD := ("MillBoats$Reader", ⟨"MillBoats$Reader", "take", "(I)Z"⟩, prog_9_method_13_code, 2, (some Jvm.ClassFile.FieldType.boolean))
theorem k7_take : okY m7_take.2.1 1 := ⟨by decide +kernel, by decide +kernel, by decide +kernel⟩
def f7_take (σ : St) (v0 : Nat) (v1 : Int32) : Option (Int32 × St) :=
  gd (ob σ v0 7) (
  (if (sI σ v0 8) = v1 then
  bd (f7_step σ v0) fun r3 t4 => (
  some ((1 : Int32), t4))
  else
  bd (f7_refuse σ v0 (1 : Int32)) fun r7 t8 => (
  gd (isB r7) (
  some (r7, t8)))))
set_option maxRecDepth 50000 in
theorem s7_take : ∀ (σ : St) (v0 : Nat) (v1 : Int32) (r : Int32) (τ : St), f7_take σ v0 v1 = some (r, τ) → Call 3 m7_take [.ref v0, .int v1] σ (some (.int r)) τ := by
  intro σ v0 v1 r τ hf
  unfold f7_take at hf
  refine Call.of (by decide +kernel) rfl (Nat.le_of_ble_eq_true rfl) ?_
  refine ev_aload_n (j := 0) (i := 0) (q := 0) rfl rfl d7_take_0 ?_
  obtain ⟨h1, hf⟩ := gd_some hf
  refine ev_getI cls7 (j := 8) (by decide) rfl w280 h1 d7_take_1 ?_
  refine ev_iload_n (j := 1) (i := 1) (q := 1) rfl rfl d7_take_4 ?_
  rcases ite_some hf with ⟨c2, hf⟩ | ⟨c2, hf⟩
  · refine ev_icmp_eq_P (tgt := 14) c2 (by decide) d7_take_5 ?_
    refine ev_aload_n (j := 0) (i := 0) (q := 0) rfl rfl d7_take_14 ?_
    obtain ⟨r3, t4, k5, hf⟩ := bd_some hf
    have q6 := s7_step _ _ _ _ k5
    refine ev_callV (vs := []) (sk := []) cls7 h1 q6 (by decide) (Nat.le_of_ble_eq_true rfl) w760 w762 ws8 w9 w763 k7_step rfl (Nat.le_of_ble_eq_true rfl) d7_take_15 ?_
    refine ev_iconst ci_1 d7_take_18 ?_
    obtain ⟨rfl, rfl⟩ := ret_some hf
    exact ev_zret rfl (by decide) d7_take_19
  · refine ev_icmp_eq_Q (tgt := 14) c2 (by decide) d7_take_5 ?_
    refine ev_aload_n (j := 0) (i := 0) (q := 0) rfl rfl d7_take_8 ?_
    refine ev_iconst ci_1 d7_take_9 ?_
    obtain ⟨r7, t8, k9, hf⟩ := bd_some hf
    have q10 := s7_refuse _ _ _ _ _ k9
    refine ev_callV (vs := [.int (1 : Int32)]) (sk := []) cls7 h1 q10 (by decide) (Nat.le_of_ble_eq_true rfl) w756 w758 ws7 w9 w759 k7_refuse rfl (Nat.le_of_ble_eq_true rfl) d7_take_10 ?_
    obtain ⟨h11, hf⟩ := gd_some hf
    obtain ⟨rfl, rfl⟩ := ret_some hf
    exact ev_zret rfl (narB h11) d7_take_13
abbrev m10_close : MD := ("MillBoats$Text", ⟨"MillBoats$Text", "close", "(III)V"⟩, prog_12_method_4_code, 4, (none : Option Jvm.ClassFile.FieldType))
theorem k10_close : okY m10_close.2.1 3 := ⟨by decide +kernel, by decide +kernel, by decide +kernel⟩
def f10_close (σ : St) (v0 : Nat) (v1 : Int32) (v2 : Int32) (v3 : Int32) : Option (Unit × St) :=
  gd (ob σ v0 10) (
  lt (sR σ v0 1) fun b2 => (
  gd (nz b2) (
  gd (ob σ b2 14) (
  (if (sI σ v0 6) < (Int32.ofNat (sK σ b2).2) then
  gd (inb σ b2 (sI σ v0 6)) (
  lt (wI σ b2 (ix (sI σ v0 6)) v1) fun t8 => (
  lt (sR t8 v0 3) fun b10 => (
  gd (nz b10) (
  gd (ob t8 b10 14) (
  gd (inb t8 b10 (sI t8 v0 6)) (
  lt (wI t8 b10 (ix (sI t8 v0 6)) v2) fun t15 => (
  lt (sR t15 v0 4) fun b17 => (
  gd (nz b17) (
  gd (ob t15 b17 14) (
  gd (inb t15 b17 (sI t15 v0 6)) (
  lt (wI t15 b17 (ix (sI t15 v0 6)) v3) fun t22 => (
  lt (sR t22 v0 2) fun b24 => (
  gd (nz b24) (
  gd (ob t22 b24 14) (
  gd (inb t22 b24 (sI t22 v0 6)) (
  lt (wI t22 b24 (ix (sI t22 v0 6)) (sI t22 v0 5)) fun t29 => (
  lt (wI t29 v0 6 ((sI t29 v0 6) + (1 : Int32))) fun t31 => (
  some ((), t31)))))))))))))))))))
  else
  some ((), σ))))))
set_option maxRecDepth 50000 in
theorem s10_close : ∀ (σ : St) (v0 : Nat) (v1 : Int32) (v2 : Int32) (v3 : Int32) (r : Unit) (τ : St), f10_close σ v0 v1 v2 v3 = some (r, τ) → Call 2 m10_close [.ref v0, .int v1, .int v2, .int v3] σ none τ := by
  intro σ v0 v1 v2 v3 r τ hf
  unfold f10_close at hf
  refine Call.of (by decide +kernel) rfl (Nat.le_of_ble_eq_true rfl) ?_
  refine ev_aload_n (j := 0) (i := 0) (q := 0) rfl rfl d10_close_0 ?_
  obtain ⟨h1, hf⟩ := gd_some hf
  refine ev_getI cls10 (j := 6) (by decide) rfl w195 h1 d10_close_1 ?_
  refine ev_aload_n (j := 0) (i := 0) (q := 0) rfl rfl d10_close_4 ?_
  obtain ⟨b2, e3, hf⟩ := lt_some hf
  obtain ⟨h4, hf⟩ := gd_some hf
  refine ev_getRb cls10 (j := 1) (by decide) rfl w186 h1 e3 (nz_ne h4) d10_close_5 ?_
  obtain ⟨h5, hf⟩ := gd_some hf
  refine ev_alen (kd := 14) (by decide) (by decide) h5 d10_close_8 ?_
  rcases ite_some hf with ⟨c6, hf⟩ | ⟨c6, hf⟩
  · refine ev_icmp_ge_P (tgt := 65) c6 (by decide) d10_close_9 ?_
    refine ev_aload_n (j := 0) (i := 0) (q := 0) rfl rfl d10_close_12 ?_
    refine ev_getRb cls10 (j := 1) (by decide) rfl w186 h1 e3 (nz_ne h4) d10_close_13 ?_
    refine ev_aload_n (j := 0) (i := 0) (q := 0) rfl rfl d10_close_16 ?_
    refine ev_getI cls10 (j := 6) (by decide) rfl w195 h1 d10_close_17 ?_
    refine ev_iload_n (j := 1) (i := 1) (q := 1) rfl rfl d10_close_20 ?_
    obtain ⟨h7, hf⟩ := gd_some hf
    obtain ⟨t8, e9, hf⟩ := lt_some hf
    refine ev_iast h5 h7 d10_close_21 (ev_nmS e9 ?_)
    refine ev_aload_n (j := 0) (i := 0) (q := 0) rfl rfl d10_close_22 ?_
    obtain ⟨b10, e11, hf⟩ := lt_some hf
    obtain ⟨h12, hf⟩ := gd_some hf
    refine ev_getRb cls10 (j := 3) (by decide) rfl w190 (mono_ob (mono_eI e9) h1) e11 (nz_ne h12) d10_close_23 ?_
    refine ev_aload_n (j := 0) (i := 0) (q := 0) rfl rfl d10_close_26 ?_
    refine ev_getI cls10 (j := 6) (by decide) rfl w195 (mono_ob (mono_eI e9) h1) d10_close_27 ?_
    refine ev_iload_n (j := 2) (i := 2) (q := 2) rfl rfl d10_close_30 ?_
    obtain ⟨h13, hf⟩ := gd_some hf
    obtain ⟨h14, hf⟩ := gd_some hf
    obtain ⟨t15, e16, hf⟩ := lt_some hf
    refine ev_iast h13 h14 d10_close_31 (ev_nmS e16 ?_)
    refine ev_aload_n (j := 0) (i := 0) (q := 0) rfl rfl d10_close_32 ?_
    obtain ⟨b17, e18, hf⟩ := lt_some hf
    obtain ⟨h19, hf⟩ := gd_some hf
    refine ev_getRb cls10 (j := 4) (by decide) rfl w192 (mono_ob (mono_eI e16) (mono_ob (mono_eI e9) h1)) e18 (nz_ne h19) d10_close_33 ?_
    refine ev_aload_n (j := 0) (i := 0) (q := 0) rfl rfl d10_close_36 ?_
    refine ev_getI cls10 (j := 6) (by decide) rfl w195 (mono_ob (mono_eI e16) (mono_ob (mono_eI e9) h1)) d10_close_37 ?_
    refine ev_iload_n (j := 3) (i := 3) (q := 3) rfl rfl d10_close_40 ?_
    obtain ⟨h20, hf⟩ := gd_some hf
    obtain ⟨h21, hf⟩ := gd_some hf
    obtain ⟨t22, e23, hf⟩ := lt_some hf
    refine ev_iast h20 h21 d10_close_41 (ev_nmS e23 ?_)
    refine ev_aload_n (j := 0) (i := 0) (q := 0) rfl rfl d10_close_42 ?_
    obtain ⟨b24, e25, hf⟩ := lt_some hf
    obtain ⟨h26, hf⟩ := gd_some hf
    refine ev_getRb cls10 (j := 2) (by decide) rfl w188 (mono_ob (mono_eI e23) (mono_ob (mono_eI e16) (mono_ob (mono_eI e9) h1))) e25 (nz_ne h26) d10_close_43 ?_
    refine ev_aload_n (j := 0) (i := 0) (q := 0) rfl rfl d10_close_46 ?_
    refine ev_getI cls10 (j := 6) (by decide) rfl w195 (mono_ob (mono_eI e23) (mono_ob (mono_eI e16) (mono_ob (mono_eI e9) h1))) d10_close_47 ?_
    refine ev_aload_n (j := 0) (i := 0) (q := 0) rfl rfl d10_close_50 ?_
    refine ev_getI cls10 (j := 5) (by decide) rfl w194 (mono_ob (mono_eI e23) (mono_ob (mono_eI e16) (mono_ob (mono_eI e9) h1))) d10_close_51 ?_
    obtain ⟨h27, hf⟩ := gd_some hf
    obtain ⟨h28, hf⟩ := gd_some hf
    obtain ⟨t29, e30, hf⟩ := lt_some hf
    refine ev_iast h27 h28 d10_close_54 (ev_nmS e30 ?_)
    refine ev_aload_n (j := 0) (i := 0) (q := 0) rfl rfl d10_close_55 ?_
    refine ev_dup rfl d10_close_56 ?_
    refine ev_getI cls10 (j := 6) (by decide) rfl w195 (mono_ob (mono_eI e30) (mono_ob (mono_eI e23) (mono_ob (mono_eI e16) (mono_ob (mono_eI e9) h1)))) d10_close_57 ?_
    refine ev_iconst ci_1 d10_close_60 ?_
    refine ev_iadd d10_close_61 ?_
    obtain ⟨t31, e32, hf⟩ := lt_some hf
    refine ev_putI cls10 (j := 6) (by decide) rfl rfl w195 (mono_ob (mono_eI e30) (mono_ob (mono_eI e23) (mono_ob (mono_eI e16) (mono_ob (mono_eI e9) h1)))) (fun _ => ⟨rfl, rfl⟩) d10_close_62 (ev_nmS e32 ?_)
    obtain ⟨-, rfl⟩ := ret_some hf
    exact ev_vret rfl d10_close_65
  · refine ev_icmp_ge_Q (tgt := 65) c6 (by decide) d10_close_9 ?_
    obtain ⟨-, rfl⟩ := ret_some hf
    exact ev_vret rfl d10_close_65
abbrev m7_closeRule : MD := ("MillBoats$Reader", ⟨"MillBoats$Reader", "closeRule", "(III)Z"⟩, prog_9_method_16_code, 4, (some Jvm.ClassFile.FieldType.boolean))
theorem k7_closeRule : okY m7_closeRule.2.1 3 := ⟨by decide +kernel, by decide +kernel, by decide +kernel⟩
def f7_closeRule (σ : St) (v0 : Nat) (v1 : Int32) (v2 : Int32) (v3 : Int32) : Option (Int32 × St) :=
  gd (ob σ v0 7) (
  lt (sR σ v0 5) fun b2 => (
  gd (nz b2) (
  gd (ob σ b2 10) (
  bd (f10_close σ b2 v1 v2 v3) fun r6 t7 => (
  bd (f7_take t7 v0 (59 : Int32)) fun r10 t11 => (
  gd (isB r10) (
  some (r10, t11))))))))
set_option maxRecDepth 50000 in
theorem s7_closeRule : ∀ (σ : St) (v0 : Nat) (v1 : Int32) (v2 : Int32) (v3 : Int32) (r : Int32) (τ : St), f7_closeRule σ v0 v1 v2 v3 = some (r, τ) → Call 4 m7_closeRule [.ref v0, .int v1, .int v2, .int v3] σ (some (.int r)) τ := by
  intro σ v0 v1 v2 v3 r τ hf
  unfold f7_closeRule at hf
  refine Call.of (by decide +kernel) rfl (Nat.le_of_ble_eq_true rfl) ?_
  refine ev_aload_n (j := 0) (i := 0) (q := 0) rfl rfl d7_closeRule_0 ?_
  obtain ⟨h1, hf⟩ := gd_some hf
  obtain ⟨b2, e3, hf⟩ := lt_some hf
  obtain ⟨h4, hf⟩ := gd_some hf
  refine ev_getRb cls7 (j := 5) (by decide) rfl w276 h1 e3 (nz_ne h4) d7_closeRule_1 ?_
  refine ev_iload_n (j := 1) (i := 1) (q := 1) rfl rfl d7_closeRule_4 ?_
  refine ev_iload_n (j := 2) (i := 2) (q := 2) rfl rfl d7_closeRule_5 ?_
  refine ev_iload_n (j := 3) (i := 3) (q := 3) rfl rfl d7_closeRule_6 ?_
  obtain ⟨h5, hf⟩ := gd_some hf
  obtain ⟨r6, t7, k8, hf⟩ := bd_some hf
  have q9 := s10_close _ _ _ _ _ _ _ k8
  refine ev_callV (vs := [.int v1, .int v2, .int v3]) (sk := []) cls10 h5 q9 (by decide) (Nat.le_of_ble_eq_true rfl) w804 w805 w806 w10 w807 k10_close rfl (Nat.le_of_ble_eq_true rfl) d7_closeRule_7 ?_
  refine ev_aload_n (j := 0) (i := 0) (q := 0) rfl rfl d7_closeRule_10 ?_
  refine ev_bipush cb_59 d7_closeRule_11 ?_
  obtain ⟨r10, t11, k12, hf⟩ := bd_some hf
  have q13 := s7_take _ _ _ _ _ k12
  refine ev_callV (vs := [.int (59 : Int32)]) (sk := []) cls7 (mono_ob q9.1 h1) q13 (by decide) (Nat.le_of_ble_eq_true rfl) w776 w778 ws12 w9 w779 k7_take rfl (Nat.le_of_ble_eq_true rfl) d7_closeRule_13 ?_
  obtain ⟨h14, hf⟩ := gd_some hf
  obtain ⟨rfl, rfl⟩ := ret_some hf
  exact ev_zret rfl (narB h14) d7_closeRule_16
abbrev m7_known : MD := ("MillBoats$Reader", ⟨"MillBoats$Reader", "known", "(J)I"⟩, prog_9_method_29_code, 4, (some Jvm.ClassFile.FieldType.int))
theorem k7_known : okY m7_known.2.1 1 := ⟨by decide +kernel, by decide +kernel, by decide +kernel⟩
def f7_known_p2 : Nat → St → Nat → Int64 → Int32 → Option (Int32 × St)
  | 0, _, _, _, _ => none
  | n + 1, σ, v0, v1, v3 =>
  gd (ob σ v0 7) (
  (if v3 < ((9 : Int32) + (sI σ v0 9)) then
  lt (sR σ v0 4) fun b3 => (
  gd (nz b3) (
  gd (ob σ b3 15) (
  (if v3 < (Int32.ofNat (sK σ b3).2) then
  gd (inb σ b3 v3) (
  (if (lg_cmp (sL σ b3 (ix v3)) v1) = (0 : Int32) then
  some (v3, σ)
  else
  lt (v3 + (1 : Int32)) fun y10 => (
  (f7_known_p2 n) σ v0 v1 y10)))
  else
  some ((-1 : Int32), σ)))))
  else
  some ((-1 : Int32), σ)))
set_option maxRecDepth 20000 in
theorem s7_known_p2 : ∀ (n : Nat) (σ : St) (v0 : Nat) (v1 : Int64) (v3 : Int32) (r : Int32) (τ : St), f7_known_p2 n σ v0 v1 v3 = some (r, τ) → Ev 2 m7_known 2 [(0, .ref v0), (1, .long v1), (3, .int v3)] [] σ (some (.int r)) τ := by
  intro n
  induction n with
  | zero =>
    intro σ v0 v1 v3 r τ hf
    cases hf
  | succ n ih =>
    intro σ v0 v1 v3 r τ hf
    rw [f7_known_p2] at hf
    refine ev_iload_n (j := 3) (i := 3) (q := 2) rfl rfl d7_known_2 ?_
    refine ev_bipush cb_9 d7_known_3 ?_
    refine ev_aload_n (j := 0) (i := 0) (q := 0) rfl rfl d7_known_5 ?_
    obtain ⟨h1, hf⟩ := gd_some hf
    refine ev_getI cls7 (j := 9) (by decide) rfl w281 h1 d7_known_6 ?_
    refine ev_iadd d7_known_9 ?_
    rcases ite_some hf with ⟨c2, hf⟩ | ⟨c2, hf⟩
    · refine ev_icmp_ge_P (tgt := 41) c2 (by decide) d7_known_10 ?_
      refine ev_iload_n (j := 3) (i := 3) (q := 2) rfl rfl d7_known_13 ?_
      refine ev_aload_n (j := 0) (i := 0) (q := 0) rfl rfl d7_known_14 ?_
      obtain ⟨b3, e4, hf⟩ := lt_some hf
      obtain ⟨h5, hf⟩ := gd_some hf
      refine ev_getRb cls7 (j := 4) (by decide) rfl w275 h1 e4 (nz_ne h5) d7_known_15 ?_
      obtain ⟨h6, hf⟩ := gd_some hf
      refine ev_alen (kd := 15) (by decide) (by decide) h6 d7_known_18 ?_
      rcases ite_some hf with ⟨c7, hf⟩ | ⟨c7, hf⟩
      · refine ev_icmp_ge_P (tgt := 41) c7 (by decide) d7_known_19 ?_
        refine ev_aload_n (j := 0) (i := 0) (q := 0) rfl rfl d7_known_22 ?_
        refine ev_getRb cls7 (j := 4) (by decide) rfl w275 h1 e4 (nz_ne h5) d7_known_23 ?_
        refine ev_iload_n (j := 3) (i := 3) (q := 2) rfl rfl d7_known_26 ?_
        obtain ⟨h8, hf⟩ := gd_some hf
        refine ev_lald h6 h8 d7_known_27 ?_
        refine ev_lload_n (j := 1) (i := 1) (q := 1) rfl rfl d7_known_28 ?_
        refine ev_lcmp d7_known_29 ?_
        rcases ite_some hf with ⟨c9, hf⟩ | ⟨c9, hf⟩
        · refine ev_if_ne_P (tgt := 35) c9 (by decide) d7_known_30 ?_
          refine ev_iload_n (j := 3) (i := 3) (q := 2) rfl rfl d7_known_33 ?_
          obtain ⟨rfl, rfl⟩ := ret_some hf
          exact ev_iret rfl d7_known_34
        · refine ev_if_ne_Q (tgt := 35) c9 (by decide) d7_known_30 ?_
          obtain ⟨y10, e11, hf⟩ := lt_some hf
          refine ev_iinc (lv2 := [(3, .int y10), (0, .ref v0), (1, .long v1)]) (i := 3) (q := 2) (v := y10) (n := 1) rfl (by rw [ci_1]; exact e11.symm) (by decide) rfl d7_known_35 ?_
          refine ev_goto (tgt := 2) (by decide) d7_known_38 ?_
          exact Ev.sub [1, 2, 0] rfl (ih _ _ _ _ _ _ hf)
      · refine ev_icmp_ge_Q (tgt := 41) c7 (by decide) d7_known_19 ?_
        refine ev_iconst ci_m1 d7_known_41 ?_
        obtain ⟨rfl, rfl⟩ := ret_some hf
        exact ev_iret rfl d7_known_42
    · refine ev_icmp_ge_Q (tgt := 41) c2 (by decide) d7_known_10 ?_
      refine ev_iconst ci_m1 d7_known_41 ?_
      obtain ⟨rfl, rfl⟩ := ret_some hf
      exact ev_iret rfl d7_known_42
def f7_known (σ : St) (v0 : Nat) (v1 : Int64) : Option (Int32 × St) :=
  f7_known_p2 FU σ v0 v1 (0 : Int32)
set_option maxRecDepth 50000 in
theorem s7_known : ∀ (σ : St) (v0 : Nat) (v1 : Int64) (r : Int32) (τ : St), f7_known σ v0 v1 = some (r, τ) → Call 2 m7_known [.ref v0, .long v1] σ (some (.int r)) τ := by
  intro σ v0 v1 r τ hf
  unfold f7_known at hf
  refine Call.of (by decide +kernel) rfl (Nat.le_of_ble_eq_true rfl) ?_
  refine ev_iconst ci_0 d7_known_0 ?_
  refine ev_istore_n (lv2 := [(3, .int (0 : Int32)), (0, .ref v0), (1, .long v1)]) (j := 3) (i := 3) rfl (by decide) rfl d7_known_1 ?_
  exact Ev.sub [1, 2, 0] rfl (s7_known_p2 FU _ _ _ _ _ _ hf)
abbrev m7_valueHere : MD := ("MillBoats$Reader", ⟨"MillBoats$Reader", "valueHere", "()J"⟩, prog_9_method_14_code, 1, (some Jvm.ClassFile.FieldType.long))
theorem k7_valueHere : okY m7_valueHere.2.1 0 := ⟨by decide +kernel, by decide +kernel, by decide +kernel⟩
def f7_valueHere (σ : St) (v0 : Nat) : Option (Int64 × St) :=
  gd (ob σ v0 7) (
  (if (sI σ v0 7) < (0 : Int32) then
  some ((0 : Int64), σ)
  else
  lt (sR σ v0 2) fun b3 => (
  gd (nz b3) (
  gd (ob σ b3 15) (
  (if (sI σ v0 7) < (Int32.ofNat (sK σ b3).2) then
  gd (inb σ b3 (sI σ v0 7)) (
  some (sL σ b3 (ix (sI σ v0 7)), σ))
  else
  some ((0 : Int64), σ)))))))
set_option maxRecDepth 50000 in
theorem s7_valueHere : ∀ (σ : St) (v0 : Nat) (r : Int64) (τ : St), f7_valueHere σ v0 = some (r, τ) → Call 2 m7_valueHere [.ref v0] σ (some (.long r)) τ := by
  intro σ v0 r τ hf
  unfold f7_valueHere at hf
  refine Call.of (by decide +kernel) rfl (Nat.le_of_ble_eq_true rfl) ?_
  refine ev_aload_n (j := 0) (i := 0) (q := 0) rfl rfl d7_valueHere_0 ?_
  obtain ⟨h1, hf⟩ := gd_some hf
  refine ev_getI cls7 (j := 7) (by decide) rfl w279 h1 d7_valueHere_1 ?_
  rcases ite_some hf with ⟨c2, hf⟩ | ⟨c2, hf⟩
  · refine ev_if_lt_P (tgt := 31) c2 (by decide) d7_valueHere_4 ?_
    refine ev_lconst (v := (0 : Int64)) (by decide) d7_valueHere_31 ?_
    obtain ⟨rfl, rfl⟩ := ret_some hf
    exact ev_lret rfl d7_valueHere_32
  · refine ev_if_lt_Q (tgt := 31) c2 (by decide) d7_valueHere_4 ?_
    refine ev_aload_n (j := 0) (i := 0) (q := 0) rfl rfl d7_valueHere_7 ?_
    refine ev_getI cls7 (j := 7) (by decide) rfl w279 h1 d7_valueHere_8 ?_
    refine ev_aload_n (j := 0) (i := 0) (q := 0) rfl rfl d7_valueHere_11 ?_
    obtain ⟨b3, e4, hf⟩ := lt_some hf
    obtain ⟨h5, hf⟩ := gd_some hf
    refine ev_getRb cls7 (j := 2) (by decide) rfl w273 h1 e4 (nz_ne h5) d7_valueHere_12 ?_
    obtain ⟨h6, hf⟩ := gd_some hf
    refine ev_alen (kd := 15) (by decide) (by decide) h6 d7_valueHere_15 ?_
    rcases ite_some hf with ⟨c7, hf⟩ | ⟨c7, hf⟩
    · refine ev_icmp_ge_P (tgt := 31) c7 (by decide) d7_valueHere_16 ?_
      refine ev_aload_n (j := 0) (i := 0) (q := 0) rfl rfl d7_valueHere_19 ?_
      refine ev_getRb cls7 (j := 2) (by decide) rfl w273 h1 e4 (nz_ne h5) d7_valueHere_20 ?_
      refine ev_aload_n (j := 0) (i := 0) (q := 0) rfl rfl d7_valueHere_23 ?_
      refine ev_getI cls7 (j := 7) (by decide) rfl w279 h1 d7_valueHere_24 ?_
      obtain ⟨h8, hf⟩ := gd_some hf
      refine ev_lald h6 h8 d7_valueHere_27 ?_
      refine ev_goto (tgt := 32) (by decide) d7_valueHere_28 ?_
      obtain ⟨rfl, rfl⟩ := ret_some hf
      exact ev_lret rfl d7_valueHere_32
    · refine ev_icmp_ge_Q (tgt := 31) c7 (by decide) d7_valueHere_16 ?_
      refine ev_lconst (v := (0 : Int64)) (by decide) d7_valueHere_31 ?_
      obtain ⟨rfl, rfl⟩ := ret_some hf
      exact ev_lret rfl d7_valueHere_32
abbrev m10_emit : MD := ("MillBoats$Text", ⟨"MillBoats$Text", "emit", "(I)V"⟩, prog_12_method_3_code, 2, (none : Option Jvm.ClassFile.FieldType))
theorem k10_emit : okY m10_emit.2.1 1 := ⟨by decide +kernel, by decide +kernel, by decide +kernel⟩
def f10_emit (σ : St) (v0 : Nat) (v1 : Int32) : Option (Unit × St) :=
  gd (ob σ v0 10) (
  lt (sR σ v0 0) fun b2 => (
  gd (nz b2) (
  gd (ob σ b2 14) (
  (if (sI σ v0 5) < (Int32.ofNat (sK σ b2).2) then
  gd (inb σ b2 (sI σ v0 5)) (
  lt (wI σ b2 (ix (sI σ v0 5)) v1) fun t8 => (
  lt (wI t8 v0 5 ((sI t8 v0 5) + (1 : Int32))) fun t10 => (
  some ((), t10))))
  else
  some ((), σ))))))
set_option maxRecDepth 50000 in
theorem s10_emit : ∀ (σ : St) (v0 : Nat) (v1 : Int32) (r : Unit) (τ : St), f10_emit σ v0 v1 = some (r, τ) → Call 2 m10_emit [.ref v0, .int v1] σ none τ := by
  intro σ v0 v1 r τ hf
  unfold f10_emit at hf
  refine Call.of (by decide +kernel) rfl (Nat.le_of_ble_eq_true rfl) ?_
  refine ev_aload_n (j := 0) (i := 0) (q := 0) rfl rfl d10_emit_0 ?_
  obtain ⟨h1, hf⟩ := gd_some hf
  refine ev_getI cls10 (j := 5) (by decide) rfl w194 h1 d10_emit_1 ?_
  refine ev_aload_n (j := 0) (i := 0) (q := 0) rfl rfl d10_emit_4 ?_
  obtain ⟨b2, e3, hf⟩ := lt_some hf
  obtain ⟨h4, hf⟩ := gd_some hf
  refine ev_getRb cls10 (j := 0) (by decide) rfl w184 h1 e3 (nz_ne h4) d10_emit_5 ?_
  obtain ⟨h5, hf⟩ := gd_some hf
  refine ev_alen (kd := 14) (by decide) (by decide) h5 d10_emit_8 ?_
  rcases ite_some hf with ⟨c6, hf⟩ | ⟨c6, hf⟩
  · refine ev_icmp_ge_P (tgt := 32) c6 (by decide) d10_emit_9 ?_
    refine ev_aload_n (j := 0) (i := 0) (q := 0) rfl rfl d10_emit_12 ?_
    refine ev_getRb cls10 (j := 0) (by decide) rfl w184 h1 e3 (nz_ne h4) d10_emit_13 ?_
    refine ev_aload_n (j := 0) (i := 0) (q := 0) rfl rfl d10_emit_16 ?_
    refine ev_getI cls10 (j := 5) (by decide) rfl w194 h1 d10_emit_17 ?_
    refine ev_iload_n (j := 1) (i := 1) (q := 1) rfl rfl d10_emit_20 ?_
    obtain ⟨h7, hf⟩ := gd_some hf
    obtain ⟨t8, e9, hf⟩ := lt_some hf
    refine ev_iast h5 h7 d10_emit_21 (ev_nmS e9 ?_)
    refine ev_aload_n (j := 0) (i := 0) (q := 0) rfl rfl d10_emit_22 ?_
    refine ev_dup rfl d10_emit_23 ?_
    refine ev_getI cls10 (j := 5) (by decide) rfl w194 (mono_ob (mono_eI e9) h1) d10_emit_24 ?_
    refine ev_iconst ci_1 d10_emit_27 ?_
    refine ev_iadd d10_emit_28 ?_
    obtain ⟨t10, e11, hf⟩ := lt_some hf
    refine ev_putI cls10 (j := 5) (by decide) rfl rfl w194 (mono_ob (mono_eI e9) h1) (fun _ => ⟨rfl, rfl⟩) d10_emit_29 (ev_nmS e11 ?_)
    obtain ⟨-, rfl⟩ := ret_some hf
    exact ev_vret rfl d10_emit_32
  · refine ev_icmp_ge_Q (tgt := 32) c6 (by decide) d10_emit_9 ?_
    obtain ⟨-, rfl⟩ := ret_some hf
    exact ev_vret rfl d10_emit_32
abbrev m7_bracketedSum : MD := ("MillBoats$Reader", ⟨"MillBoats$Reader", "bracketedSum", "()Z"⟩, prog_9_method_28_code, 1, (some Jvm.ClassFile.FieldType.boolean))
theorem k7_bracketedSum : okY m7_bracketedSum.2.1 0 := ⟨by decide +kernel, by decide +kernel, by decide +kernel⟩
abbrev m7_factor : MD := ("MillBoats$Reader", ⟨"MillBoats$Reader", "factor", "()Z"⟩, prog_9_method_27_code, 2, (some Jvm.ClassFile.FieldType.boolean))
theorem k7_factor : okY m7_factor.2.1 0 := ⟨by decide +kernel, by decide +kernel, by decide +kernel⟩
abbrev m7_product : MD := ("MillBoats$Reader", ⟨"MillBoats$Reader", "product", "()Z"⟩, prog_9_method_26_code, 2, (some Jvm.ClassFile.FieldType.boolean))
theorem k7_product : okY m7_product.2.1 0 := ⟨by decide +kernel, by decide +kernel, by decide +kernel⟩
abbrev m7_sum : MD := ("MillBoats$Reader", ⟨"MillBoats$Reader", "sum", "()Z"⟩, prog_9_method_25_code, 3, (some Jvm.ClassFile.FieldType.boolean))
theorem k7_sum : okY m7_sum.2.1 0 := ⟨by decide +kernel, by decide +kernel, by decide +kernel⟩
def f7_bracketedSum (F : St → Nat → Option (Int32 × St)) (σ : St) (v0 : Nat) : Option (Int32 × St) :=
  gd (ob σ v0 7) (
  (if (sI σ v0 10) < (4 : Int32) then
  lt (wI σ v0 10 ((sI σ v0 10) + (1 : Int32))) fun t3 => (
  bd (f7_step t3 v0) fun r5 t6 => (
  bd (F t6 v0) fun r9 t10 => (
  (if r9 = (0 : Int32) then
  some ((0 : Int32), t10)
  else
  (if (sI t10 v0 8) = (41 : Int32) then
  lt (wI t10 v0 10 ((sI t10 v0 10) - (1 : Int32))) fun t15 => (
  bd (f7_step t15 v0) fun r17 t18 => (
  some ((1 : Int32), t18)))
  else
  bd (f7_refuse t10 v0 (1 : Int32)) fun r21 t22 => (
  gd (isB r21) (
  some (r21, t22))))))))
  else
  bd (f7_refuse σ v0 (4 : Int32)) fun r26 t27 => (
  gd (isB r26) (
  some (r26, t27)))))
set_option maxRecDepth 50000 in
theorem s7_bracketedSum {F : St → Nat → Option (Int32 × St)} {dF : Nat} (hB : 3 ≤ dF) (hF : ∀ (σ : St) (a0 : Nat) (r : Int32) (τ : St), F σ a0 = some (r, τ) → Call dF m7_sum [.ref a0] σ (some (.int r)) τ) : ∀ (σ : St) (v0 : Nat) (r : Int32) (τ : St), f7_bracketedSum F σ v0 = some (r, τ) → Call (dF + 1) m7_bracketedSum [.ref v0] σ (some (.int r)) τ := by
  intro σ v0 r τ hf
  unfold f7_bracketedSum at hf
  refine Call.of (by decide +kernel) rfl (Nat.le_of_ble_eq_true rfl) ?_
  refine ev_aload_n (j := 0) (i := 0) (q := 0) rfl rfl d7_bracketedSum_0 ?_
  obtain ⟨h1, hf⟩ := gd_some hf
  refine ev_getI cls7 (j := 10) (by decide) rfl w282 h1 d7_bracketedSum_1 ?_
  refine ev_iconst ci_4 d7_bracketedSum_4 ?_
  rcases ite_some hf with ⟨c2, hf⟩ | ⟨c2, hf⟩
  · refine ev_icmp_lt_P (tgt := 14) c2 (by decide) d7_bracketedSum_5 ?_
    refine ev_aload_n (j := 0) (i := 0) (q := 0) rfl rfl d7_bracketedSum_14 ?_
    refine ev_dup rfl d7_bracketedSum_15 ?_
    refine ev_getI cls7 (j := 10) (by decide) rfl w282 h1 d7_bracketedSum_16 ?_
    refine ev_iconst ci_1 d7_bracketedSum_19 ?_
    refine ev_iadd d7_bracketedSum_20 ?_
    obtain ⟨t3, e4, hf⟩ := lt_some hf
    refine ev_putI cls7 (j := 10) (by decide) rfl rfl w282 h1 (fun _ => ⟨rfl, rfl⟩) d7_bracketedSum_21 (ev_nmS e4 ?_)
    refine ev_aload_n (j := 0) (i := 0) (q := 0) rfl rfl d7_bracketedSum_24 ?_
    obtain ⟨r5, t6, k7, hf⟩ := bd_some hf
    have q8 := s7_step _ _ _ _ k7
    refine ev_callV (vs := []) (sk := []) cls7 (mono_ob (mono_eI e4) h1) q8 (by omega) (Nat.le_of_ble_eq_true rfl) w760 w762 ws8 w9 w763 k7_step rfl (Nat.le_of_ble_eq_true rfl) d7_bracketedSum_25 ?_
    refine ev_aload_n (j := 0) (i := 0) (q := 0) rfl rfl d7_bracketedSum_28 ?_
    obtain ⟨r9, t10, k11, hf⟩ := bd_some hf
    have q12 := hF _ _ _ _ k11
    refine ev_callV (vs := []) (sk := []) cls7 (mono_ob q8.1 (mono_ob (mono_eI e4) h1)) q12 (by omega) (Nat.le_of_ble_eq_true rfl) w780 w782 ws13 w9 w783 k7_sum rfl (Nat.le_of_ble_eq_true rfl) d7_bracketedSum_29 ?_
    rcases ite_some hf with ⟨c13, hf⟩ | ⟨c13, hf⟩
    · refine ev_if_ne_P (tgt := 37) c13 (by decide) d7_bracketedSum_32 ?_
      refine ev_iconst ci_0 d7_bracketedSum_35 ?_
      obtain ⟨rfl, rfl⟩ := ret_some hf
      exact ev_zret rfl (by decide) d7_bracketedSum_36
    · refine ev_if_ne_Q (tgt := 37) c13 (by decide) d7_bracketedSum_32 ?_
      refine ev_aload_n (j := 0) (i := 0) (q := 0) rfl rfl d7_bracketedSum_37 ?_
      refine ev_getI cls7 (j := 8) (by decide) rfl w280 (mono_ob q12.1 (mono_ob q8.1 (mono_ob (mono_eI e4) h1))) d7_bracketedSum_38 ?_
      refine ev_bipush cb_41 d7_bracketedSum_41 ?_
      rcases ite_some hf with ⟨c14, hf⟩ | ⟨c14, hf⟩
      · refine ev_icmp_eq_P (tgt := 52) c14 (by decide) d7_bracketedSum_43 ?_
        refine ev_aload_n (j := 0) (i := 0) (q := 0) rfl rfl d7_bracketedSum_52 ?_
        refine ev_dup rfl d7_bracketedSum_53 ?_
        refine ev_getI cls7 (j := 10) (by decide) rfl w282 (mono_ob q12.1 (mono_ob q8.1 (mono_ob (mono_eI e4) h1))) d7_bracketedSum_54 ?_
        refine ev_iconst ci_1 d7_bracketedSum_57 ?_
        refine ev_isub d7_bracketedSum_58 ?_
        obtain ⟨t15, e16, hf⟩ := lt_some hf
        refine ev_putI cls7 (j := 10) (by decide) rfl rfl w282 (mono_ob q12.1 (mono_ob q8.1 (mono_ob (mono_eI e4) h1))) (fun _ => ⟨rfl, rfl⟩) d7_bracketedSum_59 (ev_nmS e16 ?_)
        refine ev_aload_n (j := 0) (i := 0) (q := 0) rfl rfl d7_bracketedSum_62 ?_
        obtain ⟨r17, t18, k19, hf⟩ := bd_some hf
        have q20 := s7_step _ _ _ _ k19
        refine ev_callV (vs := []) (sk := []) cls7 (mono_ob (mono_eI e16) (mono_ob q12.1 (mono_ob q8.1 (mono_ob (mono_eI e4) h1)))) q20 (by omega) (Nat.le_of_ble_eq_true rfl) w760 w762 ws8 w9 w763 k7_step rfl (Nat.le_of_ble_eq_true rfl) d7_bracketedSum_63 ?_
        refine ev_iconst ci_1 d7_bracketedSum_66 ?_
        obtain ⟨rfl, rfl⟩ := ret_some hf
        exact ev_zret rfl (by decide) d7_bracketedSum_67
      · refine ev_icmp_eq_Q (tgt := 52) c14 (by decide) d7_bracketedSum_43 ?_
        refine ev_aload_n (j := 0) (i := 0) (q := 0) rfl rfl d7_bracketedSum_46 ?_
        refine ev_iconst ci_1 d7_bracketedSum_47 ?_
        obtain ⟨r21, t22, k23, hf⟩ := bd_some hf
        have q24 := s7_refuse _ _ _ _ _ k23
        refine ev_callV (vs := [.int (1 : Int32)]) (sk := []) cls7 (mono_ob q12.1 (mono_ob q8.1 (mono_ob (mono_eI e4) h1))) q24 (by omega) (Nat.le_of_ble_eq_true rfl) w756 w758 ws7 w9 w759 k7_refuse rfl (Nat.le_of_ble_eq_true rfl) d7_bracketedSum_48 ?_
        obtain ⟨h25, hf⟩ := gd_some hf
        obtain ⟨rfl, rfl⟩ := ret_some hf
        exact ev_zret rfl (narB h25) d7_bracketedSum_51
  · refine ev_icmp_lt_Q (tgt := 14) c2 (by decide) d7_bracketedSum_5 ?_
    refine ev_aload_n (j := 0) (i := 0) (q := 0) rfl rfl d7_bracketedSum_8 ?_
    refine ev_iconst ci_4 d7_bracketedSum_9 ?_
    obtain ⟨r26, t27, k28, hf⟩ := bd_some hf
    have q29 := s7_refuse _ _ _ _ _ k28
    refine ev_callV (vs := [.int (4 : Int32)]) (sk := []) cls7 h1 q29 (by omega) (Nat.le_of_ble_eq_true rfl) w756 w758 ws7 w9 w759 k7_refuse rfl (Nat.le_of_ble_eq_true rfl) d7_bracketedSum_10 ?_
    obtain ⟨h30, hf⟩ := gd_some hf
    obtain ⟨rfl, rfl⟩ := ret_some hf
    exact ev_zret rfl (narB h30) d7_bracketedSum_13
