theorem d12_loss_0 : decode prog_14_method_24_code 0 = .ok (.aload_n 0, 1) := by decide +kernel
theorem d12_loss_1 : decode prog_14_method_24_code 1 = .ok (.iconst 0, 1) := by decide +kernel
theorem d12_loss_2 : decode prog_14_method_24_code 2 = .ok (.putfield 1, 3) := by decide +kernel
theorem d12_loss_5 : decode prog_14_method_24_code 5 = .ok (.aload_n 0, 1) := by decide +kernel
theorem d12_loss_6 : decode prog_14_method_24_code 6 = .ok (.iload_n 1, 1) := by decide +kernel
theorem d12_loss_7 : decode prog_14_method_24_code 7 = .ok (.iload_n 3, 1) := by decide +kernel
theorem d12_loss_8 : decode prog_14_method_24_code 8 = .ok (.invokevirtual 210, 3) := by decide +kernel
theorem d12_loss_11 : decode prog_14_method_24_code 11 = .ok (.ifCond .eq 17, 3) := by decide +kernel
theorem d12_loss_14 : decode prog_14_method_24_code 14 = .ok (.aload_n 0, 1) := by decide +kernel
theorem d12_loss_15 : decode prog_14_method_24_code 15 = .ok (.iload_n 2, 1) := by decide +kernel
theorem d12_loss_16 : decode prog_14_method_24_code 16 = .ok (.iload_n 3, 1) := by decide +kernel
theorem d12_loss_17 : decode prog_14_method_24_code 17 = .ok (.invokevirtual 210, 3) := by decide +kernel
theorem d12_loss_20 : decode prog_14_method_24_code 20 = .ok (.ifCond .eq 8, 3) := by decide +kernel
theorem d12_loss_23 : decode prog_14_method_24_code 23 = .ok (.iload_n 1, 1) := by decide +kernel
theorem d12_loss_24 : decode prog_14_method_24_code 24 = .ok (.iload_n 2, 1) := by decide +kernel
theorem d12_loss_25 : decode prog_14_method_24_code 25 = .ok (.if_icmp .ne 5, 3) := by decide +kernel
theorem d12_loss_28 : decode prog_14_method_24_code 28 = .ok (.iconst (-1), 1) := by decide +kernel
theorem d12_loss_29 : decode prog_14_method_24_code 29 = .ok (.ireturn, 1) := by decide +kernel
theorem d12_loss_30 : decode prog_14_method_24_code 30 = .ok (.aload_n 0, 1) := by decide +kernel
theorem d12_loss_31 : decode prog_14_method_24_code 31 = .ok (.iload_n 1, 1) := by decide +kernel
theorem d12_loss_32 : decode prog_14_method_24_code 32 = .ok (.iload_n 3, 1) := by decide +kernel
theorem d12_loss_33 : decode prog_14_method_24_code 33 = .ok (.invokevirtual 213, 3) := by decide +kernel
theorem d12_loss_36 : decode prog_14_method_24_code 36 = .ok (.istore 4, 2) := by decide +kernel
theorem d12_loss_38 : decode prog_14_method_24_code 38 = .ok (.aload_n 0, 1) := by decide +kernel
theorem d12_loss_39 : decode prog_14_method_24_code 39 = .ok (.getfield 35, 3) := by decide +kernel
theorem d12_loss_42 : decode prog_14_method_24_code 42 = .ok (.iload_n 2, 1) := by decide +kernel
theorem d12_loss_43 : decode prog_14_method_24_code 43 = .ok (.iaload, 1) := by decide +kernel
theorem d12_loss_44 : decode prog_14_method_24_code 44 = .ok (.istore 5, 2) := by decide +kernel
theorem d12_loss_46 : decode prog_14_method_24_code 46 = .ok (.aload_n 0, 1) := by decide +kernel
theorem d12_loss_47 : decode prog_14_method_24_code 47 = .ok (.getfield 35, 3) := by decide +kernel
theorem d12_loss_50 : decode prog_14_method_24_code 50 = .ok (.iload_n 2, 1) := by decide +kernel
theorem d12_loss_51 : decode prog_14_method_24_code 51 = .ok (.iconst (-1), 1) := by decide +kernel
theorem d12_loss_52 : decode prog_14_method_24_code 52 = .ok (.iastore, 1) := by decide +kernel
theorem d12_loss_53 : decode prog_14_method_24_code 53 = .ok (.aload_n 0, 1) := by decide +kernel
theorem d12_loss_54 : decode prog_14_method_24_code 54 = .ok (.iload_n 1, 1) := by decide +kernel
theorem d12_loss_55 : decode prog_14_method_24_code 55 = .ok (.iload_n 3, 1) := by decide +kernel
theorem d12_loss_56 : decode prog_14_method_24_code 56 = .ok (.invokevirtual 213, 3) := by decide +kernel
theorem d12_loss_59 : decode prog_14_method_24_code 59 = .ok (.istore 6, 2) := by decide +kernel
theorem d12_loss_61 : decode prog_14_method_24_code 61 = .ok (.aload_n 0, 1) := by decide +kernel
theorem d12_loss_62 : decode prog_14_method_24_code 62 = .ok (.getfield 35, 3) := by decide +kernel
theorem d12_loss_65 : decode prog_14_method_24_code 65 = .ok (.iload_n 2, 1) := by decide +kernel
theorem d12_loss_66 : decode prog_14_method_24_code 66 = .ok (.iload 5, 2) := by decide +kernel
theorem d12_loss_68 : decode prog_14_method_24_code 68 = .ok (.iastore, 1) := by decide +kernel
theorem d12_loss_69 : decode prog_14_method_24_code 69 = .ok (.iload 6, 2) := by decide +kernel
theorem d12_loss_71 : decode prog_14_method_24_code 71 = .ok (.iload 4, 2) := by decide +kernel
theorem d12_loss_73 : decode prog_14_method_24_code 73 = .ok (.isub, 1) := by decide +kernel
theorem d12_loss_74 : decode prog_14_method_24_code 74 = .ok (.ireturn, 1) := by decide +kernel
theorem d12_isDay_0 : decode prog_14_method_25_code 0 = .ok (.iload_n 0, 1) := by decide +kernel
theorem d12_isDay_1 : decode prog_14_method_25_code 1 = .ok (.ifCond .lt 14, 3) := by decide +kernel
theorem d12_isDay_4 : decode prog_14_method_25_code 4 = .ok (.iload_n 0, 1) := by decide +kernel
theorem d12_isDay_5 : decode prog_14_method_25_code 5 = .ok (.sipush 999, 3) := by decide +kernel
theorem d12_isDay_8 : decode prog_14_method_25_code 8 = .ok (.if_icmp .gt 7, 3) := by decide +kernel
theorem d12_isDay_11 : decode prog_14_method_25_code 11 = .ok (.iconst 1, 1) := by decide +kernel
theorem d12_isDay_12 : decode prog_14_method_25_code 12 = .ok (.goto 4, 3) := by decide +kernel
theorem d12_isDay_15 : decode prog_14_method_25_code 15 = .ok (.iconst 0, 1) := by decide +kernel
theorem d12_isDay_16 : decode prog_14_method_25_code 16 = .ok (.ireturn, 1) := by decide +kernel
theorem d12_height_0 : decode prog_14_method_26_code 0 = .ok (.aload_n 0, 1) := by decide +kernel
theorem d12_height_1 : decode prog_14_method_26_code 1 = .ok (.iconst 0, 1) := by decide +kernel
theorem d12_height_2 : decode prog_14_method_26_code 2 = .ok (.putfield 1, 3) := by decide +kernel
theorem d12_height_5 : decode prog_14_method_26_code 5 = .ok (.iload_n 1, 1) := by decide +kernel
theorem d12_height_6 : decode prog_14_method_26_code 6 = .ok (.invokestatic 220, 3) := by decide +kernel
theorem d12_height_9 : decode prog_14_method_26_code 9 = .ok (.ifCond .eq 23, 3) := by decide +kernel
theorem d12_height_12 : decode prog_14_method_26_code 12 = .ok (.iload_n 2, 1) := by decide +kernel
theorem d12_height_13 : decode prog_14_method_26_code 13 = .ok (.iconst 0, 1) := by decide +kernel
theorem d12_height_14 : decode prog_14_method_26_code 14 = .ok (.bipush 20, 2) := by decide +kernel
theorem d12_height_16 : decode prog_14_method_26_code 16 = .ok (.invokestatic 176, 3) := by decide +kernel
theorem d12_height_19 : decode prog_14_method_26_code 19 = .ok (.ifCond .eq 13, 3) := by decide +kernel
theorem d12_height_22 : decode prog_14_method_26_code 22 = .ok (.aload_n 0, 1) := by decide +kernel
theorem d12_height_23 : decode prog_14_method_26_code 23 = .ok (.getfield 223, 3) := by decide +kernel
theorem d12_height_26 : decode prog_14_method_26_code 26 = .ok (.sipush 200, 3) := by decide +kernel
theorem d12_height_29 : decode prog_14_method_26_code 29 = .ok (.if_icmp .ne 5, 3) := by decide +kernel
theorem d12_height_32 : decode prog_14_method_26_code 32 = .ok (.iconst 0, 1) := by decide +kernel
theorem d12_height_33 : decode prog_14_method_26_code 33 = .ok (.ireturn, 1) := by decide +kernel
theorem d12_height_34 : decode prog_14_method_26_code 34 = .ok (.aload_n 0, 1) := by decide +kernel
theorem d12_height_35 : decode prog_14_method_26_code 35 = .ok (.getfield 50, 3) := by decide +kernel
theorem d12_height_38 : decode prog_14_method_26_code 38 = .ok (.aload_n 0, 1) := by decide +kernel
theorem d12_height_39 : decode prog_14_method_26_code 39 = .ok (.getfield 223, 3) := by decide +kernel
theorem d12_height_42 : decode prog_14_method_26_code 42 = .ok (.iload_n 1, 1) := by decide +kernel
theorem d12_height_43 : decode prog_14_method_26_code 43 = .ok (.iastore, 1) := by decide +kernel
theorem d12_height_44 : decode prog_14_method_26_code 44 = .ok (.aload_n 0, 1) := by decide +kernel
theorem d12_height_45 : decode prog_14_method_26_code 45 = .ok (.getfield 53, 3) := by decide +kernel
theorem d12_height_48 : decode prog_14_method_26_code 48 = .ok (.aload_n 0, 1) := by decide +kernel
theorem d12_height_49 : decode prog_14_method_26_code 49 = .ok (.getfield 223, 3) := by decide +kernel
theorem d12_height_52 : decode prog_14_method_26_code 52 = .ok (.iload_n 2, 1) := by decide +kernel
theorem d12_height_53 : decode prog_14_method_26_code 53 = .ok (.iastore, 1) := by decide +kernel
theorem d12_height_54 : decode prog_14_method_26_code 54 = .ok (.aload_n 0, 1) := by decide +kernel
theorem d12_height_55 : decode prog_14_method_26_code 55 = .ok (.getfield 56, 3) := by decide +kernel
theorem d12_height_58 : decode prog_14_method_26_code 58 = .ok (.aload_n 0, 1) := by decide +kernel
theorem d12_height_59 : decode prog_14_method_26_code 59 = .ok (.getfield 223, 3) := by decide +kernel
theorem d12_height_62 : decode prog_14_method_26_code 62 = .ok (.aload_n 0, 1) := by decide +kernel
theorem d12_height_63 : decode prog_14_method_26_code 63 = .ok (.getfield 194, 3) := by decide +kernel
theorem d12_height_66 : decode prog_14_method_26_code 66 = .ok (.iastore, 1) := by decide +kernel
theorem d12_height_67 : decode prog_14_method_26_code 67 = .ok (.aload_n 0, 1) := by decide +kernel
theorem d12_height_68 : decode prog_14_method_26_code 68 = .ok (.dup, 1) := by decide +kernel
theorem d12_height_69 : decode prog_14_method_26_code 69 = .ok (.getfield 223, 3) := by decide +kernel
theorem d12_height_72 : decode prog_14_method_26_code 72 = .ok (.iconst 1, 1) := by decide +kernel
theorem d12_height_73 : decode prog_14_method_26_code 73 = .ok (.iadd, 1) := by decide +kernel
theorem d12_height_74 : decode prog_14_method_26_code 74 = .ok (.putfield 223, 3) := by decide +kernel
theorem d12_height_77 : decode prog_14_method_26_code 77 = .ok (.iconst 1, 1) := by decide +kernel
theorem d12_height_78 : decode prog_14_method_26_code 78 = .ok (.ireturn, 1) := by decide +kernel
theorem d12_ice_0 : decode prog_14_method_27_code 0 = .ok (.aload_n 0, 1) := by decide +kernel
theorem d12_ice_1 : decode prog_14_method_27_code 1 = .ok (.iconst 0, 1) := by decide +kernel
theorem d12_ice_2 : decode prog_14_method_27_code 2 = .ok (.putfield 1, 3) := by decide +kernel
theorem d12_ice_5 : decode prog_14_method_27_code 5 = .ok (.iload_n 1, 1) := by decide +kernel
theorem d12_ice_6 : decode prog_14_method_27_code 6 = .ok (.invokestatic 220, 3) := by decide +kernel
theorem d12_ice_9 : decode prog_14_method_27_code 9 = .ok (.ifCond .eq 13, 3) := by decide +kernel
theorem d12_ice_12 : decode prog_14_method_27_code 12 = .ok (.aload_n 0, 1) := by decide +kernel
theorem d12_ice_13 : decode prog_14_method_27_code 13 = .ok (.getfield 226, 3) := by decide +kernel
theorem d12_ice_16 : decode prog_14_method_27_code 16 = .ok (.sipush 200, 3) := by decide +kernel
theorem d12_ice_19 : decode prog_14_method_27_code 19 = .ok (.if_icmp .ne 5, 3) := by decide +kernel
theorem d12_ice_22 : decode prog_14_method_27_code 22 = .ok (.iconst 0, 1) := by decide +kernel
theorem d12_ice_23 : decode prog_14_method_27_code 23 = .ok (.ireturn, 1) := by decide +kernel
theorem d12_ice_24 : decode prog_14_method_27_code 24 = .ok (.aload_n 0, 1) := by decide +kernel
theorem d12_ice_25 : decode prog_14_method_27_code 25 = .ok (.getfield 59, 3) := by decide +kernel
theorem d12_ice_28 : decode prog_14_method_27_code 28 = .ok (.aload_n 0, 1) := by decide +kernel
theorem d12_ice_29 : decode prog_14_method_27_code 29 = .ok (.getfield 226, 3) := by decide +kernel
theorem d12_ice_32 : decode prog_14_method_27_code 32 = .ok (.iload_n 1, 1) := by decide +kernel
theorem d12_ice_33 : decode prog_14_method_27_code 33 = .ok (.iastore, 1) := by decide +kernel
theorem d12_ice_34 : decode prog_14_method_27_code 34 = .ok (.aload_n 0, 1) := by decide +kernel
theorem d12_ice_35 : decode prog_14_method_27_code 35 = .ok (.getfield 62, 3) := by decide +kernel
theorem d12_ice_38 : decode prog_14_method_27_code 38 = .ok (.aload_n 0, 1) := by decide +kernel
theorem d12_ice_39 : decode prog_14_method_27_code 39 = .ok (.getfield 226, 3) := by decide +kernel
theorem d12_ice_42 : decode prog_14_method_27_code 42 = .ok (.iload_n 2, 1) := by decide +kernel
theorem d12_ice_43 : decode prog_14_method_27_code 43 = .ok (.bastore, 1) := by decide +kernel
theorem d12_ice_44 : decode prog_14_method_27_code 44 = .ok (.aload_n 0, 1) := by decide +kernel
theorem d12_ice_45 : decode prog_14_method_27_code 45 = .ok (.getfield 66, 3) := by decide +kernel
theorem d12_ice_48 : decode prog_14_method_27_code 48 = .ok (.aload_n 0, 1) := by decide +kernel
theorem d12_ice_49 : decode prog_14_method_27_code 49 = .ok (.getfield 226, 3) := by decide +kernel
theorem d12_ice_52 : decode prog_14_method_27_code 52 = .ok (.aload_n 0, 1) := by decide +kernel
theorem d12_ice_53 : decode prog_14_method_27_code 53 = .ok (.getfield 194, 3) := by decide +kernel
theorem d12_ice_56 : decode prog_14_method_27_code 56 = .ok (.iastore, 1) := by decide +kernel
theorem d12_ice_57 : decode prog_14_method_27_code 57 = .ok (.aload_n 0, 1) := by decide +kernel
theorem d12_ice_58 : decode prog_14_method_27_code 58 = .ok (.dup, 1) := by decide +kernel
theorem d12_ice_59 : decode prog_14_method_27_code 59 = .ok (.getfield 226, 3) := by decide +kernel
theorem d12_ice_62 : decode prog_14_method_27_code 62 = .ok (.iconst 1, 1) := by decide +kernel
theorem d12_ice_63 : decode prog_14_method_27_code 63 = .ok (.iadd, 1) := by decide +kernel
theorem d12_ice_64 : decode prog_14_method_27_code 64 = .ok (.putfield 226, 3) := by decide +kernel
theorem d12_ice_67 : decode prog_14_method_27_code 67 = .ok (.iconst 1, 1) := by decide +kernel
theorem d12_ice_68 : decode prog_14_method_27_code 68 = .ok (.ireturn, 1) := by decide +kernel
theorem d12_heightAt_0 : decode prog_14_method_28_code 0 = .ok (.iconst (-1), 1) := by decide +kernel
theorem d12_heightAt_1 : decode prog_14_method_28_code 1 = .ok (.istore_n 3, 1) := by decide +kernel
theorem d12_heightAt_2 : decode prog_14_method_28_code 2 = .ok (.aload_n 0, 1) := by decide +kernel
theorem d12_heightAt_3 : decode prog_14_method_28_code 3 = .ok (.getfield 223, 3) := by decide +kernel
theorem d12_heightAt_6 : decode prog_14_method_28_code 6 = .ok (.iconst 1, 1) := by decide +kernel
theorem d12_heightAt_7 : decode prog_14_method_28_code 7 = .ok (.isub, 1) := by decide +kernel
theorem d12_heightAt_8 : decode prog_14_method_28_code 8 = .ok (.istore 4, 2) := by decide +kernel
theorem d12_heightAt_10 : decode prog_14_method_28_code 10 = .ok (.iload 4, 2) := by decide +kernel
theorem d12_heightAt_12 : decode prog_14_method_28_code 12 = .ok (.ifCond .lt 58, 3) := by decide +kernel
theorem d12_heightAt_15 : decode prog_14_method_28_code 15 = .ok (.aload_n 0, 1) := by decide +kernel
theorem d12_heightAt_16 : decode prog_14_method_28_code 16 = .ok (.getfield 56, 3) := by decide +kernel
theorem d12_heightAt_19 : decode prog_14_method_28_code 19 = .ok (.iload 4, 2) := by decide +kernel
theorem d12_heightAt_21 : decode prog_14_method_28_code 21 = .ok (.iaload, 1) := by decide +kernel
theorem d12_heightAt_22 : decode prog_14_method_28_code 22 = .ok (.iload_n 2, 1) := by decide +kernel
theorem d12_heightAt_23 : decode prog_14_method_28_code 23 = .ok (.if_icmp .gt 41, 3) := by decide +kernel
theorem d12_heightAt_26 : decode prog_14_method_28_code 26 = .ok (.aload_n 0, 1) := by decide +kernel
theorem d12_heightAt_27 : decode prog_14_method_28_code 27 = .ok (.getfield 50, 3) := by decide +kernel
theorem d12_heightAt_30 : decode prog_14_method_28_code 30 = .ok (.iload 4, 2) := by decide +kernel
theorem d12_heightAt_32 : decode prog_14_method_28_code 32 = .ok (.iaload, 1) := by decide +kernel
theorem d12_heightAt_33 : decode prog_14_method_28_code 33 = .ok (.iload_n 1, 1) := by decide +kernel
theorem d12_heightAt_34 : decode prog_14_method_28_code 34 = .ok (.if_icmp .le 6, 3) := by decide +kernel
theorem d12_heightAt_37 : decode prog_14_method_28_code 37 = .ok (.goto 27, 3) := by decide +kernel
theorem d12_heightAt_40 : decode prog_14_method_28_code 40 = .ok (.iload_n 3, 1) := by decide +kernel
theorem d12_heightAt_41 : decode prog_14_method_28_code 41 = .ok (.iconst (-1), 1) := by decide +kernel
theorem d12_heightAt_42 : decode prog_14_method_28_code 42 = .ok (.if_icmp .eq 19, 3) := by decide +kernel
theorem d12_heightAt_45 : decode prog_14_method_28_code 45 = .ok (.aload_n 0, 1) := by decide +kernel
theorem d12_heightAt_46 : decode prog_14_method_28_code 46 = .ok (.getfield 50, 3) := by decide +kernel
theorem d12_heightAt_49 : decode prog_14_method_28_code 49 = .ok (.iload 4, 2) := by decide +kernel
theorem d12_heightAt_51 : decode prog_14_method_28_code 51 = .ok (.iaload, 1) := by decide +kernel
theorem d12_heightAt_52 : decode prog_14_method_28_code 52 = .ok (.aload_n 0, 1) := by decide +kernel
theorem d12_heightAt_53 : decode prog_14_method_28_code 53 = .ok (.getfield 50, 3) := by decide +kernel
theorem d12_heightAt_56 : decode prog_14_method_28_code 56 = .ok (.iload_n 3, 1) := by decide +kernel
theorem d12_heightAt_57 : decode prog_14_method_28_code 57 = .ok (.iaload, 1) := by decide +kernel
theorem d12_heightAt_58 : decode prog_14_method_28_code 58 = .ok (.if_icmp .le 6, 3) := by decide +kernel
theorem d12_heightAt_61 : decode prog_14_method_28_code 61 = .ok (.iload 4, 2) := by decide +kernel
theorem d12_heightAt_63 : decode prog_14_method_28_code 63 = .ok (.istore_n 3, 1) := by decide +kernel
theorem d12_heightAt_64 : decode prog_14_method_28_code 64 = .ok (.iinc 4 (-1), 3) := by decide +kernel
theorem d12_heightAt_67 : decode prog_14_method_28_code 67 = .ok (.goto (-57), 3) := by decide +kernel
theorem d12_heightAt_70 : decode prog_14_method_28_code 70 = .ok (.iload_n 3, 1) := by decide +kernel
theorem d12_heightAt_71 : decode prog_14_method_28_code 71 = .ok (.iconst (-1), 1) := by decide +kernel
theorem d12_heightAt_72 : decode prog_14_method_28_code 72 = .ok (.if_icmp .ne 7, 3) := by decide +kernel
theorem d12_heightAt_75 : decode prog_14_method_28_code 75 = .ok (.iconst 5, 1) := by decide +kernel
theorem d12_heightAt_76 : decode prog_14_method_28_code 76 = .ok (.goto 9, 3) := by decide +kernel
theorem d12_heightAt_79 : decode prog_14_method_28_code 79 = .ok (.aload_n 0, 1) := by decide +kernel
theorem d12_heightAt_80 : decode prog_14_method_28_code 80 = .ok (.getfield 53, 3) := by decide +kernel
theorem d12_heightAt_83 : decode prog_14_method_28_code 83 = .ok (.iload_n 3, 1) := by decide +kernel
theorem d12_heightAt_84 : decode prog_14_method_28_code 84 = .ok (.iaload, 1) := by decide +kernel
theorem d12_heightAt_85 : decode prog_14_method_28_code 85 = .ok (.ireturn, 1) := by decide +kernel
theorem d12_iceAt_0 : decode prog_14_method_29_code 0 = .ok (.aload_n 0, 1) := by decide +kernel
theorem d12_iceAt_1 : decode prog_14_method_29_code 1 = .ok (.getfield 226, 3) := by decide +kernel
theorem d12_iceAt_4 : decode prog_14_method_29_code 4 = .ok (.iconst 1, 1) := by decide +kernel
theorem d12_iceAt_5 : decode prog_14_method_29_code 5 = .ok (.isub, 1) := by decide +kernel
theorem d12_iceAt_6 : decode prog_14_method_29_code 6 = .ok (.istore_n 3, 1) := by decide +kernel
theorem d12_iceAt_7 : decode prog_14_method_29_code 7 = .ok (.iload_n 3, 1) := by decide +kernel
theorem d12_iceAt_8 : decode prog_14_method_29_code 8 = .ok (.ifCond .lt 36, 3) := by decide +kernel
theorem d12_iceAt_11 : decode prog_14_method_29_code 11 = .ok (.aload_n 0, 1) := by decide +kernel
theorem d12_iceAt_12 : decode prog_14_method_29_code 12 = .ok (.getfield 66, 3) := by decide +kernel
theorem d12_iceAt_15 : decode prog_14_method_29_code 15 = .ok (.iload_n 3, 1) := by decide +kernel
theorem d12_iceAt_16 : decode prog_14_method_29_code 16 = .ok (.iaload, 1) := by decide +kernel
theorem d12_iceAt_17 : decode prog_14_method_29_code 17 = .ok (.iload_n 2, 1) := by decide +kernel
theorem d12_iceAt_18 : decode prog_14_method_29_code 18 = .ok (.if_icmp .gt 20, 3) := by decide +kernel
theorem d12_iceAt_21 : decode prog_14_method_29_code 21 = .ok (.aload_n 0, 1) := by decide +kernel
theorem d12_iceAt_22 : decode prog_14_method_29_code 22 = .ok (.getfield 59, 3) := by decide +kernel
theorem d12_iceAt_25 : decode prog_14_method_29_code 25 = .ok (.iload_n 3, 1) := by decide +kernel
theorem d12_iceAt_26 : decode prog_14_method_29_code 26 = .ok (.iaload, 1) := by decide +kernel
theorem d12_iceAt_27 : decode prog_14_method_29_code 27 = .ok (.iload_n 1, 1) := by decide +kernel
theorem d12_iceAt_28 : decode prog_14_method_29_code 28 = .ok (.if_icmp .ne 10, 3) := by decide +kernel
theorem d12_iceAt_31 : decode prog_14_method_29_code 31 = .ok (.aload_n 0, 1) := by decide +kernel
theorem d12_iceAt_32 : decode prog_14_method_29_code 32 = .ok (.getfield 62, 3) := by decide +kernel
theorem d12_iceAt_35 : decode prog_14_method_29_code 35 = .ok (.iload_n 3, 1) := by decide +kernel
theorem d12_iceAt_36 : decode prog_14_method_29_code 36 = .ok (.baload, 1) := by decide +kernel
theorem d12_iceAt_37 : decode prog_14_method_29_code 37 = .ok (.ireturn, 1) := by decide +kernel
theorem d12_iceAt_38 : decode prog_14_method_29_code 38 = .ok (.iinc 3 (-1), 3) := by decide +kernel
theorem d12_iceAt_41 : decode prog_14_method_29_code 41 = .ok (.goto (-34), 3) := by decide +kernel
theorem d12_iceAt_44 : decode prog_14_method_29_code 44 = .ok (.iconst 0, 1) := by decide +kernel
theorem d12_iceAt_45 : decode prog_14_method_29_code 45 = .ok (.ireturn, 1) := by decide +kernel
theorem d12_isKnown_0 : decode prog_14_method_30_code 0 = .ok (.iload_n 1, 1) := by decide +kernel
theorem d12_isKnown_1 : decode prog_14_method_30_code 1 = .ok (.invokestatic 220, 3) := by decide +kernel
theorem d12_isKnown_4 : decode prog_14_method_30_code 4 = .ok (.ifCond .eq 19, 3) := by decide +kernel
theorem d12_isKnown_7 : decode prog_14_method_30_code 7 = .ok (.iload_n 2, 1) := by decide +kernel
theorem d12_isKnown_8 : decode prog_14_method_30_code 8 = .ok (.iconst 0, 1) := by decide +kernel
theorem d12_isKnown_9 : decode prog_14_method_30_code 9 = .ok (.aload_n 0, 1) := by decide +kernel
theorem d12_isKnown_10 : decode prog_14_method_30_code 10 = .ok (.getfield 194, 3) := by decide +kernel
theorem d12_isKnown_13 : decode prog_14_method_30_code 13 = .ok (.invokestatic 176, 3) := by decide +kernel
theorem d12_isKnown_16 : decode prog_14_method_30_code 16 = .ok (.ifCond .eq 7, 3) := by decide +kernel
theorem d12_isKnown_19 : decode prog_14_method_30_code 19 = .ok (.iconst 1, 1) := by decide +kernel
theorem d12_isKnown_20 : decode prog_14_method_30_code 20 = .ok (.goto 4, 3) := by decide +kernel
theorem d12_isKnown_23 : decode prog_14_method_30_code 23 = .ok (.iconst 0, 1) := by decide +kernel
theorem d12_isKnown_24 : decode prog_14_method_30_code 24 = .ok (.ireturn, 1) := by decide +kernel
theorem d12_heightOf_0 : decode prog_14_method_31_code 0 = .ok (.aload_n 0, 1) := by decide +kernel
theorem d12_heightOf_1 : decode prog_14_method_31_code 1 = .ok (.iconst 0, 1) := by decide +kernel
theorem d12_heightOf_2 : decode prog_14_method_31_code 2 = .ok (.putfield 1, 3) := by decide +kernel
theorem d12_heightOf_5 : decode prog_14_method_31_code 5 = .ok (.aload_n 0, 1) := by decide +kernel
theorem d12_heightOf_6 : decode prog_14_method_31_code 6 = .ok (.iload_n 1, 1) := by decide +kernel
theorem d12_heightOf_7 : decode prog_14_method_31_code 7 = .ok (.iload_n 2, 1) := by decide +kernel
theorem d12_heightOf_8 : decode prog_14_method_31_code 8 = .ok (.invokevirtual 229, 3) := by decide +kernel
theorem d12_heightOf_11 : decode prog_14_method_31_code 11 = .ok (.ifCond .eq 12, 3) := by decide +kernel
theorem d12_heightOf_14 : decode prog_14_method_31_code 14 = .ok (.aload_n 0, 1) := by decide +kernel
theorem d12_heightOf_15 : decode prog_14_method_31_code 15 = .ok (.iload_n 1, 1) := by decide +kernel
theorem d12_heightOf_16 : decode prog_14_method_31_code 16 = .ok (.iload_n 2, 1) := by decide +kernel
theorem d12_heightOf_17 : decode prog_14_method_31_code 17 = .ok (.invokevirtual 232, 3) := by decide +kernel
theorem d12_heightOf_20 : decode prog_14_method_31_code 20 = .ok (.goto 4, 3) := by decide +kernel
theorem d12_heightOf_23 : decode prog_14_method_31_code 23 = .ok (.iconst (-1), 1) := by decide +kernel
theorem d12_heightOf_24 : decode prog_14_method_31_code 24 = .ok (.ireturn, 1) := by decide +kernel
theorem d12_iceOf_0 : decode prog_14_method_32_code 0 = .ok (.aload_n 0, 1) := by decide +kernel
theorem d12_iceOf_1 : decode prog_14_method_32_code 1 = .ok (.iconst 0, 1) := by decide +kernel
theorem d12_iceOf_2 : decode prog_14_method_32_code 2 = .ok (.putfield 1, 3) := by decide +kernel
theorem d12_iceOf_5 : decode prog_14_method_32_code 5 = .ok (.aload_n 0, 1) := by decide +kernel
theorem d12_iceOf_6 : decode prog_14_method_32_code 6 = .ok (.iload_n 1, 1) := by decide +kernel
theorem d12_iceOf_7 : decode prog_14_method_32_code 7 = .ok (.iload_n 2, 1) := by decide +kernel
theorem d12_iceOf_8 : decode prog_14_method_32_code 8 = .ok (.invokevirtual 229, 3) := by decide +kernel
theorem d12_iceOf_11 : decode prog_14_method_32_code 11 = .ok (.ifCond .eq 20, 3) := by decide +kernel
theorem d12_iceOf_14 : decode prog_14_method_32_code 14 = .ok (.aload_n 0, 1) := by decide +kernel
theorem d12_iceOf_15 : decode prog_14_method_32_code 15 = .ok (.iload_n 1, 1) := by decide +kernel
theorem d12_iceOf_16 : decode prog_14_method_32_code 16 = .ok (.iload_n 2, 1) := by decide +kernel
theorem d12_iceOf_17 : decode prog_14_method_32_code 17 = .ok (.invokevirtual 235, 3) := by decide +kernel
theorem d12_iceOf_20 : decode prog_14_method_32_code 20 = .ok (.ifCond .eq 7, 3) := by decide +kernel
theorem d12_iceOf_23 : decode prog_14_method_32_code 23 = .ok (.iconst 1, 1) := by decide +kernel
theorem d12_iceOf_24 : decode prog_14_method_32_code 24 = .ok (.goto 8, 3) := by decide +kernel
theorem d12_iceOf_27 : decode prog_14_method_32_code 27 = .ok (.iconst 0, 1) := by decide +kernel
theorem d12_iceOf_28 : decode prog_14_method_32_code 28 = .ok (.goto 4, 3) := by decide +kernel
theorem d12_iceOf_31 : decode prog_14_method_32_code 31 = .ok (.iconst (-1), 1) := by decide +kernel
theorem d12_iceOf_32 : decode prog_14_method_32_code 32 = .ok (.ireturn, 1) := by decide +kernel
theorem d12_feed_0 : decode prog_14_method_33_code 0 = .ok (.aload_n 0, 1) := by decide +kernel
theorem d12_feed_1 : decode prog_14_method_33_code 1 = .ok (.iconst 0, 1) := by decide +kernel
theorem d12_feed_2 : decode prog_14_method_33_code 2 = .ok (.putfield 1, 3) := by decide +kernel
theorem d12_feed_5 : decode prog_14_method_33_code 5 = .ok (.aload_n 0, 1) := by decide +kernel
theorem d12_feed_6 : decode prog_14_method_33_code 6 = .ok (.getfield 238, 3) := by decide +kernel
theorem d12_feed_9 : decode prog_14_method_33_code 9 = .ok (.bipush 20, 2) := by decide +kernel
theorem d12_feed_11 : decode prog_14_method_33_code 11 = .ok (.iadd, 1) := by decide +kernel
theorem d12_feed_12 : decode prog_14_method_33_code 12 = .ok (.sipush 400, 3) := by decide +kernel
theorem d12_feed_15 : decode prog_14_method_33_code 15 = .ok (.if_icmp .le 5, 3) := by decide +kernel
theorem d12_feed_18 : decode prog_14_method_33_code 18 = .ok (.iconst (-1), 1) := by decide +kernel
theorem d12_feed_19 : decode prog_14_method_33_code 19 = .ok (.ireturn, 1) := by decide +kernel
theorem d12_feed_20 : decode prog_14_method_33_code 20 = .ok (.iconst 0, 1) := by decide +kernel
theorem d12_feed_21 : decode prog_14_method_33_code 21 = .ok (.istore 6, 2) := by decide +kernel
theorem d12_feed_23 : decode prog_14_method_33_code 23 = .ok (.iload 6, 2) := by decide +kernel
theorem d12_feed_25 : decode prog_14_method_33_code 25 = .ok (.bipush 20, 2) := by decide +kernel
theorem d12_feed_27 : decode prog_14_method_33_code 27 = .ok (.if_icmp .ge 90, 3) := by decide +kernel
theorem d12_feed_30 : decode prog_14_method_33_code 30 = .ok (.iload 6, 2) := by decide +kernel
theorem d12_feed_32 : decode prog_14_method_33_code 32 = .ok (.iconst 4, 1) := by decide +kernel
theorem d12_feed_33 : decode prog_14_method_33_code 33 = .ok (.if_icmp .ge 7, 3) := by decide +kernel
theorem d12_feed_36 : decode prog_14_method_33_code 36 = .ok (.iload_n 1, 1) := by decide +kernel
theorem d12_feed_37 : decode prog_14_method_33_code 37 = .ok (.goto 39, 3) := by decide +kernel
theorem d12_feed_40 : decode prog_14_method_33_code 40 = .ok (.iload 6, 2) := by decide +kernel
theorem d12_feed_42 : decode prog_14_method_33_code 42 = .ok (.bipush 8, 2) := by decide +kernel
theorem d12_feed_44 : decode prog_14_method_33_code 44 = .ok (.if_icmp .ge 7, 3) := by decide +kernel
theorem d12_feed_47 : decode prog_14_method_33_code 47 = .ok (.iload_n 2, 1) := by decide +kernel
theorem d12_feed_48 : decode prog_14_method_33_code 48 = .ok (.goto 28, 3) := by decide +kernel
theorem d12_feed_51 : decode prog_14_method_33_code 51 = .ok (.iload 6, 2) := by decide +kernel
theorem d12_feed_53 : decode prog_14_method_33_code 53 = .ok (.bipush 12, 2) := by decide +kernel
theorem d12_feed_55 : decode prog_14_method_33_code 55 = .ok (.if_icmp .ge 7, 3) := by decide +kernel
theorem d12_feed_58 : decode prog_14_method_33_code 58 = .ok (.iload_n 3, 1) := by decide +kernel
theorem d12_feed_59 : decode prog_14_method_33_code 59 = .ok (.goto 17, 3) := by decide +kernel
theorem d12_feed_62 : decode prog_14_method_33_code 62 = .ok (.iload 6, 2) := by decide +kernel
theorem d12_feed_64 : decode prog_14_method_33_code 64 = .ok (.bipush 16, 2) := by decide +kernel
theorem d12_feed_66 : decode prog_14_method_33_code 66 = .ok (.if_icmp .ge 8, 3) := by decide +kernel
theorem d12_feed_69 : decode prog_14_method_33_code 69 = .ok (.iload 4, 2) := by decide +kernel
theorem d12_feed_71 : decode prog_14_method_33_code 71 = .ok (.goto 5, 3) := by decide +kernel
theorem d12_feed_74 : decode prog_14_method_33_code 74 = .ok (.iload 5, 2) := by decide +kernel
theorem d12_feed_76 : decode prog_14_method_33_code 76 = .ok (.istore 7, 2) := by decide +kernel
theorem d12_feed_78 : decode prog_14_method_33_code 78 = .ok (.aload_n 0, 1) := by decide +kernel
theorem d12_feed_79 : decode prog_14_method_33_code 79 = .ok (.getfield 102, 3) := by decide +kernel
theorem d12_feed_82 : decode prog_14_method_33_code 82 = .ok (.aload_n 0, 1) := by decide +kernel
theorem d12_feed_83 : decode prog_14_method_33_code 83 = .ok (.getfield 238, 3) := by decide +kernel
theorem d12_feed_86 : decode prog_14_method_33_code 86 = .ok (.iload 7, 2) := by decide +kernel
theorem d12_feed_88 : decode prog_14_method_33_code 88 = .ok (.bipush 24, 2) := by decide +kernel
theorem d12_feed_90 : decode prog_14_method_33_code 90 = .ok (.bipush 8, 2) := by decide +kernel
theorem d12_feed_92 : decode prog_14_method_33_code 92 = .ok (.iload 6, 2) := by decide +kernel
theorem d12_feed_94 : decode prog_14_method_33_code 94 = .ok (.iconst 4, 1) := by decide +kernel
theorem d12_feed_95 : decode prog_14_method_33_code 95 = .ok (.irem, 1) := by decide +kernel
theorem d12_feed_96 : decode prog_14_method_33_code 96 = .ok (.imul, 1) := by decide +kernel
theorem d12_feed_97 : decode prog_14_method_33_code 97 = .ok (.isub, 1) := by decide +kernel
theorem d12_feed_98 : decode prog_14_method_33_code 98 = .ok (.ishr, 1) := by decide +kernel
theorem d12_feed_99 : decode prog_14_method_33_code 99 = .ok (.i2b, 1) := by decide +kernel
theorem d12_feed_100 : decode prog_14_method_33_code 100 = .ok (.bastore, 1) := by decide +kernel
theorem d12_feed_101 : decode prog_14_method_33_code 101 = .ok (.aload_n 0, 1) := by decide +kernel
theorem d12_feed_102 : decode prog_14_method_33_code 102 = .ok (.dup, 1) := by decide +kernel
theorem d12_feed_103 : decode prog_14_method_33_code 103 = .ok (.getfield 238, 3) := by decide +kernel
theorem d12_feed_106 : decode prog_14_method_33_code 106 = .ok (.iconst 1, 1) := by decide +kernel
theorem d12_feed_107 : decode prog_14_method_33_code 107 = .ok (.iadd, 1) := by decide +kernel
theorem d12_feed_108 : decode prog_14_method_33_code 108 = .ok (.putfield 238, 3) := by decide +kernel
theorem d12_feed_111 : decode prog_14_method_33_code 111 = .ok (.iinc 6 1, 3) := by decide +kernel
theorem d12_feed_114 : decode prog_14_method_33_code 114 = .ok (.goto (-91), 3) := by decide +kernel
theorem d12_feed_117 : decode prog_14_method_33_code 117 = .ok (.aload_n 0, 1) := by decide +kernel
theorem d12_feed_118 : decode prog_14_method_33_code 118 = .ok (.getfield 238, 3) := by decide +kernel
theorem d12_feed_121 : decode prog_14_method_33_code 121 = .ok (.ireturn, 1) := by decide +kernel
theorem d12_end_0 : decode prog_14_method_34_code 0 = .ok (.aload_n 0, 1) := by decide +kernel
theorem d12_end_1 : decode prog_14_method_34_code 1 = .ok (.iconst 0, 1) := by decide +kernel
theorem d12_end_2 : decode prog_14_method_34_code 2 = .ok (.putfield 1, 3) := by decide +kernel
theorem d12_end_5 : decode prog_14_method_34_code 5 = .ok (.iload_n 1, 1) := by decide +kernel
theorem d12_end_6 : decode prog_14_method_34_code 6 = .ok (.ifCond .lt 11, 3) := by decide +kernel
theorem d12_end_9 : decode prog_14_method_34_code 9 = .ok (.iload_n 1, 1) := by decide +kernel
theorem d12_end_10 : decode prog_14_method_34_code 10 = .ok (.aload_n 0, 1) := by decide +kernel
theorem d12_end_11 : decode prog_14_method_34_code 11 = .ok (.getfield 238, 3) := by decide +kernel
theorem d12_end_14 : decode prog_14_method_34_code 14 = .ok (.if_icmp .le 5, 3) := by decide +kernel
theorem d12_end_17 : decode prog_14_method_34_code 17 = .ok (.iconst (-1), 1) := by decide +kernel
theorem d12_end_18 : decode prog_14_method_34_code 18 = .ok (.ireturn, 1) := by decide +kernel
theorem d12_end_19 : decode prog_14_method_34_code 19 = .ok (.aload_n 0, 1) := by decide +kernel
theorem d12_end_20 : decode prog_14_method_34_code 20 = .ok (.iload_n 1, 1) := by decide +kernel
theorem d12_end_21 : decode prog_14_method_34_code 21 = .ok (.putfield 238, 3) := by decide +kernel
theorem d12_end_24 : decode prog_14_method_34_code 24 = .ok (.iload_n 1, 1) := by decide +kernel
theorem d12_end_25 : decode prog_14_method_34_code 25 = .ok (.ireturn, 1) := by decide +kernel
theorem d12_see_0 : decode prog_14_method_35_code 0 = .ok (.iload_n 1, 1) := by decide +kernel
theorem d12_see_1 : decode prog_14_method_35_code 1 = .ok (.aload_n 0, 1) := by decide +kernel
theorem d12_see_2 : decode prog_14_method_35_code 2 = .ok (.getfield 238, 3) := by decide +kernel
theorem d12_see_5 : decode prog_14_method_35_code 5 = .ok (.if_icmp .ge 12, 3) := by decide +kernel
theorem d12_see_8 : decode prog_14_method_35_code 8 = .ok (.aload_n 0, 1) := by decide +kernel
theorem d12_see_9 : decode prog_14_method_35_code 9 = .ok (.getfield 102, 3) := by decide +kernel
theorem d12_see_12 : decode prog_14_method_35_code 12 = .ok (.iload_n 1, 1) := by decide +kernel
theorem d12_see_13 : decode prog_14_method_35_code 13 = .ok (.baload, 1) := by decide +kernel
theorem d12_see_14 : decode prog_14_method_35_code 14 = .ok (.goto 4, 3) := by decide +kernel
theorem d12_see_17 : decode prog_14_method_35_code 17 = .ok (.iconst 0, 1) := by decide +kernel
theorem d12_see_18 : decode prog_14_method_35_code 18 = .ok (.ireturn, 1) := by decide +kernel
theorem d12_isSmall_0 : decode prog_14_method_36_code 0 = .ok (.iload_n 0, 1) := by decide +kernel
theorem d12_isSmall_1 : decode prog_14_method_36_code 1 = .ok (.bipush 97, 2) := by decide +kernel
theorem d12_isSmall_3 : decode prog_14_method_36_code 3 = .ok (.if_icmp .lt 13, 3) := by decide +kernel
theorem d12_isSmall_6 : decode prog_14_method_36_code 6 = .ok (.iload_n 0, 1) := by decide +kernel
theorem d12_isSmall_7 : decode prog_14_method_36_code 7 = .ok (.bipush 122, 2) := by decide +kernel
theorem d12_isSmall_9 : decode prog_14_method_36_code 9 = .ok (.if_icmp .gt 7, 3) := by decide +kernel
theorem d12_isSmall_12 : decode prog_14_method_36_code 12 = .ok (.iconst 1, 1) := by decide +kernel
theorem d12_isSmall_13 : decode prog_14_method_36_code 13 = .ok (.goto 4, 3) := by decide +kernel
theorem d12_isSmall_16 : decode prog_14_method_36_code 16 = .ok (.iconst 0, 1) := by decide +kernel
theorem d12_isSmall_17 : decode prog_14_method_36_code 17 = .ok (.ireturn, 1) := by decide +kernel
theorem d12_isDigit_0 : decode prog_14_method_37_code 0 = .ok (.iload_n 0, 1) := by decide +kernel
theorem d12_isDigit_1 : decode prog_14_method_37_code 1 = .ok (.bipush 48, 2) := by decide +kernel
theorem d12_isDigit_3 : decode prog_14_method_37_code 3 = .ok (.if_icmp .lt 13, 3) := by decide +kernel
theorem d12_isDigit_6 : decode prog_14_method_37_code 6 = .ok (.iload_n 0, 1) := by decide +kernel
theorem d12_isDigit_7 : decode prog_14_method_37_code 7 = .ok (.bipush 57, 2) := by decide +kernel
theorem d12_isDigit_9 : decode prog_14_method_37_code 9 = .ok (.if_icmp .gt 7, 3) := by decide +kernel
theorem d12_isDigit_12 : decode prog_14_method_37_code 12 = .ok (.iconst 1, 1) := by decide +kernel
theorem d12_isDigit_13 : decode prog_14_method_37_code 13 = .ok (.goto 4, 3) := by decide +kernel
theorem d12_isDigit_16 : decode prog_14_method_37_code 16 = .ok (.iconst 0, 1) := by decide +kernel
theorem d12_isDigit_17 : decode prog_14_method_37_code 17 = .ok (.ireturn, 1) := by decide +kernel
theorem d12_next_0 : decode prog_14_method_38_code 0 = .ok (.aload_n 0, 1) := by decide +kernel
theorem d12_next_1 : decode prog_14_method_38_code 1 = .ok (.getfield 241, 3) := by decide +kernel
theorem d12_next_4 : decode prog_14_method_38_code 4 = .ok (.aload_n 0, 1) := by decide +kernel
theorem d12_next_5 : decode prog_14_method_38_code 5 = .ok (.getfield 238, 3) := by decide +kernel
theorem d12_next_8 : decode prog_14_method_38_code 8 = .ok (.if_icmp .ge 44, 3) := by decide +kernel
theorem d12_next_11 : decode prog_14_method_38_code 11 = .ok (.aload_n 0, 1) := by decide +kernel
theorem d12_next_12 : decode prog_14_method_38_code 12 = .ok (.getfield 102, 3) := by decide +kernel
theorem d12_next_15 : decode prog_14_method_38_code 15 = .ok (.aload_n 0, 1) := by decide +kernel
theorem d12_next_16 : decode prog_14_method_38_code 16 = .ok (.getfield 241, 3) := by decide +kernel
theorem d12_next_19 : decode prog_14_method_38_code 19 = .ok (.baload, 1) := by decide +kernel
theorem d12_next_20 : decode prog_14_method_38_code 20 = .ok (.bipush 32, 2) := by decide +kernel
theorem d12_next_22 : decode prog_14_method_38_code 22 = .ok (.if_icmp .eq 17, 3) := by decide +kernel
theorem d12_next_25 : decode prog_14_method_38_code 25 = .ok (.aload_n 0, 1) := by decide +kernel
theorem d12_next_26 : decode prog_14_method_38_code 26 = .ok (.getfield 102, 3) := by decide +kernel
theorem d12_next_29 : decode prog_14_method_38_code 29 = .ok (.aload_n 0, 1) := by decide +kernel
theorem d12_next_30 : decode prog_14_method_38_code 30 = .ok (.getfield 241, 3) := by decide +kernel
theorem d12_next_33 : decode prog_14_method_38_code 33 = .ok (.baload, 1) := by decide +kernel
theorem d12_next_34 : decode prog_14_method_38_code 34 = .ok (.bipush 10, 2) := by decide +kernel
theorem d12_next_36 : decode prog_14_method_38_code 36 = .ok (.if_icmp .ne 16, 3) := by decide +kernel
theorem d12_next_39 : decode prog_14_method_38_code 39 = .ok (.aload_n 0, 1) := by decide +kernel
theorem d12_next_40 : decode prog_14_method_38_code 40 = .ok (.dup, 1) := by decide +kernel
theorem d12_next_41 : decode prog_14_method_38_code 41 = .ok (.getfield 241, 3) := by decide +kernel
theorem d12_next_44 : decode prog_14_method_38_code 44 = .ok (.iconst 1, 1) := by decide +kernel
theorem d12_next_45 : decode prog_14_method_38_code 45 = .ok (.iadd, 1) := by decide +kernel
theorem d12_next_46 : decode prog_14_method_38_code 46 = .ok (.putfield 241, 3) := by decide +kernel
theorem d12_next_49 : decode prog_14_method_38_code 49 = .ok (.goto (-49), 3) := by decide +kernel
theorem d12_next_52 : decode prog_14_method_38_code 52 = .ok (.aload_n 0, 1) := by decide +kernel
theorem d12_next_53 : decode prog_14_method_38_code 53 = .ok (.aload_n 0, 1) := by decide +kernel
theorem d12_next_54 : decode prog_14_method_38_code 54 = .ok (.getfield 241, 3) := by decide +kernel
theorem d12_next_57 : decode prog_14_method_38_code 57 = .ok (.putfield 244, 3) := by decide +kernel
theorem d12_next_60 : decode prog_14_method_38_code 60 = .ok (.aload_n 0, 1) := by decide +kernel
theorem d12_next_61 : decode prog_14_method_38_code 61 = .ok (.getfield 241, 3) := by decide +kernel
theorem d12_next_64 : decode prog_14_method_38_code 64 = .ok (.aload_n 0, 1) := by decide +kernel
theorem d12_next_65 : decode prog_14_method_38_code 65 = .ok (.getfield 238, 3) := by decide +kernel
theorem d12_next_68 : decode prog_14_method_38_code 68 = .ok (.if_icmp .lt 9, 3) := by decide +kernel
theorem d12_next_71 : decode prog_14_method_38_code 71 = .ok (.aload_n 0, 1) := by decide +kernel
theorem d12_next_72 : decode prog_14_method_38_code 72 = .ok (.iconst 0, 1) := by decide +kernel
theorem d12_next_73 : decode prog_14_method_38_code 73 = .ok (.putfield 247, 3) := by decide +kernel
theorem d12_next_76 : decode prog_14_method_38_code 76 = .ok (.return_, 1) := by decide +kernel
theorem d12_next_77 : decode prog_14_method_38_code 77 = .ok (.aload_n 0, 1) := by decide +kernel
theorem d12_next_78 : decode prog_14_method_38_code 78 = .ok (.getfield 102, 3) := by decide +kernel
theorem d12_next_81 : decode prog_14_method_38_code 81 = .ok (.aload_n 0, 1) := by decide +kernel
theorem d12_next_82 : decode prog_14_method_38_code 82 = .ok (.getfield 241, 3) := by decide +kernel
theorem d12_next_85 : decode prog_14_method_38_code 85 = .ok (.baload, 1) := by decide +kernel
theorem d12_next_86 : decode prog_14_method_38_code 86 = .ok (.istore_n 1, 1) := by decide +kernel
theorem d12_next_87 : decode prog_14_method_38_code 87 = .ok (.aload_n 0, 1) := by decide +kernel
theorem d12_next_88 : decode prog_14_method_38_code 88 = .ok (.dup, 1) := by decide +kernel
theorem d12_next_89 : decode prog_14_method_38_code 89 = .ok (.getfield 241, 3) := by decide +kernel
theorem d12_next_92 : decode prog_14_method_38_code 92 = .ok (.iconst 1, 1) := by decide +kernel
theorem d12_next_93 : decode prog_14_method_38_code 93 = .ok (.iadd, 1) := by decide +kernel
theorem d12_next_94 : decode prog_14_method_38_code 94 = .ok (.putfield 241, 3) := by decide +kernel
theorem d12_next_97 : decode prog_14_method_38_code 97 = .ok (.aload_n 0, 1) := by decide +kernel
theorem d12_next_98 : decode prog_14_method_38_code 98 = .ok (.iload_n 1, 1) := by decide +kernel
theorem d12_next_99 : decode prog_14_method_38_code 99 = .ok (.putfield 250, 3) := by decide +kernel
theorem d12_next_102 : decode prog_14_method_38_code 102 = .ok (.iload_n 1, 1) := by decide +kernel
theorem d12_next_103 : decode prog_14_method_38_code 103 = .ok (.invokestatic 253, 3) := by decide +kernel
theorem d12_next_106 : decode prog_14_method_38_code 106 = .ok (.ifCond .eq 56, 3) := by decide +kernel
theorem d12_next_109 : decode prog_14_method_38_code 109 = .ok (.aload_n 0, 1) := by decide +kernel
theorem d12_next_110 : decode prog_14_method_38_code 110 = .ok (.aload_n 0, 1) := by decide +kernel
theorem d12_next_111 : decode prog_14_method_38_code 111 = .ok (.getfield 241, 3) := by decide +kernel
theorem d12_next_114 : decode prog_14_method_38_code 114 = .ok (.invokevirtual 256, 3) := by decide +kernel
theorem d12_next_117 : decode prog_14_method_38_code 117 = .ok (.invokestatic 253, 3) := by decide +kernel
theorem d12_next_120 : decode prog_14_method_38_code 120 = .ok (.ifCond .eq 16, 3) := by decide +kernel
theorem d12_next_123 : decode prog_14_method_38_code 123 = .ok (.aload_n 0, 1) := by decide +kernel
theorem d12_next_124 : decode prog_14_method_38_code 124 = .ok (.dup, 1) := by decide +kernel
theorem d12_next_125 : decode prog_14_method_38_code 125 = .ok (.getfield 241, 3) := by decide +kernel
theorem d12_next_128 : decode prog_14_method_38_code 128 = .ok (.iconst 1, 1) := by decide +kernel
theorem d12_next_129 : decode prog_14_method_38_code 129 = .ok (.iadd, 1) := by decide +kernel
theorem d12_next_130 : decode prog_14_method_38_code 130 = .ok (.putfield 241, 3) := by decide +kernel
theorem d12_next_133 : decode prog_14_method_38_code 133 = .ok (.goto (-24), 3) := by decide +kernel
theorem d12_next_136 : decode prog_14_method_38_code 136 = .ok (.aload_n 0, 1) := by decide +kernel
theorem d12_next_137 : decode prog_14_method_38_code 137 = .ok (.aload_n 0, 1) := by decide +kernel
theorem d12_next_138 : decode prog_14_method_38_code 138 = .ok (.getfield 241, 3) := by decide +kernel
theorem d12_next_141 : decode prog_14_method_38_code 141 = .ok (.aload_n 0, 1) := by decide +kernel
theorem d12_next_142 : decode prog_14_method_38_code 142 = .ok (.getfield 244, 3) := by decide +kernel
theorem d12_next_145 : decode prog_14_method_38_code 145 = .ok (.isub, 1) := by decide +kernel
theorem d12_next_146 : decode prog_14_method_38_code 146 = .ok (.bipush 8, 2) := by decide +kernel
theorem d12_next_148 : decode prog_14_method_38_code 148 = .ok (.if_icmp .le 7, 3) := by decide +kernel
theorem d12_next_151 : decode prog_14_method_38_code 151 = .ok (.iconst 1, 1) := by decide +kernel
theorem d12_next_152 : decode prog_14_method_38_code 152 = .ok (.goto 4, 3) := by decide +kernel
theorem d12_next_155 : decode prog_14_method_38_code 155 = .ok (.iconst 3, 1) := by decide +kernel
theorem d12_next_156 : decode prog_14_method_38_code 156 = .ok (.putfield 247, 3) := by decide +kernel
theorem d12_next_159 : decode prog_14_method_38_code 159 = .ok (.goto 111, 3) := by decide +kernel
theorem d12_next_162 : decode prog_14_method_38_code 162 = .ok (.iload_n 1, 1) := by decide +kernel
theorem d12_next_163 : decode prog_14_method_38_code 163 = .ok (.invokestatic 259, 3) := by decide +kernel
theorem d12_next_166 : decode prog_14_method_38_code 166 = .ok (.ifCond .eq 99, 3) := by decide +kernel
theorem d12_next_169 : decode prog_14_method_38_code 169 = .ok (.aload_n 0, 1) := by decide +kernel
theorem d12_next_170 : decode prog_14_method_38_code 170 = .ok (.iload_n 1, 1) := by decide +kernel
theorem d12_next_171 : decode prog_14_method_38_code 171 = .ok (.bipush 48, 2) := by decide +kernel
theorem d12_next_173 : decode prog_14_method_38_code 173 = .ok (.isub, 1) := by decide +kernel
theorem d12_next_174 : decode prog_14_method_38_code 174 = .ok (.putfield 250, 3) := by decide +kernel
theorem d12_next_177 : decode prog_14_method_38_code 177 = .ok (.aload_n 0, 1) := by decide +kernel
theorem d12_next_178 : decode prog_14_method_38_code 178 = .ok (.aload_n 0, 1) := by decide +kernel
theorem d12_next_179 : decode prog_14_method_38_code 179 = .ok (.getfield 241, 3) := by decide +kernel
theorem d12_next_182 : decode prog_14_method_38_code 182 = .ok (.invokevirtual 256, 3) := by decide +kernel
theorem d12_next_185 : decode prog_14_method_38_code 185 = .ok (.invokestatic 259, 3) := by decide +kernel
theorem d12_next_188 : decode prog_14_method_38_code 188 = .ok (.ifCond .eq 52, 3) := by decide +kernel
theorem d12_next_191 : decode prog_14_method_38_code 191 = .ok (.aload_n 0, 1) := by decide +kernel
theorem d12_next_192 : decode prog_14_method_38_code 192 = .ok (.getfield 241, 3) := by decide +kernel
theorem d12_next_195 : decode prog_14_method_38_code 195 = .ok (.aload_n 0, 1) := by decide +kernel
theorem d12_next_196 : decode prog_14_method_38_code 196 = .ok (.getfield 244, 3) := by decide +kernel
theorem d12_next_199 : decode prog_14_method_38_code 199 = .ok (.isub, 1) := by decide +kernel
theorem d12_next_200 : decode prog_14_method_38_code 200 = .ok (.iconst 4, 1) := by decide +kernel
theorem d12_next_201 : decode prog_14_method_38_code 201 = .ok (.if_icmp .ge 26, 3) := by decide +kernel
theorem d12_next_204 : decode prog_14_method_38_code 204 = .ok (.aload_n 0, 1) := by decide +kernel
theorem d12_next_205 : decode prog_14_method_38_code 205 = .ok (.bipush 10, 2) := by decide +kernel
theorem d12_next_207 : decode prog_14_method_38_code 207 = .ok (.aload_n 0, 1) := by decide +kernel
theorem d12_next_208 : decode prog_14_method_38_code 208 = .ok (.getfield 250, 3) := by decide +kernel
theorem d12_next_211 : decode prog_14_method_38_code 211 = .ok (.imul, 1) := by decide +kernel
theorem d12_next_212 : decode prog_14_method_38_code 212 = .ok (.aload_n 0, 1) := by decide +kernel
theorem d12_next_213 : decode prog_14_method_38_code 213 = .ok (.aload_n 0, 1) := by decide +kernel
theorem d12_next_214 : decode prog_14_method_38_code 214 = .ok (.getfield 241, 3) := by decide +kernel
theorem d12_next_217 : decode prog_14_method_38_code 217 = .ok (.invokevirtual 256, 3) := by decide +kernel
theorem d12_next_220 : decode prog_14_method_38_code 220 = .ok (.iadd, 1) := by decide +kernel
theorem d12_next_221 : decode prog_14_method_38_code 221 = .ok (.bipush 48, 2) := by decide +kernel
theorem d12_next_223 : decode prog_14_method_38_code 223 = .ok (.isub, 1) := by decide +kernel
theorem d12_next_224 : decode prog_14_method_38_code 224 = .ok (.putfield 250, 3) := by decide +kernel
theorem d12_next_227 : decode prog_14_method_38_code 227 = .ok (.aload_n 0, 1) := by decide +kernel
theorem d12_next_228 : decode prog_14_method_38_code 228 = .ok (.dup, 1) := by decide +kernel
theorem d12_next_229 : decode prog_14_method_38_code 229 = .ok (.getfield 241, 3) := by decide +kernel
theorem d12_next_232 : decode prog_14_method_38_code 232 = .ok (.iconst 1, 1) := by decide +kernel
theorem d12_next_233 : decode prog_14_method_38_code 233 = .ok (.iadd, 1) := by decide +kernel
theorem d12_next_234 : decode prog_14_method_38_code 234 = .ok (.putfield 241, 3) := by decide +kernel
theorem d12_next_237 : decode prog_14_method_38_code 237 = .ok (.goto (-60), 3) := by decide +kernel
theorem d12_next_240 : decode prog_14_method_38_code 240 = .ok (.aload_n 0, 1) := by decide +kernel
theorem d12_next_241 : decode prog_14_method_38_code 241 = .ok (.aload_n 0, 1) := by decide +kernel
theorem d12_next_242 : decode prog_14_method_38_code 242 = .ok (.getfield 241, 3) := by decide +kernel
theorem d12_next_245 : decode prog_14_method_38_code 245 = .ok (.aload_n 0, 1) := by decide +kernel
theorem d12_next_246 : decode prog_14_method_38_code 246 = .ok (.getfield 244, 3) := by decide +kernel
theorem d12_next_249 : decode prog_14_method_38_code 249 = .ok (.isub, 1) := by decide +kernel
theorem d12_next_250 : decode prog_14_method_38_code 250 = .ok (.iconst 4, 1) := by decide +kernel
theorem d12_next_251 : decode prog_14_method_38_code 251 = .ok (.if_icmp .le 7, 3) := by decide +kernel
theorem d12_next_254 : decode prog_14_method_38_code 254 = .ok (.iconst 1, 1) := by decide +kernel
theorem d12_next_255 : decode prog_14_method_38_code 255 = .ok (.goto 4, 3) := by decide +kernel
theorem d12_next_258 : decode prog_14_method_38_code 258 = .ok (.iconst 2, 1) := by decide +kernel
theorem d12_next_259 : decode prog_14_method_38_code 259 = .ok (.putfield 247, 3) := by decide +kernel
theorem d12_next_262 : decode prog_14_method_38_code 262 = .ok (.goto 8, 3) := by decide +kernel
theorem d12_next_265 : decode prog_14_method_38_code 265 = .ok (.aload_n 0, 1) := by decide +kernel
theorem d12_next_266 : decode prog_14_method_38_code 266 = .ok (.iconst 4, 1) := by decide +kernel
theorem d12_next_267 : decode prog_14_method_38_code 267 = .ok (.putfield 247, 3) := by decide +kernel
theorem d12_next_270 : decode prog_14_method_38_code 270 = .ok (.return_, 1) := by decide +kernel
theorem d12_isWord_0 : decode prog_14_method_39_code 0 = .ok (.aload_n 0, 1) := by decide +kernel
theorem d12_isWord_1 : decode prog_14_method_39_code 1 = .ok (.getfield 247, 3) := by decide +kernel
theorem d12_isWord_4 : decode prog_14_method_39_code 4 = .ok (.iconst 3, 1) := by decide +kernel
theorem d12_isWord_5 : decode prog_14_method_39_code 5 = .ok (.if_icmp .ne 19, 3) := by decide +kernel
theorem d12_isWord_8 : decode prog_14_method_39_code 8 = .ok (.aload_n 0, 1) := by decide +kernel
theorem d12_isWord_9 : decode prog_14_method_39_code 9 = .ok (.getfield 241, 3) := by decide +kernel
theorem d12_isWord_12 : decode prog_14_method_39_code 12 = .ok (.aload_n 0, 1) := by decide +kernel
theorem d12_isWord_13 : decode prog_14_method_39_code 13 = .ok (.getfield 244, 3) := by decide +kernel
theorem d12_isWord_16 : decode prog_14_method_39_code 16 = .ok (.isub, 1) := by decide +kernel
theorem d12_isWord_17 : decode prog_14_method_39_code 17 = .ok (.aload_n 1, 1) := by decide +kernel
theorem d12_isWord_18 : decode prog_14_method_39_code 18 = .ok (.invokevirtual 262, 3) := by decide +kernel
theorem d12_isWord_21 : decode prog_14_method_39_code 21 = .ok (.if_icmp .eq 5, 3) := by decide +kernel
theorem d12_isWord_24 : decode prog_14_method_39_code 24 = .ok (.iconst 0, 1) := by decide +kernel
theorem d12_isWord_25 : decode prog_14_method_39_code 25 = .ok (.ireturn, 1) := by decide +kernel
theorem d12_isWord_26 : decode prog_14_method_39_code 26 = .ok (.iconst 0, 1) := by decide +kernel
theorem d12_isWord_27 : decode prog_14_method_39_code 27 = .ok (.istore_n 2, 1) := by decide +kernel
theorem d12_isWord_28 : decode prog_14_method_39_code 28 = .ok (.iload_n 2, 1) := by decide +kernel
theorem d12_isWord_29 : decode prog_14_method_39_code 29 = .ok (.aload_n 1, 1) := by decide +kernel
theorem d12_isWord_30 : decode prog_14_method_39_code 30 = .ok (.invokevirtual 262, 3) := by decide +kernel
theorem d12_isWord_33 : decode prog_14_method_39_code 33 = .ok (.if_icmp .ge 30, 3) := by decide +kernel
theorem d12_isWord_36 : decode prog_14_method_39_code 36 = .ok (.aload_n 0, 1) := by decide +kernel
theorem d12_isWord_37 : decode prog_14_method_39_code 37 = .ok (.getfield 102, 3) := by decide +kernel
theorem d12_isWord_40 : decode prog_14_method_39_code 40 = .ok (.aload_n 0, 1) := by decide +kernel
theorem d12_isWord_41 : decode prog_14_method_39_code 41 = .ok (.getfield 244, 3) := by decide +kernel
theorem d12_isWord_44 : decode prog_14_method_39_code 44 = .ok (.iload_n 2, 1) := by decide +kernel
theorem d12_isWord_45 : decode prog_14_method_39_code 45 = .ok (.iadd, 1) := by decide +kernel
theorem d12_isWord_46 : decode prog_14_method_39_code 46 = .ok (.baload, 1) := by decide +kernel
theorem d12_isWord_47 : decode prog_14_method_39_code 47 = .ok (.aload_n 1, 1) := by decide +kernel
theorem d12_isWord_48 : decode prog_14_method_39_code 48 = .ok (.iload_n 2, 1) := by decide +kernel
theorem d12_isWord_49 : decode prog_14_method_39_code 49 = .ok (.invokevirtual 268, 3) := by decide +kernel
theorem d12_isWord_52 : decode prog_14_method_39_code 52 = .ok (.if_icmp .eq 5, 3) := by decide +kernel
theorem d12_isWord_55 : decode prog_14_method_39_code 55 = .ok (.iconst 0, 1) := by decide +kernel
theorem d12_isWord_56 : decode prog_14_method_39_code 56 = .ok (.ireturn, 1) := by decide +kernel
theorem d12_isWord_57 : decode prog_14_method_39_code 57 = .ok (.iinc 2 1, 3) := by decide +kernel
theorem d12_isWord_60 : decode prog_14_method_39_code 60 = .ok (.goto (-32), 3) := by decide +kernel
theorem d12_isWord_63 : decode prog_14_method_39_code 63 = .ok (.iconst 1, 1) := by decide +kernel
theorem d12_isWord_64 : decode prog_14_method_39_code 64 = .ok (.ireturn, 1) := by decide +kernel
theorem d12_isSign_0 : decode prog_14_method_40_code 0 = .ok (.aload_n 0, 1) := by decide +kernel
theorem d12_isSign_1 : decode prog_14_method_40_code 1 = .ok (.getfield 247, 3) := by decide +kernel
theorem d12_isSign_4 : decode prog_14_method_40_code 4 = .ok (.iconst 4, 1) := by decide +kernel
theorem d12_isSign_5 : decode prog_14_method_40_code 5 = .ok (.if_icmp .ne 15, 3) := by decide +kernel
theorem d12_isSign_8 : decode prog_14_method_40_code 8 = .ok (.aload_n 0, 1) := by decide +kernel
theorem d12_isSign_9 : decode prog_14_method_40_code 9 = .ok (.getfield 250, 3) := by decide +kernel
theorem d12_isSign_12 : decode prog_14_method_40_code 12 = .ok (.iload_n 1, 1) := by decide +kernel
theorem d12_isSign_13 : decode prog_14_method_40_code 13 = .ok (.if_icmp .ne 7, 3) := by decide +kernel
theorem d12_isSign_16 : decode prog_14_method_40_code 16 = .ok (.iconst 1, 1) := by decide +kernel
theorem d12_isSign_17 : decode prog_14_method_40_code 17 = .ok (.goto 4, 3) := by decide +kernel
theorem d12_isSign_20 : decode prog_14_method_40_code 20 = .ok (.iconst 0, 1) := by decide +kernel
theorem d12_isSign_21 : decode prog_14_method_40_code 21 = .ok (.ireturn, 1) := by decide +kernel
theorem d12_fails_0 : decode prog_14_method_41_code 0 = .ok (.aload_n 0, 1) := by decide +kernel
theorem d12_fails_1 : decode prog_14_method_41_code 1 = .ok (.getfield 272, 3) := by decide +kernel
theorem d12_fails_4 : decode prog_14_method_41_code 4 = .ok (.ifCond .eq 4, 3) := by decide +kernel
theorem d12_fails_7 : decode prog_14_method_41_code 7 = .ok (.return_, 1) := by decide +kernel
theorem d12_fails_8 : decode prog_14_method_41_code 8 = .ok (.aload_n 0, 1) := by decide +kernel
theorem d12_fails_9 : decode prog_14_method_41_code 9 = .ok (.iload_n 1, 1) := by decide +kernel
theorem d12_fails_10 : decode prog_14_method_41_code 10 = .ok (.putfield 272, 3) := by decide +kernel
theorem d12_fails_13 : decode prog_14_method_41_code 13 = .ok (.aload_n 0, 1) := by decide +kernel
theorem d12_fails_14 : decode prog_14_method_41_code 14 = .ok (.aload_n 0, 1) := by decide +kernel
theorem d12_fails_15 : decode prog_14_method_41_code 15 = .ok (.getfield 244, 3) := by decide +kernel
theorem d12_fails_18 : decode prog_14_method_41_code 18 = .ok (.putfield 275, 3) := by decide +kernel
theorem d12_fails_21 : decode prog_14_method_41_code 21 = .ok (.return_, 1) := by decide +kernel
theorem d12_isWell_0 : decode prog_14_method_42_code 0 = .ok (.aload_n 0, 1) := by decide +kernel
theorem d12_isWell_1 : decode prog_14_method_42_code 1 = .ok (.getfield 272, 3) := by decide +kernel
theorem d12_isWell_4 : decode prog_14_method_42_code 4 = .ok (.ifCond .ne 7, 3) := by decide +kernel
theorem d12_isWell_7 : decode prog_14_method_42_code 7 = .ok (.iconst 1, 1) := by decide +kernel
theorem d12_isWell_8 : decode prog_14_method_42_code 8 = .ok (.goto 4, 3) := by decide +kernel
theorem d12_isWell_11 : decode prog_14_method_42_code 11 = .ok (.iconst 0, 1) := by decide +kernel
theorem d12_isWell_12 : decode prog_14_method_42_code 12 = .ok (.ireturn, 1) := by decide +kernel
theorem d12_wantSign_0 : decode prog_14_method_43_code 0 = .ok (.aload_n 0, 1) := by decide +kernel
theorem d12_wantSign_1 : decode prog_14_method_43_code 1 = .ok (.invokevirtual 278, 3) := by decide +kernel
theorem d12_wantSign_4 : decode prog_14_method_43_code 4 = .ok (.ifCond .ne 4, 3) := by decide +kernel
theorem d12_wantSign_7 : decode prog_14_method_43_code 7 = .ok (.return_, 1) := by decide +kernel
theorem d12_wantSign_8 : decode prog_14_method_43_code 8 = .ok (.aload_n 0, 1) := by decide +kernel
theorem d12_wantSign_9 : decode prog_14_method_43_code 9 = .ok (.iload_n 1, 1) := by decide +kernel
theorem d12_wantSign_10 : decode prog_14_method_43_code 10 = .ok (.invokevirtual 282, 3) := by decide +kernel
theorem d12_wantSign_13 : decode prog_14_method_43_code 13 = .ok (.ifCond .eq 10, 3) := by decide +kernel
theorem d12_wantSign_16 : decode prog_14_method_43_code 16 = .ok (.aload_n 0, 1) := by decide +kernel
theorem d12_wantSign_17 : decode prog_14_method_43_code 17 = .ok (.invokevirtual 285, 3) := by decide +kernel
theorem d12_wantSign_20 : decode prog_14_method_43_code 20 = .ok (.goto 8, 3) := by decide +kernel
theorem d12_wantSign_23 : decode prog_14_method_43_code 23 = .ok (.aload_n 0, 1) := by decide +kernel
theorem d12_wantSign_24 : decode prog_14_method_43_code 24 = .ok (.iconst 1, 1) := by decide +kernel
theorem d12_wantSign_25 : decode prog_14_method_43_code 25 = .ok (.invokevirtual 288, 3) := by decide +kernel
theorem d12_wantSign_28 : decode prog_14_method_43_code 28 = .ok (.return_, 1) := by decide +kernel
theorem d12_wantWord_0 : decode prog_14_method_44_code 0 = .ok (.aload_n 0, 1) := by decide +kernel
theorem d12_wantWord_1 : decode prog_14_method_44_code 1 = .ok (.invokevirtual 278, 3) := by decide +kernel
theorem d12_wantWord_4 : decode prog_14_method_44_code 4 = .ok (.ifCond .ne 4, 3) := by decide +kernel
theorem d12_wantWord_7 : decode prog_14_method_44_code 7 = .ok (.return_, 1) := by decide +kernel
theorem d12_wantWord_8 : decode prog_14_method_44_code 8 = .ok (.aload_n 0, 1) := by decide +kernel
theorem d12_wantWord_9 : decode prog_14_method_44_code 9 = .ok (.aload_n 1, 1) := by decide +kernel
theorem d12_wantWord_10 : decode prog_14_method_44_code 10 = .ok (.invokevirtual 292, 3) := by decide +kernel
theorem d12_wantWord_13 : decode prog_14_method_44_code 13 = .ok (.ifCond .eq 10, 3) := by decide +kernel
theorem d12_wantWord_16 : decode prog_14_method_44_code 16 = .ok (.aload_n 0, 1) := by decide +kernel
theorem d12_wantWord_17 : decode prog_14_method_44_code 17 = .ok (.invokevirtual 285, 3) := by decide +kernel
theorem d12_wantWord_20 : decode prog_14_method_44_code 20 = .ok (.goto 8, 3) := by decide +kernel
theorem d12_wantWord_23 : decode prog_14_method_44_code 23 = .ok (.aload_n 0, 1) := by decide +kernel
theorem d12_wantWord_24 : decode prog_14_method_44_code 24 = .ok (.iconst 1, 1) := by decide +kernel
theorem d12_wantWord_25 : decode prog_14_method_44_code 25 = .ok (.invokevirtual 288, 3) := by decide +kernel
theorem d12_wantWord_28 : decode prog_14_method_44_code 28 = .ok (.return_, 1) := by decide +kernel
abbrev m12_loss : MD := ("MillBoatsModel", ⟨"MillBoatsModel", "loss", "(III)I"⟩, prog_14_method_24_code, 7, (some Jvm.ClassFile.FieldType.int))
theorem k12_loss : okY m12_loss.2.1 3 := ⟨by decide +kernel, by decide +kernel, by decide +kernel⟩
def f12_loss (σ : St) (v0 : Nat) (v1 : Int32) (v2 : Int32) (v3 : Int32) : Option (Int32 × St) :=
  gd (ob σ v0 12) (
  lt (wI σ v0 0 (0 : Int32)) fun t2 => (
  bd (f12_isAsked t2 v0 v1 v3) fun r4 t5 => (
  (if r4 = (0 : Int32) then
  some ((-1 : Int32), t5)
  else
  bd (f12_isAsked t5 v0 v2 v3) fun r9 t10 => (
  (if r9 = (0 : Int32) then
  some ((-1 : Int32), t10)
  else
  (if v1 = v2 then
  some ((-1 : Int32), t10)
  else
  bd (f12_powerOf t10 v0 v1 v3) fun r15 t16 => (
  lt (sR t16 v0 9) fun b19 => (
  gd (nz b19) (
  gd (ob t16 b19 14) (
  gd (inb t16 b19 v2) (
  lt (sI t16 b19 (ix v2)) fun y24 => (
  lt (wI t16 b19 (ix v2) (-1 : Int32)) fun t26 => (
  bd (f12_powerOf t26 v0 v1 v3) fun r28 t29 => (
  lt (sR t29 v0 9) fun b32 => (
  gd (nz b32) (
  gd (ob t29 b32 14) (
  gd (inb t29 b32 v2) (
  lt (wI t29 b32 (ix v2) y24) fun t37 => (
  some (r28 - r15, t37)))))))))))))))))))))
set_option maxRecDepth 50000 in
theorem s12_loss : ∀ (σ : St) (v0 : Nat) (v1 : Int32) (v2 : Int32) (v3 : Int32) (r : Int32) (τ : St), f12_loss σ v0 v1 v2 v3 = some (r, τ) → Call 5 m12_loss [.ref v0, .int v1, .int v2, .int v3] σ (some (.int r)) τ := by
  intro σ v0 v1 v2 v3 r τ hf
  unfold f12_loss at hf
  refine Call.of (by decide +kernel) rfl (Nat.le_of_ble_eq_true rfl) ?_
  refine ev_aload_n (j := 0) (i := 0) (q := 0) rfl rfl d12_loss_0 ?_
  refine ev_iconst ci_0 d12_loss_1 ?_
  obtain ⟨h1, hf⟩ := gd_some hf
  obtain ⟨t2, e3, hf⟩ := lt_some hf
  refine ev_putI cls12 (j := 0) (by decide) rfl rfl w1251 h1 (fun _ => ⟨rfl, rfl⟩) d12_loss_2 (ev_nmS e3 ?_)
  refine ev_aload_n (j := 0) (i := 0) (q := 0) rfl rfl d12_loss_5 ?_
  refine ev_iload_n (j := 1) (i := 1) (q := 1) rfl rfl d12_loss_6 ?_
  refine ev_iload_n (j := 3) (i := 3) (q := 3) rfl rfl d12_loss_7 ?_
  obtain ⟨r4, t5, k6, hf⟩ := bd_some hf
  have q7 := s12_isAsked _ _ _ _ _ _ k6
  refine ev_callV (vs := [.int v1, .int v3]) (sk := []) cls12 (mono_ob (mono_eI e3) h1) q7 (by decide) (Nat.le_of_ble_eq_true rfl) w1536 w1538 ws54 w19 w1539 k12_isAsked rfl (Nat.le_of_ble_eq_true rfl) d12_loss_8 ?_
  rcases ite_some hf with ⟨c8, hf⟩ | ⟨c8, hf⟩
  · refine ev_if_eq_P (tgt := 28) c8 (by decide) d12_loss_11 ?_
    refine ev_iconst ci_m1 d12_loss_28 ?_
    obtain ⟨rfl, rfl⟩ := ret_some hf
    exact ev_iret rfl d12_loss_29
  · refine ev_if_eq_Q (tgt := 28) c8 (by decide) d12_loss_11 ?_
    refine ev_aload_n (j := 0) (i := 0) (q := 0) rfl rfl d12_loss_14 ?_
    refine ev_iload_n (j := 2) (i := 2) (q := 2) rfl rfl d12_loss_15 ?_
    refine ev_iload_n (j := 3) (i := 3) (q := 3) rfl rfl d12_loss_16 ?_
    obtain ⟨r9, t10, k11, hf⟩ := bd_some hf
    have q12 := s12_isAsked _ _ _ _ _ _ k11
    refine ev_callV (vs := [.int v2, .int v3]) (sk := []) cls12 (mono_ob q7.1 (mono_ob (mono_eI e3) h1)) q12 (by decide) (Nat.le_of_ble_eq_true rfl) w1536 w1538 ws54 w19 w1539 k12_isAsked rfl (Nat.le_of_ble_eq_true rfl) d12_loss_17 ?_
    rcases ite_some hf with ⟨c13, hf⟩ | ⟨c13, hf⟩
    · refine ev_if_eq_P (tgt := 28) c13 (by decide) d12_loss_20 ?_
      refine ev_iconst ci_m1 d12_loss_28 ?_
      obtain ⟨rfl, rfl⟩ := ret_some hf
      exact ev_iret rfl d12_loss_29
    · refine ev_if_eq_Q (tgt := 28) c13 (by decide) d12_loss_20 ?_
      refine ev_iload_n (j := 1) (i := 1) (q := 1) rfl rfl d12_loss_23 ?_
      refine ev_iload_n (j := 2) (i := 2) (q := 2) rfl rfl d12_loss_24 ?_
      rcases ite_some hf with ⟨c14, hf⟩ | ⟨c14, hf⟩
      · refine ev_icmp_ne_P (tgt := 30) c14 (by decide) d12_loss_25 ?_
        refine ev_iconst ci_m1 d12_loss_28 ?_
        obtain ⟨rfl, rfl⟩ := ret_some hf
        exact ev_iret rfl d12_loss_29
      · refine ev_icmp_ne_Q (tgt := 30) c14 (by decide) d12_loss_25 ?_
        refine ev_aload_n (j := 0) (i := 0) (q := 0) rfl rfl d12_loss_30 ?_
        refine ev_iload_n (j := 1) (i := 1) (q := 1) rfl rfl d12_loss_31 ?_
        refine ev_iload_n (j := 3) (i := 3) (q := 3) rfl rfl d12_loss_32 ?_
        obtain ⟨r15, t16, k17, hf⟩ := bd_some hf
        have q18 := s12_powerOf _ _ _ _ _ _ k17
        refine ev_callV (vs := [.int v1, .int v3]) (sk := []) cls12 (mono_ob q12.1 (mono_ob q7.1 (mono_ob (mono_eI e3) h1))) q18 (by decide) (Nat.le_of_ble_eq_true rfl) w1548 w1550 ws56 w19 w1551 k12_powerOf rfl (Nat.le_of_ble_eq_true rfl) d12_loss_33 ?_
        refine ev_istore (lv2 := [(4, .int r15), (0, .ref v0), (1, .int v1), (2, .int v2), (3, .int v3)]) (i := 4) (by decide) rfl d12_loss_36 ?_
        refine ev_aload_n (j := 0) (i := 0) (q := 1) rfl rfl d12_loss_38 ?_
        obtain ⟨b19, e20, hf⟩ := lt_some hf
        obtain ⟨h21, hf⟩ := gd_some hf
        refine ev_getRb cls12 (j := 9) (by decide) rfl w1260 (mono_ob q18.1 (mono_ob q12.1 (mono_ob q7.1 (mono_ob (mono_eI e3) h1)))) e20 (nz_ne h21) d12_loss_39 ?_
        refine ev_iload_n (j := 2) (i := 2) (q := 3) rfl rfl d12_loss_42 ?_
        obtain ⟨h22, hf⟩ := gd_some hf
        obtain ⟨h23, hf⟩ := gd_some hf
        refine ev_iald h22 h23 d12_loss_43 ?_
        obtain ⟨y24, e25, hf⟩ := lt_some hf
        refine ev_nmI e25 ?_
        refine ev_istore (lv2 := [(5, .int y24), (4, .int r15), (0, .ref v0), (1, .int v1), (2, .int v2), (3, .int v3)]) (i := 5) (by decide) rfl d12_loss_44 ?_
        refine ev_aload_n (j := 0) (i := 0) (q := 2) rfl rfl d12_loss_46 ?_
        refine ev_getRb cls12 (j := 9) (by decide) rfl w1260 (mono_ob q18.1 (mono_ob q12.1 (mono_ob q7.1 (mono_ob (mono_eI e3) h1)))) e20 (nz_ne h21) d12_loss_47 ?_
        refine ev_iload_n (j := 2) (i := 2) (q := 4) rfl rfl d12_loss_50 ?_
        refine ev_iconst ci_m1 d12_loss_51 ?_
        obtain ⟨t26, e27, hf⟩ := lt_some hf
        refine ev_iast h22 h23 d12_loss_52 (ev_nmS e27 ?_)
        refine ev_aload_n (j := 0) (i := 0) (q := 2) rfl rfl d12_loss_53 ?_
        refine ev_iload_n (j := 1) (i := 1) (q := 3) rfl rfl d12_loss_54 ?_
        refine ev_iload_n (j := 3) (i := 3) (q := 5) rfl rfl d12_loss_55 ?_
        obtain ⟨r28, t29, k30, hf⟩ := bd_some hf
        have q31 := s12_powerOf _ _ _ _ _ _ k30
        refine ev_callV (vs := [.int v1, .int v3]) (sk := []) cls12 (mono_ob (mono_eI e27) (mono_ob q18.1 (mono_ob q12.1 (mono_ob q7.1 (mono_ob (mono_eI e3) h1))))) q31 (by decide) (Nat.le_of_ble_eq_true rfl) w1548 w1550 ws56 w19 w1551 k12_powerOf rfl (Nat.le_of_ble_eq_true rfl) d12_loss_56 ?_
        refine ev_istore (lv2 := [(6, .int r28), (5, .int y24), (4, .int r15), (0, .ref v0), (1, .int v1), (2, .int v2), (3, .int v3)]) (i := 6) (by decide) rfl d12_loss_59 ?_
        refine ev_aload_n (j := 0) (i := 0) (q := 3) rfl rfl d12_loss_61 ?_
        obtain ⟨b32, e33, hf⟩ := lt_some hf
        obtain ⟨h34, hf⟩ := gd_some hf
        refine ev_getRb cls12 (j := 9) (by decide) rfl w1260 (mono_ob q31.1 (mono_ob (mono_eI e27) (mono_ob q18.1 (mono_ob q12.1 (mono_ob q7.1 (mono_ob (mono_eI e3) h1)))))) e33 (nz_ne h34) d12_loss_62 ?_
        refine ev_iload_n (j := 2) (i := 2) (q := 5) rfl rfl d12_loss_65 ?_
        refine ev_iload (i := 5) (q := 1) rfl d12_loss_66 ?_
        obtain ⟨h35, hf⟩ := gd_some hf
        obtain ⟨h36, hf⟩ := gd_some hf
        obtain ⟨t37, e38, hf⟩ := lt_some hf
        refine ev_iast h35 h36 d12_loss_68 (ev_nmS e38 ?_)
        refine ev_iload (i := 6) (q := 0) rfl d12_loss_69 ?_
        refine ev_iload (i := 4) (q := 2) rfl d12_loss_71 ?_
        refine ev_isub d12_loss_73 ?_
        obtain ⟨rfl, rfl⟩ := ret_some hf
        exact ev_iret rfl d12_loss_74
abbrev m12_isDay : MD := ("MillBoatsModel", ⟨"MillBoatsModel", "isDay", "(I)Z"⟩, prog_14_method_25_code, 1, (some Jvm.ClassFile.FieldType.boolean))
theorem k12_isDay : okY m12_isDay.2.1 1 := ⟨by decide +kernel, by decide +kernel, by decide +kernel⟩
def f12_isDay (σ : St) (v0 : Int32) : Option (Int32 × St) :=
  (if v0 < (0 : Int32) then
  some ((0 : Int32), σ)
  else
  (if v0 ≤ (999 : Int32) then
  some ((1 : Int32), σ)
  else
  some ((0 : Int32), σ)))
set_option maxRecDepth 50000 in
theorem s12_isDay : ∀ (σ : St) (v0 : Int32) (r : Int32) (τ : St), f12_isDay σ v0 = some (r, τ) → Call 2 m12_isDay [.int v0] σ (some (.int r)) τ := by
  intro σ v0 r τ hf
  unfold f12_isDay at hf
  refine Call.of (by decide +kernel) rfl (Nat.le_of_ble_eq_true rfl) ?_
  refine ev_iload_n (j := 0) (i := 0) (q := 0) rfl rfl d12_isDay_0 ?_
  rcases ite_some hf with ⟨c1, hf⟩ | ⟨c1, hf⟩
  · refine ev_if_lt_P (tgt := 15) c1 (by decide) d12_isDay_1 ?_
    refine ev_iconst ci_0 d12_isDay_15 ?_
    obtain ⟨rfl, rfl⟩ := ret_some hf
    exact ev_zret rfl (by decide) d12_isDay_16
  · refine ev_if_lt_Q (tgt := 15) c1 (by decide) d12_isDay_1 ?_
    refine ev_iload_n (j := 0) (i := 0) (q := 0) rfl rfl d12_isDay_4 ?_
    refine ev_sipush cs_999 d12_isDay_5 ?_
    rcases ite_some hf with ⟨c2, hf⟩ | ⟨c2, hf⟩
    · refine ev_icmp_gt_P (tgt := 15) c2 (by decide) d12_isDay_8 ?_
      refine ev_iconst ci_1 d12_isDay_11 ?_
      refine ev_goto (tgt := 16) (by decide) d12_isDay_12 ?_
      obtain ⟨rfl, rfl⟩ := ret_some hf
      exact ev_zret rfl (by decide) d12_isDay_16
    · refine ev_icmp_gt_Q (tgt := 15) c2 (by decide) d12_isDay_8 ?_
      refine ev_iconst ci_0 d12_isDay_15 ?_
      obtain ⟨rfl, rfl⟩ := ret_some hf
      exact ev_zret rfl (by decide) d12_isDay_16
abbrev m12_height : MD := ("MillBoatsModel", ⟨"MillBoatsModel", "height", "(II)Z"⟩, prog_14_method_26_code, 3, (some Jvm.ClassFile.FieldType.boolean))
theorem k12_height : okY m12_height.2.1 2 := ⟨by decide +kernel, by decide +kernel, by decide +kernel⟩
def f12_height (σ : St) (v0 : Nat) (v1 : Int32) (v2 : Int32) : Option (Int32 × St) :=
  gd (ob σ v0 12) (
  lt (wI σ v0 0 (0 : Int32)) fun t2 => (
  bd (f12_isDay t2 v1) fun r4 t5 => (
  (if r4 = (0 : Int32) then
  some ((0 : Int32), t5)
  else
  bd (f12_within t5 v2 (0 : Int32) (20 : Int32)) fun r9 t10 => (
  (if r9 = (0 : Int32) then
  some ((0 : Int32), t10)
  else
  (if (sI t10 v0 15) = (200 : Int32) then
  some ((0 : Int32), t10)
  else
  lt (sR t10 v0 16) fun b15 => (
  gd (nz b15) (
  gd (ob t10 b15 14) (
  gd (inb t10 b15 (sI t10 v0 15)) (
  lt (wI t10 b15 (ix (sI t10 v0 15)) v1) fun t20 => (
  lt (sR t20 v0 17) fun b22 => (
  gd (nz b22) (
  gd (ob t20 b22 14) (
  gd (inb t20 b22 (sI t20 v0 15)) (
  lt (wI t20 b22 (ix (sI t20 v0 15)) v2) fun t27 => (
  lt (sR t27 v0 18) fun b29 => (
  gd (nz b29) (
  gd (ob t27 b29 14) (
  gd (inb t27 b29 (sI t27 v0 15)) (
  lt (wI t27 b29 (ix (sI t27 v0 15)) (sI t27 v0 14)) fun t34 => (
  lt (wI t34 v0 15 ((sI t34 v0 15) + (1 : Int32))) fun t36 => (
  some ((1 : Int32), t36))))))))))))))))))))))))
set_option maxRecDepth 50000 in
theorem s12_height : ∀ (σ : St) (v0 : Nat) (v1 : Int32) (v2 : Int32) (r : Int32) (τ : St), f12_height σ v0 v1 v2 = some (r, τ) → Call 3 m12_height [.ref v0, .int v1, .int v2] σ (some (.int r)) τ := by
  intro σ v0 v1 v2 r τ hf
  unfold f12_height at hf
  refine Call.of (by decide +kernel) rfl (Nat.le_of_ble_eq_true rfl) ?_
  refine ev_aload_n (j := 0) (i := 0) (q := 0) rfl rfl d12_height_0 ?_
  refine ev_iconst ci_0 d12_height_1 ?_
  obtain ⟨h1, hf⟩ := gd_some hf
  obtain ⟨t2, e3, hf⟩ := lt_some hf
  refine ev_putI cls12 (j := 0) (by decide) rfl rfl w1251 h1 (fun _ => ⟨rfl, rfl⟩) d12_height_2 (ev_nmS e3 ?_)
  refine ev_iload_n (j := 1) (i := 1) (q := 1) rfl rfl d12_height_5 ?_
  obtain ⟨r4, t5, k6, hf⟩ := bd_some hf
  have q7 := s12_isDay _ _ _ _ k6
  refine ev_callS (vs := [.int v1]) (sk := []) q7 (by decide) (Nat.le_of_ble_eq_true rfl) w1580 w1581 w19 w1582 k12_isDay rfl (Nat.le_of_ble_eq_true rfl) d12_height_6 ?_
  rcases ite_some hf with ⟨c8, hf⟩ | ⟨c8, hf⟩
  · refine ev_if_eq_P (tgt := 32) c8 (by decide) d12_height_9 ?_
    refine ev_iconst ci_0 d12_height_32 ?_
    obtain ⟨rfl, rfl⟩ := ret_some hf
    exact ev_zret rfl (by decide) d12_height_33
  · refine ev_if_eq_Q (tgt := 32) c8 (by decide) d12_height_9 ?_
    refine ev_iload_n (j := 2) (i := 2) (q := 2) rfl rfl d12_height_12 ?_
    refine ev_iconst ci_0 d12_height_13 ?_
    refine ev_bipush cb_20 d12_height_14 ?_
    obtain ⟨r9, t10, k11, hf⟩ := bd_some hf
    have q12 := s12_within _ _ _ _ _ _ k11
    refine ev_callS (vs := [.int v2, .int (0 : Int32), .int (20 : Int32)]) (sk := []) q12 (by decide) (Nat.le_of_ble_eq_true rfl) w1497 w1498 w19 w1499 k12_within rfl (Nat.le_of_ble_eq_true rfl) d12_height_16 ?_
    rcases ite_some hf with ⟨c13, hf⟩ | ⟨c13, hf⟩
    · refine ev_if_eq_P (tgt := 32) c13 (by decide) d12_height_19 ?_
      refine ev_iconst ci_0 d12_height_32 ?_
      obtain ⟨rfl, rfl⟩ := ret_some hf
      exact ev_zret rfl (by decide) d12_height_33
    · refine ev_if_eq_Q (tgt := 32) c13 (by decide) d12_height_19 ?_
      refine ev_aload_n (j := 0) (i := 0) (q := 0) rfl rfl d12_height_22 ?_
      refine ev_getI cls12 (j := 15) (by decide) rfl w1266 (mono_ob q12.1 (mono_ob q7.1 (mono_ob (mono_eI e3) h1))) d12_height_23 ?_
      refine ev_sipush cs_200 d12_height_26 ?_
      rcases ite_some hf with ⟨c14, hf⟩ | ⟨c14, hf⟩
      · refine ev_icmp_ne_P (tgt := 34) c14 (by decide) d12_height_29 ?_
        refine ev_iconst ci_0 d12_height_32 ?_
        obtain ⟨rfl, rfl⟩ := ret_some hf
        exact ev_zret rfl (by decide) d12_height_33
      · refine ev_icmp_ne_Q (tgt := 34) c14 (by decide) d12_height_29 ?_
        refine ev_aload_n (j := 0) (i := 0) (q := 0) rfl rfl d12_height_34 ?_
        obtain ⟨b15, e16, hf⟩ := lt_some hf
        obtain ⟨h17, hf⟩ := gd_some hf
        refine ev_getRb cls12 (j := 16) (by decide) rfl w1267 (mono_ob q12.1 (mono_ob q7.1 (mono_ob (mono_eI e3) h1))) e16 (nz_ne h17) d12_height_35 ?_
        refine ev_aload_n (j := 0) (i := 0) (q := 0) rfl rfl d12_height_38 ?_
        refine ev_getI cls12 (j := 15) (by decide) rfl w1266 (mono_ob q12.1 (mono_ob q7.1 (mono_ob (mono_eI e3) h1))) d12_height_39 ?_
        refine ev_iload_n (j := 1) (i := 1) (q := 1) rfl rfl d12_height_42 ?_
        obtain ⟨h18, hf⟩ := gd_some hf
        obtain ⟨h19, hf⟩ := gd_some hf
        obtain ⟨t20, e21, hf⟩ := lt_some hf
        refine ev_iast h18 h19 d12_height_43 (ev_nmS e21 ?_)
        refine ev_aload_n (j := 0) (i := 0) (q := 0) rfl rfl d12_height_44 ?_
        obtain ⟨b22, e23, hf⟩ := lt_some hf
        obtain ⟨h24, hf⟩ := gd_some hf
        refine ev_getRb cls12 (j := 17) (by decide) rfl w1268 (mono_ob (mono_eI e21) (mono_ob q12.1 (mono_ob q7.1 (mono_ob (mono_eI e3) h1)))) e23 (nz_ne h24) d12_height_45 ?_
        refine ev_aload_n (j := 0) (i := 0) (q := 0) rfl rfl d12_height_48 ?_
        refine ev_getI cls12 (j := 15) (by decide) rfl w1266 (mono_ob (mono_eI e21) (mono_ob q12.1 (mono_ob q7.1 (mono_ob (mono_eI e3) h1)))) d12_height_49 ?_
        refine ev_iload_n (j := 2) (i := 2) (q := 2) rfl rfl d12_height_52 ?_
        obtain ⟨h25, hf⟩ := gd_some hf
        obtain ⟨h26, hf⟩ := gd_some hf
        obtain ⟨t27, e28, hf⟩ := lt_some hf
        refine ev_iast h25 h26 d12_height_53 (ev_nmS e28 ?_)
        refine ev_aload_n (j := 0) (i := 0) (q := 0) rfl rfl d12_height_54 ?_
        obtain ⟨b29, e30, hf⟩ := lt_some hf
        obtain ⟨h31, hf⟩ := gd_some hf
        refine ev_getRb cls12 (j := 18) (by decide) rfl w1269 (mono_ob (mono_eI e28) (mono_ob (mono_eI e21) (mono_ob q12.1 (mono_ob q7.1 (mono_ob (mono_eI e3) h1))))) e30 (nz_ne h31) d12_height_55 ?_
        refine ev_aload_n (j := 0) (i := 0) (q := 0) rfl rfl d12_height_58 ?_
        refine ev_getI cls12 (j := 15) (by decide) rfl w1266 (mono_ob (mono_eI e28) (mono_ob (mono_eI e21) (mono_ob q12.1 (mono_ob q7.1 (mono_ob (mono_eI e3) h1))))) d12_height_59 ?_
        refine ev_aload_n (j := 0) (i := 0) (q := 0) rfl rfl d12_height_62 ?_
        refine ev_getI cls12 (j := 14) (by decide) rfl w1265 (mono_ob (mono_eI e28) (mono_ob (mono_eI e21) (mono_ob q12.1 (mono_ob q7.1 (mono_ob (mono_eI e3) h1))))) d12_height_63 ?_
        obtain ⟨h32, hf⟩ := gd_some hf
        obtain ⟨h33, hf⟩ := gd_some hf
        obtain ⟨t34, e35, hf⟩ := lt_some hf
        refine ev_iast h32 h33 d12_height_66 (ev_nmS e35 ?_)
        refine ev_aload_n (j := 0) (i := 0) (q := 0) rfl rfl d12_height_67 ?_
        refine ev_dup rfl d12_height_68 ?_
        refine ev_getI cls12 (j := 15) (by decide) rfl w1266 (mono_ob (mono_eI e35) (mono_ob (mono_eI e28) (mono_ob (mono_eI e21) (mono_ob q12.1 (mono_ob q7.1 (mono_ob (mono_eI e3) h1)))))) d12_height_69 ?_
        refine ev_iconst ci_1 d12_height_72 ?_
        refine ev_iadd d12_height_73 ?_
        obtain ⟨t36, e37, hf⟩ := lt_some hf
        refine ev_putI cls12 (j := 15) (by decide) rfl rfl w1266 (mono_ob (mono_eI e35) (mono_ob (mono_eI e28) (mono_ob (mono_eI e21) (mono_ob q12.1 (mono_ob q7.1 (mono_ob (mono_eI e3) h1)))))) (fun _ => ⟨rfl, rfl⟩) d12_height_74 (ev_nmS e37 ?_)
        refine ev_iconst ci_1 d12_height_77 ?_
        obtain ⟨rfl, rfl⟩ := ret_some hf
        exact ev_zret rfl (by decide) d12_height_78
abbrev m12_ice : MD := ("MillBoatsModel", ⟨"MillBoatsModel", "ice", "(IZ)Z"⟩, prog_14_method_27_code, 3, (some Jvm.ClassFile.FieldType.boolean))
theorem k12_ice : okY m12_ice.2.1 2 := ⟨by decide +kernel, by decide +kernel, by decide +kernel⟩
def f12_ice (σ : St) (v0 : Nat) (v1 : Int32) (v2 : Int32) : Option (Int32 × St) :=
  gd (ob σ v0 12) (
  lt (wI σ v0 0 (0 : Int32)) fun t2 => (
  bd (f12_isDay t2 v1) fun r4 t5 => (
  (if r4 = (0 : Int32) then
  some ((0 : Int32), t5)
  else
  (if (sI t5 v0 19) = (200 : Int32) then
  some ((0 : Int32), t5)
  else
  lt (sR t5 v0 20) fun b10 => (
  gd (nz b10) (
  gd (ob t5 b10 14) (
  gd (inb t5 b10 (sI t5 v0 19)) (
  lt (wI t5 b10 (ix (sI t5 v0 19)) v1) fun t15 => (
  lt (sR t15 v0 21) fun b17 => (
  gd (nz b17) (
  gd (ob t15 b17 16) (
  gd (inb t15 b17 (sI t15 v0 19)) (
  lt (wI t15 b17 (ix (sI t15 v0 19)) (vp_nar .boolean v2)) fun t22 => (
  lt (sR t22 v0 22) fun b24 => (
  gd (nz b24) (
  gd (ob t22 b24 14) (
  gd (inb t22 b24 (sI t22 v0 19)) (
  lt (wI t22 b24 (ix (sI t22 v0 19)) (sI t22 v0 14)) fun t29 => (
  lt (wI t29 v0 19 ((sI t29 v0 19) + (1 : Int32))) fun t31 => (
  some ((1 : Int32), t31))))))))))))))))))))))
set_option maxRecDepth 50000 in
theorem s12_ice : ∀ (σ : St) (v0 : Nat) (v1 : Int32) (v2 : Int32) (r : Int32) (τ : St), f12_ice σ v0 v1 v2 = some (r, τ) → Call 3 m12_ice [.ref v0, .int v1, .int v2] σ (some (.int r)) τ := by
  intro σ v0 v1 v2 r τ hf
  unfold f12_ice at hf
  refine Call.of (by decide +kernel) rfl (Nat.le_of_ble_eq_true rfl) ?_
  refine ev_aload_n (j := 0) (i := 0) (q := 0) rfl rfl d12_ice_0 ?_
  refine ev_iconst ci_0 d12_ice_1 ?_
  obtain ⟨h1, hf⟩ := gd_some hf
  obtain ⟨t2, e3, hf⟩ := lt_some hf
  refine ev_putI cls12 (j := 0) (by decide) rfl rfl w1251 h1 (fun _ => ⟨rfl, rfl⟩) d12_ice_2 (ev_nmS e3 ?_)
  refine ev_iload_n (j := 1) (i := 1) (q := 1) rfl rfl d12_ice_5 ?_
  obtain ⟨r4, t5, k6, hf⟩ := bd_some hf
  have q7 := s12_isDay _ _ _ _ k6
  refine ev_callS (vs := [.int v1]) (sk := []) q7 (by decide) (Nat.le_of_ble_eq_true rfl) w1580 w1581 w19 w1582 k12_isDay rfl (Nat.le_of_ble_eq_true rfl) d12_ice_6 ?_
  rcases ite_some hf with ⟨c8, hf⟩ | ⟨c8, hf⟩
  · refine ev_if_eq_P (tgt := 22) c8 (by decide) d12_ice_9 ?_
    refine ev_iconst ci_0 d12_ice_22 ?_
    obtain ⟨rfl, rfl⟩ := ret_some hf
    exact ev_zret rfl (by decide) d12_ice_23
  · refine ev_if_eq_Q (tgt := 22) c8 (by decide) d12_ice_9 ?_
    refine ev_aload_n (j := 0) (i := 0) (q := 0) rfl rfl d12_ice_12 ?_
    refine ev_getI cls12 (j := 19) (by decide) rfl w1270 (mono_ob q7.1 (mono_ob (mono_eI e3) h1)) d12_ice_13 ?_
    refine ev_sipush cs_200 d12_ice_16 ?_
    rcases ite_some hf with ⟨c9, hf⟩ | ⟨c9, hf⟩
    · refine ev_icmp_ne_P (tgt := 24) c9 (by decide) d12_ice_19 ?_
      refine ev_iconst ci_0 d12_ice_22 ?_
      obtain ⟨rfl, rfl⟩ := ret_some hf
      exact ev_zret rfl (by decide) d12_ice_23
    · refine ev_icmp_ne_Q (tgt := 24) c9 (by decide) d12_ice_19 ?_
      refine ev_aload_n (j := 0) (i := 0) (q := 0) rfl rfl d12_ice_24 ?_
      obtain ⟨b10, e11, hf⟩ := lt_some hf
      obtain ⟨h12, hf⟩ := gd_some hf
      refine ev_getRb cls12 (j := 20) (by decide) rfl w1271 (mono_ob q7.1 (mono_ob (mono_eI e3) h1)) e11 (nz_ne h12) d12_ice_25 ?_
      refine ev_aload_n (j := 0) (i := 0) (q := 0) rfl rfl d12_ice_28 ?_
      refine ev_getI cls12 (j := 19) (by decide) rfl w1270 (mono_ob q7.1 (mono_ob (mono_eI e3) h1)) d12_ice_29 ?_
      refine ev_iload_n (j := 1) (i := 1) (q := 1) rfl rfl d12_ice_32 ?_
      obtain ⟨h13, hf⟩ := gd_some hf
      obtain ⟨h14, hf⟩ := gd_some hf
      obtain ⟨t15, e16, hf⟩ := lt_some hf
      refine ev_iast h13 h14 d12_ice_33 (ev_nmS e16 ?_)
      refine ev_aload_n (j := 0) (i := 0) (q := 0) rfl rfl d12_ice_34 ?_
      obtain ⟨b17, e18, hf⟩ := lt_some hf
      obtain ⟨h19, hf⟩ := gd_some hf
      refine ev_getRb cls12 (j := 21) (by decide) rfl w1272 (mono_ob (mono_eI e16) (mono_ob q7.1 (mono_ob (mono_eI e3) h1))) e18 (nz_ne h19) d12_ice_35 ?_
      refine ev_aload_n (j := 0) (i := 0) (q := 0) rfl rfl d12_ice_38 ?_
      refine ev_getI cls12 (j := 19) (by decide) rfl w1270 (mono_ob (mono_eI e16) (mono_ob q7.1 (mono_ob (mono_eI e3) h1))) d12_ice_39 ?_
      refine ev_iload_n (j := 2) (i := 2) (q := 2) rfl rfl d12_ice_42 ?_
      obtain ⟨h20, hf⟩ := gd_some hf
      obtain ⟨h21, hf⟩ := gd_some hf
      obtain ⟨t22, e23, hf⟩ := lt_some hf
      refine ev_zast h20 h21 d12_ice_43 (ev_nmS e23 ?_)
      refine ev_aload_n (j := 0) (i := 0) (q := 0) rfl rfl d12_ice_44 ?_
      obtain ⟨b24, e25, hf⟩ := lt_some hf
      obtain ⟨h26, hf⟩ := gd_some hf
      refine ev_getRb cls12 (j := 22) (by decide) rfl w1273 (mono_ob (mono_eI e23) (mono_ob (mono_eI e16) (mono_ob q7.1 (mono_ob (mono_eI e3) h1)))) e25 (nz_ne h26) d12_ice_45 ?_
      refine ev_aload_n (j := 0) (i := 0) (q := 0) rfl rfl d12_ice_48 ?_
      refine ev_getI cls12 (j := 19) (by decide) rfl w1270 (mono_ob (mono_eI e23) (mono_ob (mono_eI e16) (mono_ob q7.1 (mono_ob (mono_eI e3) h1)))) d12_ice_49 ?_
      refine ev_aload_n (j := 0) (i := 0) (q := 0) rfl rfl d12_ice_52 ?_
      refine ev_getI cls12 (j := 14) (by decide) rfl w1265 (mono_ob (mono_eI e23) (mono_ob (mono_eI e16) (mono_ob q7.1 (mono_ob (mono_eI e3) h1)))) d12_ice_53 ?_
      obtain ⟨h27, hf⟩ := gd_some hf
      obtain ⟨h28, hf⟩ := gd_some hf
      obtain ⟨t29, e30, hf⟩ := lt_some hf
      refine ev_iast h27 h28 d12_ice_56 (ev_nmS e30 ?_)
      refine ev_aload_n (j := 0) (i := 0) (q := 0) rfl rfl d12_ice_57 ?_
      refine ev_dup rfl d12_ice_58 ?_
      refine ev_getI cls12 (j := 19) (by decide) rfl w1270 (mono_ob (mono_eI e30) (mono_ob (mono_eI e23) (mono_ob (mono_eI e16) (mono_ob q7.1 (mono_ob (mono_eI e3) h1))))) d12_ice_59 ?_
      refine ev_iconst ci_1 d12_ice_62 ?_
      refine ev_iadd d12_ice_63 ?_
      obtain ⟨t31, e32, hf⟩ := lt_some hf
      refine ev_putI cls12 (j := 19) (by decide) rfl rfl w1270 (mono_ob (mono_eI e30) (mono_ob (mono_eI e23) (mono_ob (mono_eI e16) (mono_ob q7.1 (mono_ob (mono_eI e3) h1))))) (fun _ => ⟨rfl, rfl⟩) d12_ice_64 (ev_nmS e32 ?_)
      refine ev_iconst ci_1 d12_ice_67 ?_
      obtain ⟨rfl, rfl⟩ := ret_some hf
      exact ev_zret rfl (by decide) d12_ice_68
abbrev m12_heightAt : MD := ("MillBoatsModel", ⟨"MillBoatsModel", "heightAt", "(II)I"⟩, prog_14_method_28_code, 5, (some Jvm.ClassFile.FieldType.int))
theorem k12_heightAt : okY m12_heightAt.2.1 2 := ⟨by decide +kernel, by decide +kernel, by decide +kernel⟩
def f12_heightAt_p64 (K10 : St → Nat → Int32 → Int32 → Int32 → Int32 → Option (Int32 × St)) (σ : St) (v0 : Nat) (v1 : Int32) (v2 : Int32) (v3 : Int32) (v4 : Int32) : Option (Int32 × St) :=
  lt (v4 + (-1 : Int32)) fun y28 => (
  K10 σ v0 v1 v2 v3 y28)
set_option maxRecDepth 20000 in
theorem s12_heightAt_p64 {K10 : St → Nat → Int32 → Int32 → Int32 → Int32 → Option (Int32 × St)} (hK10 : ∀ (σ : St) (v0 : Nat) (v1 : Int32) (v2 : Int32) (v3 : Int32) (v4 : Int32) (r : Int32) (τ : St), K10 σ v0 v1 v2 v3 v4 = some (r, τ) → Ev 2 m12_heightAt 10 [(0, .ref v0), (1, .int v1), (2, .int v2), (3, .int v3), (4, .int v4)] [] σ (some (.int r)) τ) : ∀ (σ : St) (v0 : Nat) (v1 : Int32) (v2 : Int32) (v3 : Int32) (v4 : Int32) (r : Int32) (τ : St), f12_heightAt_p64 K10 σ v0 v1 v2 v3 v4 = some (r, τ) → Ev 2 m12_heightAt 64 [(0, .ref v0), (1, .int v1), (2, .int v2), (3, .int v3), (4, .int v4)] [] σ (some (.int r)) τ := by
  intro σ v0 v1 v2 v3 v4 r τ hf
  unfold f12_heightAt_p64 at hf
  obtain ⟨y28, e29, hf⟩ := lt_some hf
  refine ev_iinc (lv2 := [(4, .int y28), (0, .ref v0), (1, .int v1), (2, .int v2), (3, .int v3)]) (i := 4) (q := 4) (v := y28) (n := -1) rfl (by rw [ci_m1]; exact e29.symm) (by decide) rfl d12_heightAt_64 ?_
  refine ev_goto (tgt := 10) (by decide) d12_heightAt_67 ?_
  exact Ev.sub [1, 2, 3, 4, 0] rfl (hK10 _ _ _ _ _ _ _ _ hf)
def f12_heightAt_p61 (K10 : St → Nat → Int32 → Int32 → Int32 → Int32 → Option (Int32 × St)) (σ : St) (v0 : Nat) (v1 : Int32) (v2 : Int32) (v4 : Int32) : Option (Int32 × St) :=
  f12_heightAt_p64 K10 σ v0 v1 v2 v4 v4
set_option maxRecDepth 20000 in
theorem s12_heightAt_p61 {K10 : St → Nat → Int32 → Int32 → Int32 → Int32 → Option (Int32 × St)} (hK10 : ∀ (σ : St) (v0 : Nat) (v1 : Int32) (v2 : Int32) (v3 : Int32) (v4 : Int32) (r : Int32) (τ : St), K10 σ v0 v1 v2 v3 v4 = some (r, τ) → Ev 2 m12_heightAt 10 [(0, .ref v0), (1, .int v1), (2, .int v2), (3, .int v3), (4, .int v4)] [] σ (some (.int r)) τ) : ∀ (σ : St) (v0 : Nat) (v1 : Int32) (v2 : Int32) (v4 : Int32) (r : Int32) (τ : St), f12_heightAt_p61 K10 σ v0 v1 v2 v4 = some (r, τ) → Ev 2 m12_heightAt 61 [(0, .ref v0), (1, .int v1), (2, .int v2), (4, .int v4)] [] σ (some (.int r)) τ := by
  intro σ v0 v1 v2 v4 r τ hf
  unfold f12_heightAt_p61 at hf
  refine ev_iload (i := 4) (q := 3) rfl d12_heightAt_61 ?_
  refine ev_istore_n (lv2 := [(3, .int v4), (0, .ref v0), (1, .int v1), (2, .int v2), (4, .int v4)]) (j := 3) (i := 3) rfl (by decide) rfl d12_heightAt_63 ?_
  exact Ev.sub [1, 2, 3, 0, 4] rfl (s12_heightAt_p64 hK10 _ _ _ _ _ _ _ _ hf)
def f12_heightAt_p10 : Nat → St → Nat → Int32 → Int32 → Int32 → Int32 → Option (Int32 × St)
  | 0, _, _, _, _, _, _ => none
  | n + 1, σ, v0, v1, v2, v3, v4 =>
  (if v4 < (0 : Int32) then
  (if v3 = (-1 : Int32) then
  some ((5 : Int32), σ)
  else
  gd (ob σ v0 12) (
  lt (sR σ v0 17) fun b7 => (
  gd (nz b7) (
  gd (ob σ b7 14) (
  gd (inb σ b7 v3) (
  some (sI σ b7 (ix v3), σ)))))))
  else
  gd (ob σ v0 12) (
  lt (sR σ v0 18) fun b13 => (
  gd (nz b13) (
  gd (ob σ b13 14) (
  gd (inb σ b13 v4) (
  (if (sI σ b13 (ix v4)) ≤ v2 then
  lt (sR σ v0 16) fun b19 => (
  gd (nz b19) (
  gd (ob σ b19 14) (
  gd (inb σ b19 v4) (
  (if (sI σ b19 (ix v4)) ≤ v1 then
  (if v3 = (-1 : Int32) then
  f12_heightAt_p61 (f12_heightAt_p10 n) σ v0 v1 v2 v4
  else
  gd (inb σ b19 v3) (
  (if (sI σ b19 (ix v4)) ≤ (sI σ b19 (ix v3)) then
  f12_heightAt_p64 (f12_heightAt_p10 n) σ v0 v1 v2 v3 v4
  else
  f12_heightAt_p61 (f12_heightAt_p10 n) σ v0 v1 v2 v4)))
  else
  f12_heightAt_p64 (f12_heightAt_p10 n) σ v0 v1 v2 v3 v4)))))
  else
  f12_heightAt_p64 (f12_heightAt_p10 n) σ v0 v1 v2 v3 v4)))))))
set_option maxRecDepth 20000 in
theorem s12_heightAt_p10 : ∀ (n : Nat) (σ : St) (v0 : Nat) (v1 : Int32) (v2 : Int32) (v3 : Int32) (v4 : Int32) (r : Int32) (τ : St), f12_heightAt_p10 n σ v0 v1 v2 v3 v4 = some (r, τ) → Ev 2 m12_heightAt 10 [(0, .ref v0), (1, .int v1), (2, .int v2), (3, .int v3), (4, .int v4)] [] σ (some (.int r)) τ := by
  intro n
  induction n with
  | zero =>
    intro σ v0 v1 v2 v3 v4 r τ hf
    cases hf
  | succ n ih =>
    intro σ v0 v1 v2 v3 v4 r τ hf
    rw [f12_heightAt_p10] at hf
    refine ev_iload (i := 4) (q := 4) rfl d12_heightAt_10 ?_
    rcases ite_some hf with ⟨c4, hf⟩ | ⟨c4, hf⟩
    · refine ev_if_lt_P (tgt := 70) c4 (by decide) d12_heightAt_12 ?_
      refine ev_iload_n (j := 3) (i := 3) (q := 3) rfl rfl d12_heightAt_70 ?_
      refine ev_iconst ci_m1 d12_heightAt_71 ?_
      rcases ite_some hf with ⟨c5, hf⟩ | ⟨c5, hf⟩
      · refine ev_icmp_ne_P (tgt := 79) c5 (by decide) d12_heightAt_72 ?_
        refine ev_iconst ci_5 d12_heightAt_75 ?_
        refine ev_goto (tgt := 85) (by decide) d12_heightAt_76 ?_
        obtain ⟨rfl, rfl⟩ := ret_some hf
        exact ev_iret rfl d12_heightAt_85
      · refine ev_icmp_ne_Q (tgt := 79) c5 (by decide) d12_heightAt_72 ?_
        refine ev_aload_n (j := 0) (i := 0) (q := 0) rfl rfl d12_heightAt_79 ?_
        obtain ⟨h6, hf⟩ := gd_some hf
        obtain ⟨b7, e8, hf⟩ := lt_some hf
        obtain ⟨h9, hf⟩ := gd_some hf
        refine ev_getRb cls12 (j := 17) (by decide) rfl w1268 h6 e8 (nz_ne h9) d12_heightAt_80 ?_
        refine ev_iload_n (j := 3) (i := 3) (q := 3) rfl rfl d12_heightAt_83 ?_
        obtain ⟨h10, hf⟩ := gd_some hf
        obtain ⟨h11, hf⟩ := gd_some hf
        refine ev_iald h10 h11 d12_heightAt_84 ?_
        obtain ⟨rfl, rfl⟩ := ret_some hf
        exact ev_iret rfl d12_heightAt_85
    · refine ev_if_lt_Q (tgt := 70) c4 (by decide) d12_heightAt_12 ?_
      refine ev_aload_n (j := 0) (i := 0) (q := 0) rfl rfl d12_heightAt_15 ?_
      obtain ⟨h12, hf⟩ := gd_some hf
      obtain ⟨b13, e14, hf⟩ := lt_some hf
      obtain ⟨h15, hf⟩ := gd_some hf
      refine ev_getRb cls12 (j := 18) (by decide) rfl w1269 h12 e14 (nz_ne h15) d12_heightAt_16 ?_
      refine ev_iload (i := 4) (q := 4) rfl d12_heightAt_19 ?_
      obtain ⟨h16, hf⟩ := gd_some hf
      obtain ⟨h17, hf⟩ := gd_some hf
      refine ev_iald h16 h17 d12_heightAt_21 ?_
      refine ev_iload_n (j := 2) (i := 2) (q := 2) rfl rfl d12_heightAt_22 ?_
      rcases ite_some hf with ⟨c18, hf⟩ | ⟨c18, hf⟩
      · refine ev_icmp_gt_P (tgt := 64) c18 (by decide) d12_heightAt_23 ?_
        refine ev_aload_n (j := 0) (i := 0) (q := 0) rfl rfl d12_heightAt_26 ?_
        obtain ⟨b19, e20, hf⟩ := lt_some hf
        obtain ⟨h21, hf⟩ := gd_some hf
        refine ev_getRb cls12 (j := 16) (by decide) rfl w1267 h12 e20 (nz_ne h21) d12_heightAt_27 ?_
        refine ev_iload (i := 4) (q := 4) rfl d12_heightAt_30 ?_
        obtain ⟨h22, hf⟩ := gd_some hf
        obtain ⟨h23, hf⟩ := gd_some hf
        refine ev_iald h22 h23 d12_heightAt_32 ?_
        refine ev_iload_n (j := 1) (i := 1) (q := 1) rfl rfl d12_heightAt_33 ?_
        rcases ite_some hf with ⟨c24, hf⟩ | ⟨c24, hf⟩
        · refine ev_icmp_le_P (tgt := 40) c24 (by decide) d12_heightAt_34 ?_
          refine ev_iload_n (j := 3) (i := 3) (q := 3) rfl rfl d12_heightAt_40 ?_
          refine ev_iconst ci_m1 d12_heightAt_41 ?_
          rcases ite_some hf with ⟨c25, hf⟩ | ⟨c25, hf⟩
          · refine ev_icmp_eq_P (tgt := 61) c25 (by decide) d12_heightAt_42 ?_
            exact Ev.sub [0, 1, 2, 4] rfl (s12_heightAt_p61 ih _ _ _ _ _ _ _ hf)
          · refine ev_icmp_eq_Q (tgt := 61) c25 (by decide) d12_heightAt_42 ?_
            refine ev_aload_n (j := 0) (i := 0) (q := 0) rfl rfl d12_heightAt_45 ?_
            refine ev_getRb cls12 (j := 16) (by decide) rfl w1267 h12 e20 (nz_ne h21) d12_heightAt_46 ?_
            refine ev_iload (i := 4) (q := 4) rfl d12_heightAt_49 ?_
            refine ev_iald h22 h23 d12_heightAt_51 ?_
            refine ev_aload_n (j := 0) (i := 0) (q := 0) rfl rfl d12_heightAt_52 ?_
            refine ev_getRb cls12 (j := 16) (by decide) rfl w1267 h12 e20 (nz_ne h21) d12_heightAt_53 ?_
            refine ev_iload_n (j := 3) (i := 3) (q := 3) rfl rfl d12_heightAt_56 ?_
            obtain ⟨h26, hf⟩ := gd_some hf
            refine ev_iald h22 h26 d12_heightAt_57 ?_
            rcases ite_some hf with ⟨c27, hf⟩ | ⟨c27, hf⟩
            · refine ev_icmp_le_P (tgt := 64) c27 (by decide) d12_heightAt_58 ?_
              exact Ev.sub [0, 1, 2, 3, 4] rfl (s12_heightAt_p64 ih _ _ _ _ _ _ _ _ hf)
            · refine ev_icmp_le_Q (tgt := 64) c27 (by decide) d12_heightAt_58 ?_
              exact Ev.sub [0, 1, 2, 4] rfl (s12_heightAt_p61 ih _ _ _ _ _ _ _ hf)
        · refine ev_icmp_le_Q (tgt := 40) c24 (by decide) d12_heightAt_34 ?_
          refine ev_goto (tgt := 64) (by decide) d12_heightAt_37 ?_
          exact Ev.sub [0, 1, 2, 3, 4] rfl (s12_heightAt_p64 ih _ _ _ _ _ _ _ _ hf)
      · refine ev_icmp_gt_Q (tgt := 64) c18 (by decide) d12_heightAt_23 ?_
        exact Ev.sub [0, 1, 2, 3, 4] rfl (s12_heightAt_p64 ih _ _ _ _ _ _ _ _ hf)
def f12_heightAt (σ : St) (v0 : Nat) (v1 : Int32) (v2 : Int32) : Option (Int32 × St) :=
  gd (ob σ v0 12) (
  lt ((sI σ v0 15) - (1 : Int32)) fun y2 => (
  f12_heightAt_p10 FU σ v0 v1 v2 (-1 : Int32) y2))
set_option maxRecDepth 50000 in
theorem s12_heightAt : ∀ (σ : St) (v0 : Nat) (v1 : Int32) (v2 : Int32) (r : Int32) (τ : St), f12_heightAt σ v0 v1 v2 = some (r, τ) → Call 2 m12_heightAt [.ref v0, .int v1, .int v2] σ (some (.int r)) τ := by
  intro σ v0 v1 v2 r τ hf
  unfold f12_heightAt at hf
  refine Call.of (by decide +kernel) rfl (Nat.le_of_ble_eq_true rfl) ?_
  refine ev_iconst ci_m1 d12_heightAt_0 ?_
  refine ev_istore_n (lv2 := [(3, .int (-1 : Int32)), (0, .ref v0), (1, .int v1), (2, .int v2)]) (j := 3) (i := 3) rfl (by decide) rfl d12_heightAt_1 ?_
  refine ev_aload_n (j := 0) (i := 0) (q := 1) rfl rfl d12_heightAt_2 ?_
  obtain ⟨h1, hf⟩ := gd_some hf
  refine ev_getI cls12 (j := 15) (by decide) rfl w1266 h1 d12_heightAt_3 ?_
  refine ev_iconst ci_1 d12_heightAt_6 ?_
  refine ev_isub d12_heightAt_7 ?_
  obtain ⟨y2, e3, hf⟩ := lt_some hf
  refine ev_nmI e3 ?_
  refine ev_istore (lv2 := [(4, .int y2), (3, .int (-1 : Int32)), (0, .ref v0), (1, .int v1), (2, .int v2)]) (i := 4) (by decide) rfl d12_heightAt_8 ?_
  exact Ev.sub [2, 3, 4, 1, 0] rfl (s12_heightAt_p10 FU _ _ _ _ _ _ _ _ hf)
abbrev m12_iceAt : MD := ("MillBoatsModel", ⟨"MillBoatsModel", "iceAt", "(II)Z"⟩, prog_14_method_29_code, 4, (some Jvm.ClassFile.FieldType.boolean))
theorem k12_iceAt : okY m12_iceAt.2.1 2 := ⟨by decide +kernel, by decide +kernel, by decide +kernel⟩
def f12_iceAt_p38 (K7 : St → Nat → Int32 → Int32 → Int32 → Option (Int32 × St)) (σ : St) (v0 : Nat) (v1 : Int32) (v2 : Int32) (v3 : Int32) : Option (Int32 × St) :=
  lt (v3 + (-1 : Int32)) fun y24 => (
  K7 σ v0 v1 v2 y24)
set_option maxRecDepth 20000 in
theorem s12_iceAt_p38 {K7 : St → Nat → Int32 → Int32 → Int32 → Option (Int32 × St)} (hK7 : ∀ (σ : St) (v0 : Nat) (v1 : Int32) (v2 : Int32) (v3 : Int32) (r : Int32) (τ : St), K7 σ v0 v1 v2 v3 = some (r, τ) → Ev 2 m12_iceAt 7 [(0, .ref v0), (1, .int v1), (2, .int v2), (3, .int v3)] [] σ (some (.int r)) τ) : ∀ (σ : St) (v0 : Nat) (v1 : Int32) (v2 : Int32) (v3 : Int32) (r : Int32) (τ : St), f12_iceAt_p38 K7 σ v0 v1 v2 v3 = some (r, τ) → Ev 2 m12_iceAt 38 [(0, .ref v0), (1, .int v1), (2, .int v2), (3, .int v3)] [] σ (some (.int r)) τ := by
  intro σ v0 v1 v2 v3 r τ hf
  unfold f12_iceAt_p38 at hf
  obtain ⟨y24, e25, hf⟩ := lt_some hf
  refine ev_iinc (lv2 := [(3, .int y24), (0, .ref v0), (1, .int v1), (2, .int v2)]) (i := 3) (q := 3) (v := y24) (n := -1) rfl (by rw [ci_m1]; exact e25.symm) (by decide) rfl d12_iceAt_38 ?_
  refine ev_goto (tgt := 7) (by decide) d12_iceAt_41 ?_
  exact Ev.sub [1, 2, 3, 0] rfl (hK7 _ _ _ _ _ _ _ hf)
def f12_iceAt_p7 : Nat → St → Nat → Int32 → Int32 → Int32 → Option (Int32 × St)
  | 0, _, _, _, _, _ => none
  | n + 1, σ, v0, v1, v2, v3 =>
  (if v3 < (0 : Int32) then
  some ((0 : Int32), σ)
  else
  gd (ob σ v0 12) (
  lt (sR σ v0 22) fun b6 => (
  gd (nz b6) (
  gd (ob σ b6 14) (
  gd (inb σ b6 v3) (
  (if (sI σ b6 (ix v3)) ≤ v2 then
  lt (sR σ v0 20) fun b12 => (
  gd (nz b12) (
  gd (ob σ b12 14) (
  gd (inb σ b12 v3) (
  (if (sI σ b12 (ix v3)) = v1 then
  lt (sR σ v0 21) fun b18 => (
  gd (nz b18) (
  gd (ob σ b18 16) (
  gd (inb σ b18 v3) (
  gd (isB (sI σ b18 (ix v3))) (
  some (sI σ b18 (ix v3), σ))))))
  else
  f12_iceAt_p38 (f12_iceAt_p7 n) σ v0 v1 v2 v3)))))
  else
  f12_iceAt_p38 (f12_iceAt_p7 n) σ v0 v1 v2 v3)))))))
set_option maxRecDepth 20000 in
theorem s12_iceAt_p7 : ∀ (n : Nat) (σ : St) (v0 : Nat) (v1 : Int32) (v2 : Int32) (v3 : Int32) (r : Int32) (τ : St), f12_iceAt_p7 n σ v0 v1 v2 v3 = some (r, τ) → Ev 2 m12_iceAt 7 [(0, .ref v0), (1, .int v1), (2, .int v2), (3, .int v3)] [] σ (some (.int r)) τ := by
  intro n
  induction n with
  | zero =>
    intro σ v0 v1 v2 v3 r τ hf
    cases hf
  | succ n ih =>
    intro σ v0 v1 v2 v3 r τ hf
    rw [f12_iceAt_p7] at hf
    refine ev_iload_n (j := 3) (i := 3) (q := 3) rfl rfl d12_iceAt_7 ?_
    rcases ite_some hf with ⟨c4, hf⟩ | ⟨c4, hf⟩
    · refine ev_if_lt_P (tgt := 44) c4 (by decide) d12_iceAt_8 ?_
      refine ev_iconst ci_0 d12_iceAt_44 ?_
      obtain ⟨rfl, rfl⟩ := ret_some hf
      exact ev_zret rfl (by decide) d12_iceAt_45
    · refine ev_if_lt_Q (tgt := 44) c4 (by decide) d12_iceAt_8 ?_
      refine ev_aload_n (j := 0) (i := 0) (q := 0) rfl rfl d12_iceAt_11 ?_
      obtain ⟨h5, hf⟩ := gd_some hf
      obtain ⟨b6, e7, hf⟩ := lt_some hf
      obtain ⟨h8, hf⟩ := gd_some hf
      refine ev_getRb cls12 (j := 22) (by decide) rfl w1273 h5 e7 (nz_ne h8) d12_iceAt_12 ?_
      refine ev_iload_n (j := 3) (i := 3) (q := 3) rfl rfl d12_iceAt_15 ?_
      obtain ⟨h9, hf⟩ := gd_some hf
      obtain ⟨h10, hf⟩ := gd_some hf
      refine ev_iald h9 h10 d12_iceAt_16 ?_
      refine ev_iload_n (j := 2) (i := 2) (q := 2) rfl rfl d12_iceAt_17 ?_
      rcases ite_some hf with ⟨c11, hf⟩ | ⟨c11, hf⟩
      · refine ev_icmp_gt_P (tgt := 38) c11 (by decide) d12_iceAt_18 ?_
        refine ev_aload_n (j := 0) (i := 0) (q := 0) rfl rfl d12_iceAt_21 ?_
        obtain ⟨b12, e13, hf⟩ := lt_some hf
        obtain ⟨h14, hf⟩ := gd_some hf
        refine ev_getRb cls12 (j := 20) (by decide) rfl w1271 h5 e13 (nz_ne h14) d12_iceAt_22 ?_
        refine ev_iload_n (j := 3) (i := 3) (q := 3) rfl rfl d12_iceAt_25 ?_
        obtain ⟨h15, hf⟩ := gd_some hf
        obtain ⟨h16, hf⟩ := gd_some hf
        refine ev_iald h15 h16 d12_iceAt_26 ?_
        refine ev_iload_n (j := 1) (i := 1) (q := 1) rfl rfl d12_iceAt_27 ?_
        rcases ite_some hf with ⟨c17, hf⟩ | ⟨c17, hf⟩
        · refine ev_icmp_ne_P (tgt := 38) c17 (by decide) d12_iceAt_28 ?_
          refine ev_aload_n (j := 0) (i := 0) (q := 0) rfl rfl d12_iceAt_31 ?_
          obtain ⟨b18, e19, hf⟩ := lt_some hf
          obtain ⟨h20, hf⟩ := gd_some hf
          refine ev_getRb cls12 (j := 21) (by decide) rfl w1272 h5 e19 (nz_ne h20) d12_iceAt_32 ?_
          refine ev_iload_n (j := 3) (i := 3) (q := 3) rfl rfl d12_iceAt_35 ?_
          obtain ⟨h21, hf⟩ := gd_some hf
          obtain ⟨h22, hf⟩ := gd_some hf
          refine ev_zald h21 h22 d12_iceAt_36 ?_
          obtain ⟨h23, hf⟩ := gd_some hf
          obtain ⟨rfl, rfl⟩ := ret_some hf
          exact ev_zret rfl (narB h23) d12_iceAt_37
        · refine ev_icmp_ne_Q (tgt := 38) c17 (by decide) d12_iceAt_28 ?_
          exact Ev.sub [0, 1, 2, 3] rfl (s12_iceAt_p38 ih _ _ _ _ _ _ _ hf)
      · refine ev_icmp_gt_Q (tgt := 38) c11 (by decide) d12_iceAt_18 ?_
        exact Ev.sub [0, 1, 2, 3] rfl (s12_iceAt_p38 ih _ _ _ _ _ _ _ hf)
def f12_iceAt (σ : St) (v0 : Nat) (v1 : Int32) (v2 : Int32) : Option (Int32 × St) :=
  gd (ob σ v0 12) (
  lt ((sI σ v0 19) - (1 : Int32)) fun y2 => (
  f12_iceAt_p7 FU σ v0 v1 v2 y2))
set_option maxRecDepth 50000 in
theorem s12_iceAt : ∀ (σ : St) (v0 : Nat) (v1 : Int32) (v2 : Int32) (r : Int32) (τ : St), f12_iceAt σ v0 v1 v2 = some (r, τ) → Call 2 m12_iceAt [.ref v0, .int v1, .int v2] σ (some (.int r)) τ := by
  intro σ v0 v1 v2 r τ hf
  unfold f12_iceAt at hf
  refine Call.of (by decide +kernel) rfl (Nat.le_of_ble_eq_true rfl) ?_
  refine ev_aload_n (j := 0) (i := 0) (q := 0) rfl rfl d12_iceAt_0 ?_
  obtain ⟨h1, hf⟩ := gd_some hf
  refine ev_getI cls12 (j := 19) (by decide) rfl w1270 h1 d12_iceAt_1 ?_
  refine ev_iconst ci_1 d12_iceAt_4 ?_
  refine ev_isub d12_iceAt_5 ?_
  obtain ⟨y2, e3, hf⟩ := lt_some hf
  refine ev_nmI e3 ?_
  refine ev_istore_n (lv2 := [(3, .int y2), (0, .ref v0), (1, .int v1), (2, .int v2)]) (j := 3) (i := 3) rfl (by decide) rfl d12_iceAt_6 ?_
  exact Ev.sub [1, 2, 3, 0] rfl (s12_iceAt_p7 FU _ _ _ _ _ _ _ hf)
abbrev m12_isKnown : MD := ("MillBoatsModel", ⟨"MillBoatsModel", "isKnown", "(II)Z"⟩, prog_14_method_30_code, 3, (some Jvm.ClassFile.FieldType.boolean))
theorem k12_isKnown : okY m12_isKnown.2.1 2 := ⟨by decide +kernel, by decide +kernel, by decide +kernel⟩
def f12_isKnown (σ : St) (v0 : Nat) (v1 : Int32) (v2 : Int32) : Option (Int32 × St) :=
  bd (f12_isDay σ v1) fun r1 t2 => (
  (if r1 = (0 : Int32) then
  some ((0 : Int32), t2)
  else
  gd (ob t2 v0 12) (
  bd (f12_within t2 v2 (0 : Int32) (sI t2 v0 14)) fun r7 t8 => (
  (if r7 = (0 : Int32) then
  some ((0 : Int32), t8)
  else
  some ((1 : Int32), t8))))))
set_option maxRecDepth 50000 in
theorem s12_isKnown : ∀ (σ : St) (v0 : Nat) (v1 : Int32) (v2 : Int32) (r : Int32) (τ : St), f12_isKnown σ v0 v1 v2 = some (r, τ) → Call 3 m12_isKnown [.ref v0, .int v1, .int v2] σ (some (.int r)) τ := by
  intro σ v0 v1 v2 r τ hf
  unfold f12_isKnown at hf
  refine Call.of (by decide +kernel) rfl (Nat.le_of_ble_eq_true rfl) ?_
  refine ev_iload_n (j := 1) (i := 1) (q := 1) rfl rfl d12_isKnown_0 ?_
  obtain ⟨r1, t2, k3, hf⟩ := bd_some hf
  have q4 := s12_isDay _ _ _ _ k3
  refine ev_callS (vs := [.int v1]) (sk := []) q4 (by decide) (Nat.le_of_ble_eq_true rfl) w1580 w1581 w19 w1582 k12_isDay rfl (Nat.le_of_ble_eq_true rfl) d12_isKnown_1 ?_
  rcases ite_some hf with ⟨c5, hf⟩ | ⟨c5, hf⟩
  · refine ev_if_eq_P (tgt := 23) c5 (by decide) d12_isKnown_4 ?_
    refine ev_iconst ci_0 d12_isKnown_23 ?_
    obtain ⟨rfl, rfl⟩ := ret_some hf
    exact ev_zret rfl (by decide) d12_isKnown_24
  · refine ev_if_eq_Q (tgt := 23) c5 (by decide) d12_isKnown_4 ?_
    refine ev_iload_n (j := 2) (i := 2) (q := 2) rfl rfl d12_isKnown_7 ?_
    refine ev_iconst ci_0 d12_isKnown_8 ?_
    refine ev_aload_n (j := 0) (i := 0) (q := 0) rfl rfl d12_isKnown_9 ?_
    obtain ⟨h6, hf⟩ := gd_some hf
    refine ev_getI cls12 (j := 14) (by decide) rfl w1265 h6 d12_isKnown_10 ?_
    obtain ⟨r7, t8, k9, hf⟩ := bd_some hf
    have q10 := s12_within _ _ _ _ _ _ k9
    refine ev_callS (vs := [.int v2, .int (0 : Int32), .int (sI t2 v0 14)]) (sk := []) q10 (by decide) (Nat.le_of_ble_eq_true rfl) w1497 w1498 w19 w1499 k12_within rfl (Nat.le_of_ble_eq_true rfl) d12_isKnown_13 ?_
    rcases ite_some hf with ⟨c11, hf⟩ | ⟨c11, hf⟩
    · refine ev_if_eq_P (tgt := 23) c11 (by decide) d12_isKnown_16 ?_
      refine ev_iconst ci_0 d12_isKnown_23 ?_
      obtain ⟨rfl, rfl⟩ := ret_some hf
      exact ev_zret rfl (by decide) d12_isKnown_24
    · refine ev_if_eq_Q (tgt := 23) c11 (by decide) d12_isKnown_16 ?_
      refine ev_iconst ci_1 d12_isKnown_19 ?_
      refine ev_goto (tgt := 24) (by decide) d12_isKnown_20 ?_
      obtain ⟨rfl, rfl⟩ := ret_some hf
      exact ev_zret rfl (by decide) d12_isKnown_24
abbrev m12_heightOf : MD := ("MillBoatsModel", ⟨"MillBoatsModel", "heightOf", "(II)I"⟩, prog_14_method_31_code, 3, (some Jvm.ClassFile.FieldType.int))
theorem k12_heightOf : okY m12_heightOf.2.1 2 := ⟨by decide +kernel, by decide +kernel, by decide +kernel⟩
def f12_heightOf (σ : St) (v0 : Nat) (v1 : Int32) (v2 : Int32) : Option (Int32 × St) :=
  gd (ob σ v0 12) (
  lt (wI σ v0 0 (0 : Int32)) fun t2 => (
  bd (f12_isKnown t2 v0 v1 v2) fun r4 t5 => (
  (if r4 = (0 : Int32) then
  some ((-1 : Int32), t5)
  else
  bd (f12_heightAt t5 v0 v1 v2) fun r9 t10 => (
  some (r9, t10))))))
set_option maxRecDepth 50000 in
theorem s12_heightOf : ∀ (σ : St) (v0 : Nat) (v1 : Int32) (v2 : Int32) (r : Int32) (τ : St), f12_heightOf σ v0 v1 v2 = some (r, τ) → Call 4 m12_heightOf [.ref v0, .int v1, .int v2] σ (some (.int r)) τ := by
  intro σ v0 v1 v2 r τ hf
  unfold f12_heightOf at hf
  refine Call.of (by decide +kernel) rfl (Nat.le_of_ble_eq_true rfl) ?_
  refine ev_aload_n (j := 0) (i := 0) (q := 0) rfl rfl d12_heightOf_0 ?_
  refine ev_iconst ci_0 d12_heightOf_1 ?_
  obtain ⟨h1, hf⟩ := gd_some hf
  obtain ⟨t2, e3, hf⟩ := lt_some hf
  refine ev_putI cls12 (j := 0) (by decide) rfl rfl w1251 h1 (fun _ => ⟨rfl, rfl⟩) d12_heightOf_2 (ev_nmS e3 ?_)
  refine ev_aload_n (j := 0) (i := 0) (q := 0) rfl rfl d12_heightOf_5 ?_
  refine ev_iload_n (j := 1) (i := 1) (q := 1) rfl rfl d12_heightOf_6 ?_
  refine ev_iload_n (j := 2) (i := 2) (q := 2) rfl rfl d12_heightOf_7 ?_
  obtain ⟨r4, t5, k6, hf⟩ := bd_some hf
  have q7 := s12_isKnown _ _ _ _ _ _ k6
  refine ev_callV (vs := [.int v1, .int v2]) (sk := []) cls12 (mono_ob (mono_eI e3) h1) q7 (by decide) (Nat.le_of_ble_eq_true rfl) w1591 w1593 ws61 w19 w1594 k12_isKnown rfl (Nat.le_of_ble_eq_true rfl) d12_heightOf_8 ?_
  rcases ite_some hf with ⟨c8, hf⟩ | ⟨c8, hf⟩
  · refine ev_if_eq_P (tgt := 23) c8 (by decide) d12_heightOf_11 ?_
    refine ev_iconst ci_m1 d12_heightOf_23 ?_
    obtain ⟨rfl, rfl⟩ := ret_some hf
    exact ev_iret rfl d12_heightOf_24
  · refine ev_if_eq_Q (tgt := 23) c8 (by decide) d12_heightOf_11 ?_
    refine ev_aload_n (j := 0) (i := 0) (q := 0) rfl rfl d12_heightOf_14 ?_
    refine ev_iload_n (j := 1) (i := 1) (q := 1) rfl rfl d12_heightOf_15 ?_
    refine ev_iload_n (j := 2) (i := 2) (q := 2) rfl rfl d12_heightOf_16 ?_
    obtain ⟨r9, t10, k11, hf⟩ := bd_some hf
    have q12 := s12_heightAt _ _ _ _ _ _ k11
    refine ev_callV (vs := [.int v1, .int v2]) (sk := []) cls12 (mono_ob q7.1 (mono_ob (mono_eI e3) h1)) q12 (by decide) (Nat.le_of_ble_eq_true rfl) w1595 w1597 ws62 w19 w1598 k12_heightAt rfl (Nat.le_of_ble_eq_true rfl) d12_heightOf_17 ?_
    refine ev_goto (tgt := 24) (by decide) d12_heightOf_20 ?_
    obtain ⟨rfl, rfl⟩ := ret_some hf
    exact ev_iret rfl d12_heightOf_24
abbrev m12_iceOf : MD := ("MillBoatsModel", ⟨"MillBoatsModel", "iceOf", "(II)I"⟩, prog_14_method_32_code, 3, (some Jvm.ClassFile.FieldType.int))
theorem k12_iceOf : okY m12_iceOf.2.1 2 := ⟨by decide +kernel, by decide +kernel, by decide +kernel⟩
def f12_iceOf (σ : St) (v0 : Nat) (v1 : Int32) (v2 : Int32) : Option (Int32 × St) :=
  gd (ob σ v0 12) (
  lt (wI σ v0 0 (0 : Int32)) fun t2 => (
  bd (f12_isKnown t2 v0 v1 v2) fun r4 t5 => (
  (if r4 = (0 : Int32) then
  some ((-1 : Int32), t5)
  else
  bd (f12_iceAt t5 v0 v1 v2) fun r9 t10 => (
  (if r9 = (0 : Int32) then
  some ((0 : Int32), t10)
  else
  some ((1 : Int32), t10)))))))
set_option maxRecDepth 50000 in
theorem s12_iceOf : ∀ (σ : St) (v0 : Nat) (v1 : Int32) (v2 : Int32) (r : Int32) (τ : St), f12_iceOf σ v0 v1 v2 = some (r, τ) → Call 4 m12_iceOf [.ref v0, .int v1, .int v2] σ (some (.int r)) τ := by
  intro σ v0 v1 v2 r τ hf
  unfold f12_iceOf at hf
  refine Call.of (by decide +kernel) rfl (Nat.le_of_ble_eq_true rfl) ?_
  refine ev_aload_n (j := 0) (i := 0) (q := 0) rfl rfl d12_iceOf_0 ?_
  refine ev_iconst ci_0 d12_iceOf_1 ?_
  obtain ⟨h1, hf⟩ := gd_some hf
  obtain ⟨t2, e3, hf⟩ := lt_some hf
  refine ev_putI cls12 (j := 0) (by decide) rfl rfl w1251 h1 (fun _ => ⟨rfl, rfl⟩) d12_iceOf_2 (ev_nmS e3 ?_)
  refine ev_aload_n (j := 0) (i := 0) (q := 0) rfl rfl d12_iceOf_5 ?_
  refine ev_iload_n (j := 1) (i := 1) (q := 1) rfl rfl d12_iceOf_6 ?_
  refine ev_iload_n (j := 2) (i := 2) (q := 2) rfl rfl d12_iceOf_7 ?_
  obtain ⟨r4, t5, k6, hf⟩ := bd_some hf
  have q7 := s12_isKnown _ _ _ _ _ _ k6
  refine ev_callV (vs := [.int v1, .int v2]) (sk := []) cls12 (mono_ob (mono_eI e3) h1) q7 (by decide) (Nat.le_of_ble_eq_true rfl) w1591 w1593 ws61 w19 w1594 k12_isKnown rfl (Nat.le_of_ble_eq_true rfl) d12_iceOf_8 ?_
  rcases ite_some hf with ⟨c8, hf⟩ | ⟨c8, hf⟩
  · refine ev_if_eq_P (tgt := 31) c8 (by decide) d12_iceOf_11 ?_
    refine ev_iconst ci_m1 d12_iceOf_31 ?_
    obtain ⟨rfl, rfl⟩ := ret_some hf
    exact ev_iret rfl d12_iceOf_32
  · refine ev_if_eq_Q (tgt := 31) c8 (by decide) d12_iceOf_11 ?_
    refine ev_aload_n (j := 0) (i := 0) (q := 0) rfl rfl d12_iceOf_14 ?_
    refine ev_iload_n (j := 1) (i := 1) (q := 1) rfl rfl d12_iceOf_15 ?_
    refine ev_iload_n (j := 2) (i := 2) (q := 2) rfl rfl d12_iceOf_16 ?_
    obtain ⟨r9, t10, k11, hf⟩ := bd_some hf
    have q12 := s12_iceAt _ _ _ _ _ _ k11
    refine ev_callV (vs := [.int v1, .int v2]) (sk := []) cls12 (mono_ob q7.1 (mono_ob (mono_eI e3) h1)) q12 (by decide) (Nat.le_of_ble_eq_true rfl) w1603 w1605 ws63 w19 w1606 k12_iceAt rfl (Nat.le_of_ble_eq_true rfl) d12_iceOf_17 ?_
    rcases ite_some hf with ⟨c13, hf⟩ | ⟨c13, hf⟩
    · refine ev_if_eq_P (tgt := 27) c13 (by decide) d12_iceOf_20 ?_
      refine ev_iconst ci_0 d12_iceOf_27 ?_
      refine ev_goto (tgt := 32) (by decide) d12_iceOf_28 ?_
      obtain ⟨rfl, rfl⟩ := ret_some hf
      exact ev_iret rfl d12_iceOf_32
    · refine ev_if_eq_Q (tgt := 27) c13 (by decide) d12_iceOf_20 ?_
      refine ev_iconst ci_1 d12_iceOf_23 ?_
      refine ev_goto (tgt := 32) (by decide) d12_iceOf_24 ?_
      obtain ⟨rfl, rfl⟩ := ret_some hf
      exact ev_iret rfl d12_iceOf_32
abbrev m12_feed : MD := ("MillBoatsModel", ⟨"MillBoatsModel", "feed", "(IIIII)I"⟩, prog_14_method_33_code, 8, (some Jvm.ClassFile.FieldType.int))
theorem k12_feed : okY m12_feed.2.1 5 := ⟨by decide +kernel, by decide +kernel, by decide +kernel⟩
def f12_feed_p76 (K23 : St → Nat → Int32 → Int32 → Int32 → Int32 → Int32 → Int32 → Option (Int32 × St)) (σ : St) (v0 : Nat) (v1 : Int32) (v2 : Int32) (v3 : Int32) (v4 : Int32) (v5 : Int32) (v6 : Int32) (x0 : Int32) : Option (Int32 × St) :=
  gd (ob σ v0 12) (
  lt (sR σ v0 34) fun b12 => (
  gd (nz b12) (
  gd (ob σ b12 13) (
  gd (inb σ b12 (sI σ v0 35)) (
  lt (wI σ b12 (ix (sI σ v0 35)) (vp_nar .byte ((x0 >>> (((24 : Int32) - ((8 : Int32) * (v6 - v6 / (4 : Int32) * (4 : Int32)))) &&& 31)).toInt8.toInt32))) fun t17 => (
  lt (wI t17 v0 35 ((sI t17 v0 35) + (1 : Int32))) fun t19 => (
  lt (v6 + (1 : Int32)) fun y21 => (
  K23 t19 v0 v1 v2 v3 v4 v5 y21))))))))
set_option maxRecDepth 20000 in
theorem s12_feed_p76 {K23 : St → Nat → Int32 → Int32 → Int32 → Int32 → Int32 → Int32 → Option (Int32 × St)} (hK23 : ∀ (σ : St) (v0 : Nat) (v1 : Int32) (v2 : Int32) (v3 : Int32) (v4 : Int32) (v5 : Int32) (v6 : Int32) (r : Int32) (τ : St), K23 σ v0 v1 v2 v3 v4 v5 v6 = some (r, τ) → Ev 2 m12_feed 23 [(0, .ref v0), (1, .int v1), (2, .int v2), (3, .int v3), (4, .int v4), (5, .int v5), (6, .int v6)] [] σ (some (.int r)) τ) : ∀ (σ : St) (v0 : Nat) (v1 : Int32) (v2 : Int32) (v3 : Int32) (v4 : Int32) (v5 : Int32) (v6 : Int32) (x0 : Int32) (r : Int32) (τ : St), f12_feed_p76 K23 σ v0 v1 v2 v3 v4 v5 v6 x0 = some (r, τ) → Ev 2 m12_feed 76 [(0, .ref v0), (1, .int v1), (2, .int v2), (3, .int v3), (4, .int v4), (5, .int v5), (6, .int v6)] [.int x0] σ (some (.int r)) τ := by
  intro σ v0 v1 v2 v3 v4 v5 v6 x0 r τ hf
  unfold f12_feed_p76 at hf
  refine ev_istore (lv2 := [(7, .int x0), (0, .ref v0), (1, .int v1), (2, .int v2), (3, .int v3), (4, .int v4), (5, .int v5), (6, .int v6)]) (i := 7) (by decide) rfl d12_feed_76 ?_
  refine ev_aload_n (j := 0) (i := 0) (q := 1) rfl rfl d12_feed_78 ?_
  obtain ⟨h11, hf⟩ := gd_some hf
  obtain ⟨b12, e13, hf⟩ := lt_some hf
  obtain ⟨h14, hf⟩ := gd_some hf
  refine ev_getRb cls12 (j := 34) (by decide) rfl w1285 h11 e13 (nz_ne h14) d12_feed_79 ?_
  refine ev_aload_n (j := 0) (i := 0) (q := 1) rfl rfl d12_feed_82 ?_
  refine ev_getI cls12 (j := 35) (by decide) rfl w1286 h11 d12_feed_83 ?_
  refine ev_iload (i := 7) (q := 0) rfl d12_feed_86 ?_
  refine ev_bipush cb_24 d12_feed_88 ?_
  refine ev_bipush cb_8 d12_feed_90 ?_
  refine ev_iload (i := 6) (q := 7) rfl d12_feed_92 ?_
  refine ev_iconst ci_4 d12_feed_94 ?_
  refine ev_irem (by decide) d12_feed_95 ?_
  refine ev_imul d12_feed_96 ?_
  refine ev_isub d12_feed_97 ?_
  refine ev_ishr d12_feed_98 ?_
  refine ev_i2b d12_feed_99 ?_
  obtain ⟨h15, hf⟩ := gd_some hf
  obtain ⟨h16, hf⟩ := gd_some hf
  obtain ⟨t17, e18, hf⟩ := lt_some hf
  refine ev_bast h15 h16 d12_feed_100 (ev_nmS e18 ?_)
  refine ev_aload_n (j := 0) (i := 0) (q := 1) rfl rfl d12_feed_101 ?_
  refine ev_dup rfl d12_feed_102 ?_
  refine ev_getI cls12 (j := 35) (by decide) rfl w1286 (mono_ob (mono_eI e18) h11) d12_feed_103 ?_
  refine ev_iconst ci_1 d12_feed_106 ?_
  refine ev_iadd d12_feed_107 ?_
  obtain ⟨t19, e20, hf⟩ := lt_some hf
  refine ev_putI cls12 (j := 35) (by decide) rfl rfl w1286 (mono_ob (mono_eI e18) h11) (fun _ => ⟨rfl, rfl⟩) d12_feed_108 (ev_nmS e20 ?_)
  obtain ⟨y21, e22, hf⟩ := lt_some hf
  refine ev_iinc (lv2 := [(6, .int y21), (7, .int x0), (0, .ref v0), (1, .int v1), (2, .int v2), (3, .int v3), (4, .int v4), (5, .int v5)]) (i := 6) (q := 7) (v := y21) (n := 1) rfl (by rw [ci_1]; exact e22.symm) (by decide) rfl d12_feed_111 ?_
  refine ev_goto (tgt := 23) (by decide) d12_feed_114 ?_
  exact Ev.sub [2, 3, 4, 5, 6, 7, 0] rfl (hK23 _ _ _ _ _ _ _ _ _ _ hf)
def f12_feed_p23 : Nat → St → Nat → Int32 → Int32 → Int32 → Int32 → Int32 → Int32 → Option (Int32 × St)
  | 0, _, _, _, _, _, _, _, _ => none
  | n + 1, σ, v0, v1, v2, v3, v4, v5, v6 =>
  (if v6 < (20 : Int32) then
  (if v6 < (4 : Int32) then
  f12_feed_p76 (f12_feed_p23 n) σ v0 v1 v2 v3 v4 v5 v6 v1
  else
  (if v6 < (8 : Int32) then
  f12_feed_p76 (f12_feed_p23 n) σ v0 v1 v2 v3 v4 v5 v6 v2
  else
  (if v6 < (12 : Int32) then
  f12_feed_p76 (f12_feed_p23 n) σ v0 v1 v2 v3 v4 v5 v6 v3
  else
  (if v6 < (16 : Int32) then
  f12_feed_p76 (f12_feed_p23 n) σ v0 v1 v2 v3 v4 v5 v6 v4
  else
  f12_feed_p76 (f12_feed_p23 n) σ v0 v1 v2 v3 v4 v5 v6 v5))))
  else
  gd (ob σ v0 12) (
  some (sI σ v0 35, σ)))
set_option maxRecDepth 20000 in
theorem s12_feed_p23 : ∀ (n : Nat) (σ : St) (v0 : Nat) (v1 : Int32) (v2 : Int32) (v3 : Int32) (v4 : Int32) (v5 : Int32) (v6 : Int32) (r : Int32) (τ : St), f12_feed_p23 n σ v0 v1 v2 v3 v4 v5 v6 = some (r, τ) → Ev 2 m12_feed 23 [(0, .ref v0), (1, .int v1), (2, .int v2), (3, .int v3), (4, .int v4), (5, .int v5), (6, .int v6)] [] σ (some (.int r)) τ := by
  intro n
  induction n with
  | zero =>
    intro σ v0 v1 v2 v3 v4 v5 v6 r τ hf
    cases hf
  | succ n ih =>
    intro σ v0 v1 v2 v3 v4 v5 v6 r τ hf
    rw [f12_feed_p23] at hf
    refine ev_iload (i := 6) (q := 6) rfl d12_feed_23 ?_
    refine ev_bipush cb_20 d12_feed_25 ?_
    rcases ite_some hf with ⟨c5, hf⟩ | ⟨c5, hf⟩
    · refine ev_icmp_ge_P (tgt := 117) c5 (by decide) d12_feed_27 ?_
      refine ev_iload (i := 6) (q := 6) rfl d12_feed_30 ?_
      refine ev_iconst ci_4 d12_feed_32 ?_
      rcases ite_some hf with ⟨c6, hf⟩ | ⟨c6, hf⟩
      · refine ev_icmp_ge_P (tgt := 40) c6 (by decide) d12_feed_33 ?_
        refine ev_iload_n (j := 1) (i := 1) (q := 1) rfl rfl d12_feed_36 ?_
        refine ev_goto (tgt := 76) (by decide) d12_feed_37 ?_
        exact Ev.sub [0, 1, 2, 3, 4, 5, 6] rfl (s12_feed_p76 ih _ _ _ _ _ _ _ _ _ _ _ hf)
      · refine ev_icmp_ge_Q (tgt := 40) c6 (by decide) d12_feed_33 ?_
        refine ev_iload (i := 6) (q := 6) rfl d12_feed_40 ?_
        refine ev_bipush cb_8 d12_feed_42 ?_
        rcases ite_some hf with ⟨c7, hf⟩ | ⟨c7, hf⟩
        · refine ev_icmp_ge_P (tgt := 51) c7 (by decide) d12_feed_44 ?_
          refine ev_iload_n (j := 2) (i := 2) (q := 2) rfl rfl d12_feed_47 ?_
          refine ev_goto (tgt := 76) (by decide) d12_feed_48 ?_
          exact Ev.sub [0, 1, 2, 3, 4, 5, 6] rfl (s12_feed_p76 ih _ _ _ _ _ _ _ _ _ _ _ hf)
        · refine ev_icmp_ge_Q (tgt := 51) c7 (by decide) d12_feed_44 ?_
          refine ev_iload (i := 6) (q := 6) rfl d12_feed_51 ?_
          refine ev_bipush cb_12 d12_feed_53 ?_
          rcases ite_some hf with ⟨c8, hf⟩ | ⟨c8, hf⟩
          · refine ev_icmp_ge_P (tgt := 62) c8 (by decide) d12_feed_55 ?_
            refine ev_iload_n (j := 3) (i := 3) (q := 3) rfl rfl d12_feed_58 ?_
            refine ev_goto (tgt := 76) (by decide) d12_feed_59 ?_
            exact Ev.sub [0, 1, 2, 3, 4, 5, 6] rfl (s12_feed_p76 ih _ _ _ _ _ _ _ _ _ _ _ hf)
          · refine ev_icmp_ge_Q (tgt := 62) c8 (by decide) d12_feed_55 ?_
            refine ev_iload (i := 6) (q := 6) rfl d12_feed_62 ?_
            refine ev_bipush cb_16 d12_feed_64 ?_
            rcases ite_some hf with ⟨c9, hf⟩ | ⟨c9, hf⟩
            · refine ev_icmp_ge_P (tgt := 74) c9 (by decide) d12_feed_66 ?_
              refine ev_iload (i := 4) (q := 4) rfl d12_feed_69 ?_
              refine ev_goto (tgt := 76) (by decide) d12_feed_71 ?_
              exact Ev.sub [0, 1, 2, 3, 4, 5, 6] rfl (s12_feed_p76 ih _ _ _ _ _ _ _ _ _ _ _ hf)
            · refine ev_icmp_ge_Q (tgt := 74) c9 (by decide) d12_feed_66 ?_
              refine ev_iload (i := 5) (q := 5) rfl d12_feed_74 ?_
              exact Ev.sub [0, 1, 2, 3, 4, 5, 6] rfl (s12_feed_p76 ih _ _ _ _ _ _ _ _ _ _ _ hf)
    · refine ev_icmp_ge_Q (tgt := 117) c5 (by decide) d12_feed_27 ?_
      refine ev_aload_n (j := 0) (i := 0) (q := 0) rfl rfl d12_feed_117 ?_
      obtain ⟨h10, hf⟩ := gd_some hf
      refine ev_getI cls12 (j := 35) (by decide) rfl w1286 h10 d12_feed_118 ?_
      obtain ⟨rfl, rfl⟩ := ret_some hf
      exact ev_iret rfl d12_feed_121
def f12_feed (σ : St) (v0 : Nat) (v1 : Int32) (v2 : Int32) (v3 : Int32) (v4 : Int32) (v5 : Int32) : Option (Int32 × St) :=
  gd (ob σ v0 12) (
  lt (wI σ v0 0 (0 : Int32)) fun t2 => (
  (if ((sI t2 v0 35) + (20 : Int32)) ≤ (400 : Int32) then
  f12_feed_p23 FU t2 v0 v1 v2 v3 v4 v5 (0 : Int32)
  else
  some ((-1 : Int32), t2))))
set_option maxRecDepth 50000 in
theorem s12_feed : ∀ (σ : St) (v0 : Nat) (v1 : Int32) (v2 : Int32) (v3 : Int32) (v4 : Int32) (v5 : Int32) (r : Int32) (τ : St), f12_feed σ v0 v1 v2 v3 v4 v5 = some (r, τ) → Call 2 m12_feed [.ref v0, .int v1, .int v2, .int v3, .int v4, .int v5] σ (some (.int r)) τ := by
  intro σ v0 v1 v2 v3 v4 v5 r τ hf
  unfold f12_feed at hf
  refine Call.of (by decide +kernel) rfl (Nat.le_of_ble_eq_true rfl) ?_
  refine ev_aload_n (j := 0) (i := 0) (q := 0) rfl rfl d12_feed_0 ?_
  refine ev_iconst ci_0 d12_feed_1 ?_
  obtain ⟨h1, hf⟩ := gd_some hf
  obtain ⟨t2, e3, hf⟩ := lt_some hf
  refine ev_putI cls12 (j := 0) (by decide) rfl rfl w1251 h1 (fun _ => ⟨rfl, rfl⟩) d12_feed_2 (ev_nmS e3 ?_)
  refine ev_aload_n (j := 0) (i := 0) (q := 0) rfl rfl d12_feed_5 ?_
  refine ev_getI cls12 (j := 35) (by decide) rfl w1286 (mono_ob (mono_eI e3) h1) d12_feed_6 ?_
  refine ev_bipush cb_20 d12_feed_9 ?_
  refine ev_iadd d12_feed_11 ?_
  refine ev_sipush cs_400 d12_feed_12 ?_
  rcases ite_some hf with ⟨c4, hf⟩ | ⟨c4, hf⟩
  · refine ev_icmp_le_P (tgt := 20) c4 (by decide) d12_feed_15 ?_
    refine ev_iconst ci_0 d12_feed_20 ?_
    refine ev_istore (lv2 := [(6, .int (0 : Int32)), (0, .ref v0), (1, .int v1), (2, .int v2), (3, .int v3), (4, .int v4), (5, .int v5)]) (i := 6) (by decide) rfl d12_feed_21 ?_
    exact Ev.sub [1, 2, 3, 4, 5, 6, 0] rfl (s12_feed_p23 FU _ _ _ _ _ _ _ _ _ _ hf)
  · refine ev_icmp_le_Q (tgt := 20) c4 (by decide) d12_feed_15 ?_
    refine ev_iconst ci_m1 d12_feed_18 ?_
    obtain ⟨rfl, rfl⟩ := ret_some hf
    exact ev_iret rfl d12_feed_19
abbrev m12_end : MD := ("MillBoatsModel", ⟨"MillBoatsModel", "end", "(I)I"⟩, prog_14_method_34_code, 2, (some Jvm.ClassFile.FieldType.int))
theorem k12_end : okY m12_end.2.1 1 := ⟨by decide +kernel, by decide +kernel, by decide +kernel⟩
def f12_end (σ : St) (v0 : Nat) (v1 : Int32) : Option (Int32 × St) :=
  gd (ob σ v0 12) (
  lt (wI σ v0 0 (0 : Int32)) fun t2 => (
  (if v1 < (0 : Int32) then
  some ((-1 : Int32), t2)
  else
  (if v1 ≤ (sI t2 v0 35) then
  lt (wI t2 v0 35 v1) fun t6 => (
  some (v1, t6))
  else
  some ((-1 : Int32), t2)))))
set_option maxRecDepth 50000 in
theorem s12_end : ∀ (σ : St) (v0 : Nat) (v1 : Int32) (r : Int32) (τ : St), f12_end σ v0 v1 = some (r, τ) → Call 2 m12_end [.ref v0, .int v1] σ (some (.int r)) τ := by
  intro σ v0 v1 r τ hf
  unfold f12_end at hf
  refine Call.of (by decide +kernel) rfl (Nat.le_of_ble_eq_true rfl) ?_
  refine ev_aload_n (j := 0) (i := 0) (q := 0) rfl rfl d12_end_0 ?_
  refine ev_iconst ci_0 d12_end_1 ?_
  obtain ⟨h1, hf⟩ := gd_some hf
  obtain ⟨t2, e3, hf⟩ := lt_some hf
  refine ev_putI cls12 (j := 0) (by decide) rfl rfl w1251 h1 (fun _ => ⟨rfl, rfl⟩) d12_end_2 (ev_nmS e3 ?_)
  refine ev_iload_n (j := 1) (i := 1) (q := 1) rfl rfl d12_end_5 ?_
  rcases ite_some hf with ⟨c4, hf⟩ | ⟨c4, hf⟩
  · refine ev_if_lt_P (tgt := 17) c4 (by decide) d12_end_6 ?_
    refine ev_iconst ci_m1 d12_end_17 ?_
    obtain ⟨rfl, rfl⟩ := ret_some hf
    exact ev_iret rfl d12_end_18
  · refine ev_if_lt_Q (tgt := 17) c4 (by decide) d12_end_6 ?_
    refine ev_iload_n (j := 1) (i := 1) (q := 1) rfl rfl d12_end_9 ?_
    refine ev_aload_n (j := 0) (i := 0) (q := 0) rfl rfl d12_end_10 ?_
    refine ev_getI cls12 (j := 35) (by decide) rfl w1286 (mono_ob (mono_eI e3) h1) d12_end_11 ?_
    rcases ite_some hf with ⟨c5, hf⟩ | ⟨c5, hf⟩
    · refine ev_icmp_le_P (tgt := 19) c5 (by decide) d12_end_14 ?_
      refine ev_aload_n (j := 0) (i := 0) (q := 0) rfl rfl d12_end_19 ?_
      refine ev_iload_n (j := 1) (i := 1) (q := 1) rfl rfl d12_end_20 ?_
      obtain ⟨t6, e7, hf⟩ := lt_some hf
      refine ev_putI cls12 (j := 35) (by decide) rfl rfl w1286 (mono_ob (mono_eI e3) h1) (fun _ => ⟨rfl, rfl⟩) d12_end_21 (ev_nmS e7 ?_)
      refine ev_iload_n (j := 1) (i := 1) (q := 1) rfl rfl d12_end_24 ?_
      obtain ⟨rfl, rfl⟩ := ret_some hf
      exact ev_iret rfl d12_end_25
    · refine ev_icmp_le_Q (tgt := 19) c5 (by decide) d12_end_14 ?_
      refine ev_iconst ci_m1 d12_end_17 ?_
      obtain ⟨rfl, rfl⟩ := ret_some hf
      exact ev_iret rfl d12_end_18
abbrev m12_see : MD := ("MillBoatsModel", ⟨"MillBoatsModel", "see", "(I)I"⟩, prog_14_method_35_code, 2, (some Jvm.ClassFile.FieldType.int))
theorem k12_see : okY m12_see.2.1 1 := ⟨by decide +kernel, by decide +kernel, by decide +kernel⟩
def f12_see (σ : St) (v0 : Nat) (v1 : Int32) : Option (Int32 × St) :=
  gd (ob σ v0 12) (
  (if v1 < (sI σ v0 35) then
  lt (sR σ v0 34) fun b3 => (
  gd (nz b3) (
  gd (ob σ b3 13) (
  gd (inb σ b3 v1) (
  some (sI σ b3 (ix v1), σ)))))
  else
  some ((0 : Int32), σ)))
set_option maxRecDepth 50000 in
theorem s12_see : ∀ (σ : St) (v0 : Nat) (v1 : Int32) (r : Int32) (τ : St), f12_see σ v0 v1 = some (r, τ) → Call 2 m12_see [.ref v0, .int v1] σ (some (.int r)) τ := by
  intro σ v0 v1 r τ hf
  unfold f12_see at hf
  refine Call.of (by decide +kernel) rfl (Nat.le_of_ble_eq_true rfl) ?_
  refine ev_iload_n (j := 1) (i := 1) (q := 1) rfl rfl d12_see_0 ?_
  refine ev_aload_n (j := 0) (i := 0) (q := 0) rfl rfl d12_see_1 ?_
  obtain ⟨h1, hf⟩ := gd_some hf
  refine ev_getI cls12 (j := 35) (by decide) rfl w1286 h1 d12_see_2 ?_
  rcases ite_some hf with ⟨c2, hf⟩ | ⟨c2, hf⟩
  · refine ev_icmp_ge_P (tgt := 17) c2 (by decide) d12_see_5 ?_
    refine ev_aload_n (j := 0) (i := 0) (q := 0) rfl rfl d12_see_8 ?_
    obtain ⟨b3, e4, hf⟩ := lt_some hf
    obtain ⟨h5, hf⟩ := gd_some hf
    refine ev_getRb cls12 (j := 34) (by decide) rfl w1285 h1 e4 (nz_ne h5) d12_see_9 ?_
    refine ev_iload_n (j := 1) (i := 1) (q := 1) rfl rfl d12_see_12 ?_
    obtain ⟨h6, hf⟩ := gd_some hf
    obtain ⟨h7, hf⟩ := gd_some hf
    refine ev_bald h6 h7 d12_see_13 ?_
    refine ev_goto (tgt := 18) (by decide) d12_see_14 ?_
    obtain ⟨rfl, rfl⟩ := ret_some hf
    exact ev_iret rfl d12_see_18
  · refine ev_icmp_ge_Q (tgt := 17) c2 (by decide) d12_see_5 ?_
    refine ev_iconst ci_0 d12_see_17 ?_
    obtain ⟨rfl, rfl⟩ := ret_some hf
    exact ev_iret rfl d12_see_18
abbrev m12_isSmall : MD := ("MillBoatsModel", ⟨"MillBoatsModel", "isSmall", "(I)Z"⟩, prog_14_method_36_code, 1, (some Jvm.ClassFile.FieldType.boolean))
theorem k12_isSmall : okY m12_isSmall.2.1 1 := ⟨by decide +kernel, by decide +kernel, by decide +kernel⟩
def f12_isSmall (σ : St) (v0 : Int32) : Option (Int32 × St) :=
  (if v0 < (97 : Int32) then
  some ((0 : Int32), σ)
  else
  (if v0 ≤ (122 : Int32) then
  some ((1 : Int32), σ)
  else
  some ((0 : Int32), σ)))
set_option maxRecDepth 50000 in
theorem s12_isSmall : ∀ (σ : St) (v0 : Int32) (r : Int32) (τ : St), f12_isSmall σ v0 = some (r, τ) → Call 2 m12_isSmall [.int v0] σ (some (.int r)) τ := by
  intro σ v0 r τ hf
  unfold f12_isSmall at hf
  refine Call.of (by decide +kernel) rfl (Nat.le_of_ble_eq_true rfl) ?_
  refine ev_iload_n (j := 0) (i := 0) (q := 0) rfl rfl d12_isSmall_0 ?_
  refine ev_bipush cb_97 d12_isSmall_1 ?_
  rcases ite_some hf with ⟨c1, hf⟩ | ⟨c1, hf⟩
  · refine ev_icmp_lt_P (tgt := 16) c1 (by decide) d12_isSmall_3 ?_
    refine ev_iconst ci_0 d12_isSmall_16 ?_
    obtain ⟨rfl, rfl⟩ := ret_some hf
    exact ev_zret rfl (by decide) d12_isSmall_17
  · refine ev_icmp_lt_Q (tgt := 16) c1 (by decide) d12_isSmall_3 ?_
    refine ev_iload_n (j := 0) (i := 0) (q := 0) rfl rfl d12_isSmall_6 ?_
    refine ev_bipush cb_122 d12_isSmall_7 ?_
    rcases ite_some hf with ⟨c2, hf⟩ | ⟨c2, hf⟩
    · refine ev_icmp_gt_P (tgt := 16) c2 (by decide) d12_isSmall_9 ?_
      refine ev_iconst ci_1 d12_isSmall_12 ?_
      refine ev_goto (tgt := 17) (by decide) d12_isSmall_13 ?_
      obtain ⟨rfl, rfl⟩ := ret_some hf
      exact ev_zret rfl (by decide) d12_isSmall_17
    · refine ev_icmp_gt_Q (tgt := 16) c2 (by decide) d12_isSmall_9 ?_
      refine ev_iconst ci_0 d12_isSmall_16 ?_
      obtain ⟨rfl, rfl⟩ := ret_some hf
      exact ev_zret rfl (by decide) d12_isSmall_17
abbrev m12_isDigit : MD := ("MillBoatsModel", ⟨"MillBoatsModel", "isDigit", "(I)Z"⟩, prog_14_method_37_code, 1, (some Jvm.ClassFile.FieldType.boolean))
theorem k12_isDigit : okY m12_isDigit.2.1 1 := ⟨by decide +kernel, by decide +kernel, by decide +kernel⟩
def f12_isDigit (σ : St) (v0 : Int32) : Option (Int32 × St) :=
  (if v0 < (48 : Int32) then
  some ((0 : Int32), σ)
  else
  (if v0 ≤ (57 : Int32) then
  some ((1 : Int32), σ)
  else
  some ((0 : Int32), σ)))
set_option maxRecDepth 50000 in
theorem s12_isDigit : ∀ (σ : St) (v0 : Int32) (r : Int32) (τ : St), f12_isDigit σ v0 = some (r, τ) → Call 2 m12_isDigit [.int v0] σ (some (.int r)) τ := by
  intro σ v0 r τ hf
  unfold f12_isDigit at hf
  refine Call.of (by decide +kernel) rfl (Nat.le_of_ble_eq_true rfl) ?_
  refine ev_iload_n (j := 0) (i := 0) (q := 0) rfl rfl d12_isDigit_0 ?_
  refine ev_bipush cb_48 d12_isDigit_1 ?_
  rcases ite_some hf with ⟨c1, hf⟩ | ⟨c1, hf⟩
  · refine ev_icmp_lt_P (tgt := 16) c1 (by decide) d12_isDigit_3 ?_
    refine ev_iconst ci_0 d12_isDigit_16 ?_
    obtain ⟨rfl, rfl⟩ := ret_some hf
    exact ev_zret rfl (by decide) d12_isDigit_17
  · refine ev_icmp_lt_Q (tgt := 16) c1 (by decide) d12_isDigit_3 ?_
    refine ev_iload_n (j := 0) (i := 0) (q := 0) rfl rfl d12_isDigit_6 ?_
    refine ev_bipush cb_57 d12_isDigit_7 ?_
    rcases ite_some hf with ⟨c2, hf⟩ | ⟨c2, hf⟩
    · refine ev_icmp_gt_P (tgt := 16) c2 (by decide) d12_isDigit_9 ?_
      refine ev_iconst ci_1 d12_isDigit_12 ?_
      refine ev_goto (tgt := 17) (by decide) d12_isDigit_13 ?_
      obtain ⟨rfl, rfl⟩ := ret_some hf
      exact ev_zret rfl (by decide) d12_isDigit_17
    · refine ev_icmp_gt_Q (tgt := 16) c2 (by decide) d12_isDigit_9 ?_
      refine ev_iconst ci_0 d12_isDigit_16 ?_
      obtain ⟨rfl, rfl⟩ := ret_some hf
      exact ev_zret rfl (by decide) d12_isDigit_17
abbrev m12_next : MD := ("MillBoatsModel", ⟨"MillBoatsModel", "next", "()V"⟩, prog_14_method_38_code, 2, (none : Option Jvm.ClassFile.FieldType))
theorem k12_next : okY m12_next.2.1 0 := ⟨by decide +kernel, by decide +kernel, by decide +kernel⟩
def f12_next_p39 (K0 : St → Nat → Option (Unit × St)) (σ : St) (v0 : Nat) : Option (Unit × St) :=
  gd (ob σ v0 12) (
  lt (wI σ v0 36 ((sI σ v0 36) + (1 : Int32))) fun t11 => (
  K0 t11 v0))
set_option maxRecDepth 20000 in
theorem s12_next_p39 {K0 : St → Nat → Option (Unit × St)} (hK0 : ∀ (σ : St) (v0 : Nat) (r : Unit) (τ : St), K0 σ v0 = some (r, τ) → Ev 3 m12_next 0 [(0, .ref v0)] [] σ none τ) : ∀ (σ : St) (v0 : Nat) (r : Unit) (τ : St), f12_next_p39 K0 σ v0 = some (r, τ) → Ev 3 m12_next 39 [(0, .ref v0)] [] σ none τ := by
  intro σ v0 r τ hf
  unfold f12_next_p39 at hf
  refine ev_aload_n (j := 0) (i := 0) (q := 0) rfl rfl d12_next_39 ?_
  refine ev_dup rfl d12_next_40 ?_
  obtain ⟨h10, hf⟩ := gd_some hf
  refine ev_getI cls12 (j := 36) (by decide) rfl w1287 h10 d12_next_41 ?_
  refine ev_iconst ci_1 d12_next_44 ?_
  refine ev_iadd d12_next_45 ?_
  obtain ⟨t11, e12, hf⟩ := lt_some hf
  refine ev_putI cls12 (j := 36) (by decide) rfl rfl w1287 h10 (fun _ => ⟨rfl, rfl⟩) d12_next_46 (ev_nmS e12 ?_)
  refine ev_goto (tgt := 0) (by decide) d12_next_49 ?_
  exact Ev.sub [0] rfl (hK0 _ _ _ _ hf)
def f12_next_p259 (σ : St) (x0 : Int32) (x1 : Nat) : Option (Unit × St) :=
  gd (ob σ x1 12) (
  lt (wI σ x1 38 x0) fun t76 => (
  some ((), t76)))
set_option maxRecDepth 20000 in
theorem s12_next_p259 : ∀ (σ : St) (x0 : Int32) (x1 : Nat) (r : Unit) (τ : St), f12_next_p259 σ x0 x1 = some (r, τ) → Ev 3 m12_next 259 [] [.int x0, .ref x1] σ none τ := by
  intro σ x0 x1 r τ hf
  unfold f12_next_p259 at hf
  obtain ⟨h75, hf⟩ := gd_some hf
  obtain ⟨t76, e77, hf⟩ := lt_some hf
  refine ev_putI cls12 (j := 38) (by decide) rfl rfl w1289 h75 (fun _ => ⟨rfl, rfl⟩) d12_next_259 (ev_nmS e77 ?_)
  refine ev_goto (tgt := 270) (by decide) d12_next_262 ?_
  obtain ⟨-, rfl⟩ := ret_some hf
  exact ev_vret rfl d12_next_270
def f12_next_p227 (K177 : St → Nat → Option (Unit × St)) (σ : St) (v0 : Nat) : Option (Unit × St) :=
  gd (ob σ v0 12) (
  lt (wI σ v0 36 ((sI σ v0 36) + (1 : Int32))) fun t79 => (
  K177 t79 v0))
set_option maxRecDepth 20000 in
theorem s12_next_p227 {K177 : St → Nat → Option (Unit × St)} (hK177 : ∀ (σ : St) (v0 : Nat) (r : Unit) (τ : St), K177 σ v0 = some (r, τ) → Ev 3 m12_next 177 [(0, .ref v0)] [] σ none τ) : ∀ (σ : St) (v0 : Nat) (r : Unit) (τ : St), f12_next_p227 K177 σ v0 = some (r, τ) → Ev 3 m12_next 227 [(0, .ref v0)] [] σ none τ := by
  intro σ v0 r τ hf
  unfold f12_next_p227 at hf
  refine ev_aload_n (j := 0) (i := 0) (q := 0) rfl rfl d12_next_227 ?_
  refine ev_dup rfl d12_next_228 ?_
  obtain ⟨h78, hf⟩ := gd_some hf
  refine ev_getI cls12 (j := 36) (by decide) rfl w1287 h78 d12_next_229 ?_
  refine ev_iconst ci_1 d12_next_232 ?_
  refine ev_iadd d12_next_233 ?_
  obtain ⟨t79, e80, hf⟩ := lt_some hf
  refine ev_putI cls12 (j := 36) (by decide) rfl rfl w1287 h78 (fun _ => ⟨rfl, rfl⟩) d12_next_234 (ev_nmS e80 ?_)
  refine ev_goto (tgt := 177) (by decide) d12_next_237 ?_
  exact Ev.sub [0] rfl (hK177 _ _ _ _ hf)
def f12_next_p177 : Nat → St → Nat → Option (Unit × St)
  | 0, _, _ => none
  | n + 1, σ, v0 =>
  gd (ob σ v0 12) (
  bd (f12_see σ v0 (sI σ v0 36)) fun r45 t46 => (
  bd (f12_isDigit t46 r45) fun r49 t50 => (
  (if r49 = (0 : Int32) then
  (if ((sI t50 v0 36) - (sI t50 v0 37)) ≤ (4 : Int32) then
  f12_next_p259 t50 (2 : Int32) v0
  else
  f12_next_p259 t50 (1 : Int32) v0)
  else
  (if ((sI t50 v0 36) - (sI t50 v0 37)) < (4 : Int32) then
  bd (f12_see t50 v0 (sI t50 v0 36)) fun r56 t57 => (
  lt (wI t57 v0 39 ((((10 : Int32) * (sI t50 v0 39)) + r56) - (48 : Int32))) fun t60 => (
  f12_next_p227 (f12_next_p177 n) t60 v0))
  else
  f12_next_p227 (f12_next_p177 n) t50 v0)))))
set_option maxRecDepth 20000 in
theorem s12_next_p177 : ∀ (n : Nat) (σ : St) (v0 : Nat) (r : Unit) (τ : St), f12_next_p177 n σ v0 = some (r, τ) → Ev 3 m12_next 177 [(0, .ref v0)] [] σ none τ := by
  intro n
  induction n with
  | zero =>
    intro σ v0 r τ hf
    cases hf
  | succ n ih =>
    intro σ v0 r τ hf
    rw [f12_next_p177] at hf
    refine ev_aload_n (j := 0) (i := 0) (q := 0) rfl rfl d12_next_177 ?_
    refine ev_aload_n (j := 0) (i := 0) (q := 0) rfl rfl d12_next_178 ?_
    obtain ⟨h44, hf⟩ := gd_some hf
    refine ev_getI cls12 (j := 36) (by decide) rfl w1287 h44 d12_next_179 ?_
    obtain ⟨r45, t46, k47, hf⟩ := bd_some hf
    have q48 := s12_see _ _ _ _ _ k47
    refine ev_callV (vs := [.int (sI σ v0 36)]) (sk := []) cls12 h44 q48 (by decide) (Nat.le_of_ble_eq_true rfl) w1626 w1628 ws65 w19 w1629 k12_see rfl (Nat.le_of_ble_eq_true rfl) d12_next_182 ?_
    obtain ⟨r49, t50, k51, hf⟩ := bd_some hf
    have q52 := s12_isDigit _ _ _ _ k51
    refine ev_callS (vs := [.int r45]) (sk := []) q52 (by decide) (Nat.le_of_ble_eq_true rfl) w1630 w1631 w19 w1632 k12_isDigit rfl (Nat.le_of_ble_eq_true rfl) d12_next_185 ?_
    rcases ite_some hf with ⟨c53, hf⟩ | ⟨c53, hf⟩
    · refine ev_if_eq_P (tgt := 240) c53 (by decide) d12_next_188 ?_
      refine ev_aload_n (j := 0) (i := 0) (q := 0) rfl rfl d12_next_240 ?_
      refine ev_aload_n (j := 0) (i := 0) (q := 0) rfl rfl d12_next_241 ?_
      refine ev_getI cls12 (j := 36) (by decide) rfl w1287 (mono_ob q52.1 (mono_ob q48.1 h44)) d12_next_242 ?_
      refine ev_aload_n (j := 0) (i := 0) (q := 0) rfl rfl d12_next_245 ?_
      refine ev_getI cls12 (j := 37) (by decide) rfl w1288 (mono_ob q52.1 (mono_ob q48.1 h44)) d12_next_246 ?_
      refine ev_isub d12_next_249 ?_
      refine ev_iconst ci_4 d12_next_250 ?_
      rcases ite_some hf with ⟨c54, hf⟩ | ⟨c54, hf⟩
      · refine ev_icmp_le_P (tgt := 258) c54 (by decide) d12_next_251 ?_
        refine ev_iconst ci_2 d12_next_258 ?_
        exact Ev.sub [] rfl (s12_next_p259 _ _ _ _ _ hf)
      · refine ev_icmp_le_Q (tgt := 258) c54 (by decide) d12_next_251 ?_
        refine ev_iconst ci_1 d12_next_254 ?_
        refine ev_goto (tgt := 259) (by decide) d12_next_255 ?_
        exact Ev.sub [] rfl (s12_next_p259 _ _ _ _ _ hf)
    · refine ev_if_eq_Q (tgt := 240) c53 (by decide) d12_next_188 ?_
      refine ev_aload_n (j := 0) (i := 0) (q := 0) rfl rfl d12_next_191 ?_
      refine ev_getI cls12 (j := 36) (by decide) rfl w1287 (mono_ob q52.1 (mono_ob q48.1 h44)) d12_next_192 ?_
      refine ev_aload_n (j := 0) (i := 0) (q := 0) rfl rfl d12_next_195 ?_
      refine ev_getI cls12 (j := 37) (by decide) rfl w1288 (mono_ob q52.1 (mono_ob q48.1 h44)) d12_next_196 ?_
      refine ev_isub d12_next_199 ?_
      refine ev_iconst ci_4 d12_next_200 ?_
      rcases ite_some hf with ⟨c55, hf⟩ | ⟨c55, hf⟩
      · refine ev_icmp_ge_P (tgt := 227) c55 (by decide) d12_next_201 ?_
        refine ev_aload_n (j := 0) (i := 0) (q := 0) rfl rfl d12_next_204 ?_
        refine ev_bipush cb_10 d12_next_205 ?_
        refine ev_aload_n (j := 0) (i := 0) (q := 0) rfl rfl d12_next_207 ?_
        refine ev_getI cls12 (j := 39) (by decide) rfl w1290 (mono_ob q52.1 (mono_ob q48.1 h44)) d12_next_208 ?_
        refine ev_imul d12_next_211 ?_
        refine ev_aload_n (j := 0) (i := 0) (q := 0) rfl rfl d12_next_212 ?_
        refine ev_aload_n (j := 0) (i := 0) (q := 0) rfl rfl d12_next_213 ?_
        refine ev_getI cls12 (j := 36) (by decide) rfl w1287 (mono_ob q52.1 (mono_ob q48.1 h44)) d12_next_214 ?_
        obtain ⟨r56, t57, k58, hf⟩ := bd_some hf
        have q59 := s12_see _ _ _ _ _ k58
        refine ev_callV (vs := [.int (sI t50 v0 36)]) (sk := [.int ((10 : Int32) * (sI t50 v0 39)), .ref v0]) cls12 (mono_ob q52.1 (mono_ob q48.1 h44)) q59 (by decide) (Nat.le_of_ble_eq_true rfl) w1626 w1628 ws65 w19 w1629 k12_see rfl (Nat.le_of_ble_eq_true rfl) d12_next_217 ?_
        refine ev_iadd d12_next_220 ?_
        refine ev_bipush cb_48 d12_next_221 ?_
        refine ev_isub d12_next_223 ?_
        obtain ⟨t60, e61, hf⟩ := lt_some hf
        refine ev_putI cls12 (j := 39) (by decide) rfl rfl w1290 (mono_ob q59.1 (mono_ob q52.1 (mono_ob q48.1 h44))) (fun _ => ⟨rfl, rfl⟩) d12_next_224 (ev_nmS e61 ?_)
        exact Ev.sub [0] rfl (s12_next_p227 ih _ _ _ _ hf)
      · refine ev_icmp_ge_Q (tgt := 227) c55 (by decide) d12_next_201 ?_
        exact Ev.sub [0] rfl (s12_next_p227 ih _ _ _ _ hf)
def f12_next_p156 (σ : St) (x0 : Int32) (x1 : Nat) : Option (Unit × St) :=
  gd (ob σ x1 12) (
  lt (wI σ x1 38 x0) fun t82 => (
  some ((), t82)))
set_option maxRecDepth 20000 in
theorem s12_next_p156 : ∀ (σ : St) (x0 : Int32) (x1 : Nat) (r : Unit) (τ : St), f12_next_p156 σ x0 x1 = some (r, τ) → Ev 3 m12_next 156 [] [.int x0, .ref x1] σ none τ := by
  intro σ x0 x1 r τ hf
  unfold f12_next_p156 at hf
  obtain ⟨h81, hf⟩ := gd_some hf
  obtain ⟨t82, e83, hf⟩ := lt_some hf
  refine ev_putI cls12 (j := 38) (by decide) rfl rfl w1289 h81 (fun _ => ⟨rfl, rfl⟩) d12_next_156 (ev_nmS e83 ?_)
  refine ev_goto (tgt := 270) (by decide) d12_next_159 ?_
  obtain ⟨-, rfl⟩ := ret_some hf
  exact ev_vret rfl d12_next_270
def f12_next_p109 : Nat → St → Nat → Option (Unit × St)
  | 0, _, _ => none
  | n + 1, σ, v0 =>
  gd (ob σ v0 12) (
  bd (f12_see σ v0 (sI σ v0 36)) fun r63 t64 => (
  bd (f12_isSmall t64 r63) fun r67 t68 => (
  (if r67 = (0 : Int32) then
  (if ((sI t68 v0 36) - (sI t68 v0 37)) ≤ (8 : Int32) then
  f12_next_p156 t68 (3 : Int32) v0
  else
  f12_next_p156 t68 (1 : Int32) v0)
  else
  lt (wI t68 v0 36 ((sI t68 v0 36) + (1 : Int32))) fun t73 => (
  (f12_next_p109 n) t73 v0)))))
set_option maxRecDepth 20000 in
theorem s12_next_p109 : ∀ (n : Nat) (σ : St) (v0 : Nat) (r : Unit) (τ : St), f12_next_p109 n σ v0 = some (r, τ) → Ev 3 m12_next 109 [(0, .ref v0)] [] σ none τ := by
  intro n
  induction n with
  | zero =>
    intro σ v0 r τ hf
    cases hf
  | succ n ih =>
    intro σ v0 r τ hf
    rw [f12_next_p109] at hf
    refine ev_aload_n (j := 0) (i := 0) (q := 0) rfl rfl d12_next_109 ?_
    refine ev_aload_n (j := 0) (i := 0) (q := 0) rfl rfl d12_next_110 ?_
    obtain ⟨h62, hf⟩ := gd_some hf
    refine ev_getI cls12 (j := 36) (by decide) rfl w1287 h62 d12_next_111 ?_
    obtain ⟨r63, t64, k65, hf⟩ := bd_some hf
    have q66 := s12_see _ _ _ _ _ k65
    refine ev_callV (vs := [.int (sI σ v0 36)]) (sk := []) cls12 h62 q66 (by decide) (Nat.le_of_ble_eq_true rfl) w1626 w1628 ws65 w19 w1629 k12_see rfl (Nat.le_of_ble_eq_true rfl) d12_next_114 ?_
    obtain ⟨r67, t68, k69, hf⟩ := bd_some hf
    have q70 := s12_isSmall _ _ _ _ k69
    refine ev_callS (vs := [.int r63]) (sk := []) q70 (by decide) (Nat.le_of_ble_eq_true rfl) w1623 w1624 w19 w1625 k12_isSmall rfl (Nat.le_of_ble_eq_true rfl) d12_next_117 ?_
    rcases ite_some hf with ⟨c71, hf⟩ | ⟨c71, hf⟩
    · refine ev_if_eq_P (tgt := 136) c71 (by decide) d12_next_120 ?_
      refine ev_aload_n (j := 0) (i := 0) (q := 0) rfl rfl d12_next_136 ?_
      refine ev_aload_n (j := 0) (i := 0) (q := 0) rfl rfl d12_next_137 ?_
      refine ev_getI cls12 (j := 36) (by decide) rfl w1287 (mono_ob q70.1 (mono_ob q66.1 h62)) d12_next_138 ?_
      refine ev_aload_n (j := 0) (i := 0) (q := 0) rfl rfl d12_next_141 ?_
      refine ev_getI cls12 (j := 37) (by decide) rfl w1288 (mono_ob q70.1 (mono_ob q66.1 h62)) d12_next_142 ?_
      refine ev_isub d12_next_145 ?_
      refine ev_bipush cb_8 d12_next_146 ?_
      rcases ite_some hf with ⟨c72, hf⟩ | ⟨c72, hf⟩
      · refine ev_icmp_le_P (tgt := 155) c72 (by decide) d12_next_148 ?_
        refine ev_iconst ci_3 d12_next_155 ?_
        exact Ev.sub [] rfl (s12_next_p156 _ _ _ _ _ hf)
      · refine ev_icmp_le_Q (tgt := 155) c72 (by decide) d12_next_148 ?_
        refine ev_iconst ci_1 d12_next_151 ?_
        refine ev_goto (tgt := 156) (by decide) d12_next_152 ?_
        exact Ev.sub [] rfl (s12_next_p156 _ _ _ _ _ hf)
    · refine ev_if_eq_Q (tgt := 136) c71 (by decide) d12_next_120 ?_
      refine ev_aload_n (j := 0) (i := 0) (q := 0) rfl rfl d12_next_123 ?_
      refine ev_dup rfl d12_next_124 ?_
      refine ev_getI cls12 (j := 36) (by decide) rfl w1287 (mono_ob q70.1 (mono_ob q66.1 h62)) d12_next_125 ?_
      refine ev_iconst ci_1 d12_next_128 ?_
      refine ev_iadd d12_next_129 ?_
      obtain ⟨t73, e74, hf⟩ := lt_some hf
      refine ev_putI cls12 (j := 36) (by decide) rfl rfl w1287 (mono_ob q70.1 (mono_ob q66.1 h62)) (fun _ => ⟨rfl, rfl⟩) d12_next_130 (ev_nmS e74 ?_)
      refine ev_goto (tgt := 109) (by decide) d12_next_133 ?_
      exact Ev.sub [0] rfl (ih _ _ _ _ hf)
def f12_next_p52 (σ : St) (v0 : Nat) : Option (Unit × St) :=
  gd (ob σ v0 12) (
  lt (wI σ v0 37 (sI σ v0 36)) fun t14 => (
  (if (sI t14 v0 36) < (sI t14 v0 35) then
  lt (sR t14 v0 34) fun b17 => (
  gd (nz b17) (
  gd (ob t14 b17 13) (
  gd (inb t14 b17 (sI t14 v0 36)) (
  lt (sI t14 b17 (ix (sI t14 v0 36))) fun y22 => (
  lt (wI t14 v0 36 ((sI t14 v0 36) + (1 : Int32))) fun t24 => (
  lt (wI t24 v0 39 y22) fun t26 => (
  bd (f12_isSmall t26 y22) fun r28 t29 => (
  (if r28 = (0 : Int32) then
  bd (f12_isDigit t29 y22) fun r33 t34 => (
  (if r33 = (0 : Int32) then
  lt (wI t34 v0 38 (4 : Int32)) fun t38 => (
  some ((), t38))
  else
  lt (wI t34 v0 39 (y22 - (48 : Int32))) fun t40 => (
  f12_next_p177 FU t40 v0)))
  else
  f12_next_p109 FU t29 v0)))))))))
  else
  lt (wI t14 v0 38 (0 : Int32)) fun t42 => (
  some ((), t42)))))
set_option maxRecDepth 20000 in
theorem s12_next_p52 : ∀ (σ : St) (v0 : Nat) (r : Unit) (τ : St), f12_next_p52 σ v0 = some (r, τ) → Ev 3 m12_next 52 [(0, .ref v0)] [] σ none τ := by
  intro σ v0 r τ hf
  unfold f12_next_p52 at hf
  refine ev_aload_n (j := 0) (i := 0) (q := 0) rfl rfl d12_next_52 ?_
  refine ev_aload_n (j := 0) (i := 0) (q := 0) rfl rfl d12_next_53 ?_
  obtain ⟨h13, hf⟩ := gd_some hf
  refine ev_getI cls12 (j := 36) (by decide) rfl w1287 h13 d12_next_54 ?_
  obtain ⟨t14, e15, hf⟩ := lt_some hf
  refine ev_putI cls12 (j := 37) (by decide) rfl rfl w1288 h13 (fun _ => ⟨rfl, rfl⟩) d12_next_57 (ev_nmS e15 ?_)
  refine ev_aload_n (j := 0) (i := 0) (q := 0) rfl rfl d12_next_60 ?_
  refine ev_getI cls12 (j := 36) (by decide) rfl w1287 (mono_ob (mono_eI e15) h13) d12_next_61 ?_
  refine ev_aload_n (j := 0) (i := 0) (q := 0) rfl rfl d12_next_64 ?_
  refine ev_getI cls12 (j := 35) (by decide) rfl w1286 (mono_ob (mono_eI e15) h13) d12_next_65 ?_
  rcases ite_some hf with ⟨c16, hf⟩ | ⟨c16, hf⟩
  · refine ev_icmp_lt_P (tgt := 77) c16 (by decide) d12_next_68 ?_
    refine ev_aload_n (j := 0) (i := 0) (q := 0) rfl rfl d12_next_77 ?_
    obtain ⟨b17, e18, hf⟩ := lt_some hf
    obtain ⟨h19, hf⟩ := gd_some hf
    refine ev_getRb cls12 (j := 34) (by decide) rfl w1285 (mono_ob (mono_eI e15) h13) e18 (nz_ne h19) d12_next_78 ?_
    refine ev_aload_n (j := 0) (i := 0) (q := 0) rfl rfl d12_next_81 ?_
    refine ev_getI cls12 (j := 36) (by decide) rfl w1287 (mono_ob (mono_eI e15) h13) d12_next_82 ?_
    obtain ⟨h20, hf⟩ := gd_some hf
    obtain ⟨h21, hf⟩ := gd_some hf
    refine ev_bald h20 h21 d12_next_85 ?_
    obtain ⟨y22, e23, hf⟩ := lt_some hf
    refine ev_nmI e23 ?_
    refine ev_istore_n (lv2 := [(1, .int y22), (0, .ref v0)]) (j := 1) (i := 1) rfl (by decide) rfl d12_next_86 ?_
    refine ev_aload_n (j := 0) (i := 0) (q := 1) rfl rfl d12_next_87 ?_
    refine ev_dup rfl d12_next_88 ?_
    refine ev_getI cls12 (j := 36) (by decide) rfl w1287 (mono_ob (mono_eI e15) h13) d12_next_89 ?_
    refine ev_iconst ci_1 d12_next_92 ?_
    refine ev_iadd d12_next_93 ?_
    obtain ⟨t24, e25, hf⟩ := lt_some hf
    refine ev_putI cls12 (j := 36) (by decide) rfl rfl w1287 (mono_ob (mono_eI e15) h13) (fun _ => ⟨rfl, rfl⟩) d12_next_94 (ev_nmS e25 ?_)
    refine ev_aload_n (j := 0) (i := 0) (q := 1) rfl rfl d12_next_97 ?_
    refine ev_iload_n (j := 1) (i := 1) (q := 0) rfl rfl d12_next_98 ?_
    obtain ⟨t26, e27, hf⟩ := lt_some hf
    refine ev_putI cls12 (j := 39) (by decide) rfl rfl w1290 (mono_ob (mono_eI e25) (mono_ob (mono_eI e15) h13)) (fun _ => ⟨rfl, rfl⟩) d12_next_99 (ev_nmS e27 ?_)
    refine ev_iload_n (j := 1) (i := 1) (q := 0) rfl rfl d12_next_102 ?_
    obtain ⟨r28, t29, k30, hf⟩ := bd_some hf
    have q31 := s12_isSmall _ _ _ _ k30
    refine ev_callS (vs := [.int y22]) (sk := []) q31 (by decide) (Nat.le_of_ble_eq_true rfl) w1623 w1624 w19 w1625 k12_isSmall rfl (Nat.le_of_ble_eq_true rfl) d12_next_103 ?_
    rcases ite_some hf with ⟨c32, hf⟩ | ⟨c32, hf⟩
    · refine ev_if_eq_P (tgt := 162) c32 (by decide) d12_next_106 ?_
      refine ev_iload_n (j := 1) (i := 1) (q := 0) rfl rfl d12_next_162 ?_
      obtain ⟨r33, t34, k35, hf⟩ := bd_some hf
      have q36 := s12_isDigit _ _ _ _ k35
      refine ev_callS (vs := [.int y22]) (sk := []) q36 (by decide) (Nat.le_of_ble_eq_true rfl) w1630 w1631 w19 w1632 k12_isDigit rfl (Nat.le_of_ble_eq_true rfl) d12_next_163 ?_
      rcases ite_some hf with ⟨c37, hf⟩ | ⟨c37, hf⟩
      · refine ev_if_eq_P (tgt := 265) c37 (by decide) d12_next_166 ?_
        refine ev_aload_n (j := 0) (i := 0) (q := 1) rfl rfl d12_next_265 ?_
        refine ev_iconst ci_4 d12_next_266 ?_
        obtain ⟨t38, e39, hf⟩ := lt_some hf
        refine ev_putI cls12 (j := 38) (by decide) rfl rfl w1289 (mono_ob q36.1 (mono_ob q31.1 (mono_ob (mono_eI e27) (mono_ob (mono_eI e25) (mono_ob (mono_eI e15) h13))))) (fun _ => ⟨rfl, rfl⟩) d12_next_267 (ev_nmS e39 ?_)
        obtain ⟨-, rfl⟩ := ret_some hf
        exact ev_vret rfl d12_next_270
      · refine ev_if_eq_Q (tgt := 265) c37 (by decide) d12_next_166 ?_
        refine ev_aload_n (j := 0) (i := 0) (q := 1) rfl rfl d12_next_169 ?_
        refine ev_iload_n (j := 1) (i := 1) (q := 0) rfl rfl d12_next_170 ?_
        refine ev_bipush cb_48 d12_next_171 ?_
        refine ev_isub d12_next_173 ?_
        obtain ⟨t40, e41, hf⟩ := lt_some hf
        refine ev_putI cls12 (j := 39) (by decide) rfl rfl w1290 (mono_ob q36.1 (mono_ob q31.1 (mono_ob (mono_eI e27) (mono_ob (mono_eI e25) (mono_ob (mono_eI e15) h13))))) (fun _ => ⟨rfl, rfl⟩) d12_next_174 (ev_nmS e41 ?_)
        exact Ev.sub [1] rfl (s12_next_p177 FU _ _ _ _ hf)
    · refine ev_if_eq_Q (tgt := 162) c32 (by decide) d12_next_106 ?_
      exact Ev.sub [1] rfl (s12_next_p109 FU _ _ _ _ hf)
  · refine ev_icmp_lt_Q (tgt := 77) c16 (by decide) d12_next_68 ?_
    refine ev_aload_n (j := 0) (i := 0) (q := 0) rfl rfl d12_next_71 ?_
    refine ev_iconst ci_0 d12_next_72 ?_
    obtain ⟨t42, e43, hf⟩ := lt_some hf
    refine ev_putI cls12 (j := 38) (by decide) rfl rfl w1289 (mono_ob (mono_eI e15) h13) (fun _ => ⟨rfl, rfl⟩) d12_next_73 (ev_nmS e43 ?_)
    obtain ⟨-, rfl⟩ := ret_some hf
    exact ev_vret rfl d12_next_76
def f12_next_p0 : Nat → St → Nat → Option (Unit × St)
  | 0, _, _ => none
  | n + 1, σ, v0 =>
  gd (ob σ v0 12) (
  (if (sI σ v0 36) < (sI σ v0 35) then
  lt (sR σ v0 34) fun b3 => (
  gd (nz b3) (
  gd (ob σ b3 13) (
  gd (inb σ b3 (sI σ v0 36)) (
  (if (sI σ b3 (ix (sI σ v0 36))) = (32 : Int32) then
  f12_next_p39 (f12_next_p0 n) σ v0
  else
  (if (sI σ b3 (ix (sI σ v0 36))) = (10 : Int32) then
  f12_next_p39 (f12_next_p0 n) σ v0
  else
  f12_next_p52 σ v0))))))
  else
  f12_next_p52 σ v0))
set_option maxRecDepth 20000 in
theorem s12_next_p0 : ∀ (n : Nat) (σ : St) (v0 : Nat) (r : Unit) (τ : St), f12_next_p0 n σ v0 = some (r, τ) → Ev 3 m12_next 0 [(0, .ref v0)] [] σ none τ := by
  intro n
  induction n with
  | zero =>
    intro σ v0 r τ hf
    cases hf
  | succ n ih =>
    intro σ v0 r τ hf
    rw [f12_next_p0] at hf
    refine ev_aload_n (j := 0) (i := 0) (q := 0) rfl rfl d12_next_0 ?_
    obtain ⟨h1, hf⟩ := gd_some hf
    refine ev_getI cls12 (j := 36) (by decide) rfl w1287 h1 d12_next_1 ?_
    refine ev_aload_n (j := 0) (i := 0) (q := 0) rfl rfl d12_next_4 ?_
    refine ev_getI cls12 (j := 35) (by decide) rfl w1286 h1 d12_next_5 ?_
    rcases ite_some hf with ⟨c2, hf⟩ | ⟨c2, hf⟩
    · refine ev_icmp_ge_P (tgt := 52) c2 (by decide) d12_next_8 ?_
      refine ev_aload_n (j := 0) (i := 0) (q := 0) rfl rfl d12_next_11 ?_
      obtain ⟨b3, e4, hf⟩ := lt_some hf
      obtain ⟨h5, hf⟩ := gd_some hf
      refine ev_getRb cls12 (j := 34) (by decide) rfl w1285 h1 e4 (nz_ne h5) d12_next_12 ?_
      refine ev_aload_n (j := 0) (i := 0) (q := 0) rfl rfl d12_next_15 ?_
      refine ev_getI cls12 (j := 36) (by decide) rfl w1287 h1 d12_next_16 ?_
      obtain ⟨h6, hf⟩ := gd_some hf
      obtain ⟨h7, hf⟩ := gd_some hf
      refine ev_bald h6 h7 d12_next_19 ?_
      refine ev_bipush cb_32 d12_next_20 ?_
      rcases ite_some hf with ⟨c8, hf⟩ | ⟨c8, hf⟩
      · refine ev_icmp_eq_P (tgt := 39) c8 (by decide) d12_next_22 ?_
        exact Ev.sub [0] rfl (s12_next_p39 ih _ _ _ _ hf)
      · refine ev_icmp_eq_Q (tgt := 39) c8 (by decide) d12_next_22 ?_
        refine ev_aload_n (j := 0) (i := 0) (q := 0) rfl rfl d12_next_25 ?_
        refine ev_getRb cls12 (j := 34) (by decide) rfl w1285 h1 e4 (nz_ne h5) d12_next_26 ?_
        refine ev_aload_n (j := 0) (i := 0) (q := 0) rfl rfl d12_next_29 ?_
        refine ev_getI cls12 (j := 36) (by decide) rfl w1287 h1 d12_next_30 ?_
        refine ev_bald h6 h7 d12_next_33 ?_
        refine ev_bipush cb_10 d12_next_34 ?_
        rcases ite_some hf with ⟨c9, hf⟩ | ⟨c9, hf⟩
        · refine ev_icmp_ne_P (tgt := 52) c9 (by decide) d12_next_36 ?_
          exact Ev.sub [0] rfl (s12_next_p39 ih _ _ _ _ hf)
        · refine ev_icmp_ne_Q (tgt := 52) c9 (by decide) d12_next_36 ?_
          exact Ev.sub [0] rfl (s12_next_p52 _ _ _ _ hf)
    · refine ev_icmp_ge_Q (tgt := 52) c2 (by decide) d12_next_8 ?_
      exact Ev.sub [0] rfl (s12_next_p52 _ _ _ _ hf)
def f12_next (σ : St) (v0 : Nat) : Option (Unit × St) :=
  f12_next_p0 FU σ v0
set_option maxRecDepth 50000 in
theorem s12_next : ∀ (σ : St) (v0 : Nat) (r : Unit) (τ : St), f12_next σ v0 = some (r, τ) → Call 3 m12_next [.ref v0] σ none τ := by
  intro σ v0 r τ hf
  unfold f12_next at hf
  refine Call.of (by decide +kernel) rfl (Nat.le_of_ble_eq_true rfl) ?_
  exact Ev.sub [0] rfl (s12_next_p0 FU _ _ _ _ hf)
abbrev m12_isWord : MD := ("MillBoatsModel", ⟨"MillBoatsModel", "isWord", "(Ljava/lang/String;)Z"⟩, prog_14_method_39_code, 3, (some Jvm.ClassFile.FieldType.boolean))
theorem k12_isWord : okY m12_isWord.2.1 1 := ⟨by decide +kernel, by decide +kernel, by decide +kernel⟩
def f12_isWord_p28 : Nat → St → Nat → Nat → Int32 → Option (Int32 × St)
  | 0, _, _, _, _ => none
  | n + 1, σ, v0, v1, v2 =>
  gd (decide (v1 < 22)) (
  (if v2 < (Int32.ofNat (lenS.getD v1 0)) then
  gd (ob σ v0 12) (
  lt (sR σ v0 34) fun b8 => (
  gd (nz b8) (
  gd (ob σ b8 13) (
  gd (inb σ b8 ((sI σ v0 37) + v2)) (
  gd (decide (v1 < 22)) (
  gd (chOk v1 v2) (
  (if (sI σ b8 (ix ((sI σ v0 37) + v2))) = (strCh v1 (ix v2)) then
  lt (v2 + (1 : Int32)) fun y16 => (
  (f12_isWord_p28 n) σ v0 v1 y16)
  else
  some ((0 : Int32), σ)))))))))
  else
  some ((1 : Int32), σ)))
set_option maxRecDepth 20000 in
theorem s12_isWord_p28 : ∀ (n : Nat) (σ : St) (v0 : Nat) (v1 : Nat) (v2 : Int32) (r : Int32) (τ : St), f12_isWord_p28 n σ v0 v1 v2 = some (r, τ) → Ev 8 m12_isWord 28 [(0, .ref v0), (1, .ref (STR + v1)), (2, .int v2)] [] σ (some (.int r)) τ := by
  intro n
  induction n with
  | zero =>
    intro σ v0 v1 v2 r τ hf
    cases hf
  | succ n ih =>
    intro σ v0 v1 v2 r τ hf
    rw [f12_isWord_p28] at hf
    refine ev_iload_n (j := 2) (i := 2) (q := 2) rfl rfl d12_isWord_28 ?_
    refine ev_aload_n (j := 1) (i := 1) (q := 1) rfl rfl d12_isWord_29 ?_
    obtain ⟨h5, hf⟩ := gd_some hf
    refine ev_strlen (of_decide_eq_true h5) w1646 (by decide) (Nat.le_of_ble_eq_true rfl) d12_isWord_30 ?_
    rcases ite_some hf with ⟨c6, hf⟩ | ⟨c6, hf⟩
    · refine ev_icmp_ge_P (tgt := 63) c6 (by decide) d12_isWord_33 ?_
      refine ev_aload_n (j := 0) (i := 0) (q := 0) rfl rfl d12_isWord_36 ?_
      obtain ⟨h7, hf⟩ := gd_some hf
      obtain ⟨b8, e9, hf⟩ := lt_some hf
      obtain ⟨h10, hf⟩ := gd_some hf
      refine ev_getRb cls12 (j := 34) (by decide) rfl w1285 h7 e9 (nz_ne h10) d12_isWord_37 ?_
      refine ev_aload_n (j := 0) (i := 0) (q := 0) rfl rfl d12_isWord_40 ?_
      refine ev_getI cls12 (j := 37) (by decide) rfl w1288 h7 d12_isWord_41 ?_
      refine ev_iload_n (j := 2) (i := 2) (q := 2) rfl rfl d12_isWord_44 ?_
      refine ev_iadd d12_isWord_45 ?_
      obtain ⟨h11, hf⟩ := gd_some hf
      obtain ⟨h12, hf⟩ := gd_some hf
      refine ev_bald h11 h12 d12_isWord_46 ?_
      refine ev_aload_n (j := 1) (i := 1) (q := 1) rfl rfl d12_isWord_47 ?_
      refine ev_iload_n (j := 2) (i := 2) (q := 2) rfl rfl d12_isWord_48 ?_
      obtain ⟨h13, hf⟩ := gd_some hf
      obtain ⟨h14, hf⟩ := gd_some hf
      refine ev_strchar (of_decide_eq_true h13) h14 w1647 (by decide) (Nat.le_of_ble_eq_true rfl) d12_isWord_49 ?_
      rcases ite_some hf with ⟨c15, hf⟩ | ⟨c15, hf⟩
      · refine ev_icmp_eq_P (tgt := 57) c15 (by decide) d12_isWord_52 ?_
        obtain ⟨y16, e17, hf⟩ := lt_some hf
        refine ev_iinc (lv2 := [(2, .int y16), (0, .ref v0), (1, .ref (STR + v1))]) (i := 2) (q := 2) (v := y16) (n := 1) rfl (by rw [ci_1]; exact e17.symm) (by decide) rfl d12_isWord_57 ?_
        refine ev_goto (tgt := 28) (by decide) d12_isWord_60 ?_
        exact Ev.sub [1, 2, 0] rfl (ih _ _ _ _ _ _ hf)
      · refine ev_icmp_eq_Q (tgt := 57) c15 (by decide) d12_isWord_52 ?_
        refine ev_iconst ci_0 d12_isWord_55 ?_
        obtain ⟨rfl, rfl⟩ := ret_some hf
        exact ev_zret rfl (by decide) d12_isWord_56
    · refine ev_icmp_ge_Q (tgt := 63) c6 (by decide) d12_isWord_33 ?_
      refine ev_iconst ci_1 d12_isWord_63 ?_
      obtain ⟨rfl, rfl⟩ := ret_some hf
      exact ev_zret rfl (by decide) d12_isWord_64
def f12_isWord (σ : St) (v0 : Nat) (v1 : Nat) : Option (Int32 × St) :=
  gd (ob σ v0 12) (
  (if (sI σ v0 38) = (3 : Int32) then
  gd (decide (v1 < 22)) (
  (if ((sI σ v0 36) - (sI σ v0 37)) = (Int32.ofNat (lenS.getD v1 0)) then
  f12_isWord_p28 FU σ v0 v1 (0 : Int32)
  else
  some ((0 : Int32), σ)))
  else
  some ((0 : Int32), σ)))
set_option maxRecDepth 50000 in
theorem s12_isWord : ∀ (σ : St) (v0 : Nat) (v1 : Nat) (r : Int32) (τ : St), f12_isWord σ v0 v1 = some (r, τ) → Call 8 m12_isWord [.ref v0, .ref (STR + v1)] σ (some (.int r)) τ := by
  intro σ v0 v1 r τ hf
  unfold f12_isWord at hf
  refine Call.of (by decide +kernel) rfl (Nat.le_of_ble_eq_true rfl) ?_
  refine ev_aload_n (j := 0) (i := 0) (q := 0) rfl rfl d12_isWord_0 ?_
  obtain ⟨h1, hf⟩ := gd_some hf
  refine ev_getI cls12 (j := 38) (by decide) rfl w1289 h1 d12_isWord_1 ?_
  refine ev_iconst ci_3 d12_isWord_4 ?_
  rcases ite_some hf with ⟨c2, hf⟩ | ⟨c2, hf⟩
  · refine ev_icmp_ne_P (tgt := 24) c2 (by decide) d12_isWord_5 ?_
    refine ev_aload_n (j := 0) (i := 0) (q := 0) rfl rfl d12_isWord_8 ?_
    refine ev_getI cls12 (j := 36) (by decide) rfl w1287 h1 d12_isWord_9 ?_
    refine ev_aload_n (j := 0) (i := 0) (q := 0) rfl rfl d12_isWord_12 ?_
    refine ev_getI cls12 (j := 37) (by decide) rfl w1288 h1 d12_isWord_13 ?_
    refine ev_isub d12_isWord_16 ?_
    refine ev_aload_n (j := 1) (i := 1) (q := 1) rfl rfl d12_isWord_17 ?_
    obtain ⟨h3, hf⟩ := gd_some hf
    refine ev_strlen (of_decide_eq_true h3) w1646 (by decide) (Nat.le_of_ble_eq_true rfl) d12_isWord_18 ?_
    rcases ite_some hf with ⟨c4, hf⟩ | ⟨c4, hf⟩
    · refine ev_icmp_eq_P (tgt := 26) c4 (by decide) d12_isWord_21 ?_
      refine ev_iconst ci_0 d12_isWord_26 ?_
      refine ev_istore_n (lv2 := [(2, .int (0 : Int32)), (0, .ref v0), (1, .ref (STR + v1))]) (j := 2) (i := 2) rfl (by decide) rfl d12_isWord_27 ?_
      exact Ev.sub [1, 2, 0] rfl (s12_isWord_p28 FU _ _ _ _ _ _ hf)
    · refine ev_icmp_eq_Q (tgt := 26) c4 (by decide) d12_isWord_21 ?_
      refine ev_iconst ci_0 d12_isWord_24 ?_
      obtain ⟨rfl, rfl⟩ := ret_some hf
      exact ev_zret rfl (by decide) d12_isWord_25
  · refine ev_icmp_ne_Q (tgt := 24) c2 (by decide) d12_isWord_5 ?_
    refine ev_iconst ci_0 d12_isWord_24 ?_
    obtain ⟨rfl, rfl⟩ := ret_some hf
    exact ev_zret rfl (by decide) d12_isWord_25
abbrev m12_isSign : MD := ("MillBoatsModel", ⟨"MillBoatsModel", "isSign", "(I)Z"⟩, prog_14_method_40_code, 2, (some Jvm.ClassFile.FieldType.boolean))
theorem k12_isSign : okY m12_isSign.2.1 1 := ⟨by decide +kernel, by decide +kernel, by decide +kernel⟩
def f12_isSign (σ : St) (v0 : Nat) (v1 : Int32) : Option (Int32 × St) :=
  gd (ob σ v0 12) (
  (if (sI σ v0 38) = (4 : Int32) then
  (if (sI σ v0 39) = v1 then
  some ((1 : Int32), σ)
  else
  some ((0 : Int32), σ))
  else
  some ((0 : Int32), σ)))
set_option maxRecDepth 50000 in
theorem s12_isSign : ∀ (σ : St) (v0 : Nat) (v1 : Int32) (r : Int32) (τ : St), f12_isSign σ v0 v1 = some (r, τ) → Call 2 m12_isSign [.ref v0, .int v1] σ (some (.int r)) τ := by
  intro σ v0 v1 r τ hf
  unfold f12_isSign at hf
  refine Call.of (by decide +kernel) rfl (Nat.le_of_ble_eq_true rfl) ?_
  refine ev_aload_n (j := 0) (i := 0) (q := 0) rfl rfl d12_isSign_0 ?_
  obtain ⟨h1, hf⟩ := gd_some hf
  refine ev_getI cls12 (j := 38) (by decide) rfl w1289 h1 d12_isSign_1 ?_
  refine ev_iconst ci_4 d12_isSign_4 ?_
  rcases ite_some hf with ⟨c2, hf⟩ | ⟨c2, hf⟩
  · refine ev_icmp_ne_P (tgt := 20) c2 (by decide) d12_isSign_5 ?_
    refine ev_aload_n (j := 0) (i := 0) (q := 0) rfl rfl d12_isSign_8 ?_
    refine ev_getI cls12 (j := 39) (by decide) rfl w1290 h1 d12_isSign_9 ?_
    refine ev_iload_n (j := 1) (i := 1) (q := 1) rfl rfl d12_isSign_12 ?_
    rcases ite_some hf with ⟨c3, hf⟩ | ⟨c3, hf⟩
    · refine ev_icmp_ne_P (tgt := 20) c3 (by decide) d12_isSign_13 ?_
      refine ev_iconst ci_1 d12_isSign_16 ?_
      refine ev_goto (tgt := 21) (by decide) d12_isSign_17 ?_
      obtain ⟨rfl, rfl⟩ := ret_some hf
      exact ev_zret rfl (by decide) d12_isSign_21
    · refine ev_icmp_ne_Q (tgt := 20) c3 (by decide) d12_isSign_13 ?_
      refine ev_iconst ci_0 d12_isSign_20 ?_
      obtain ⟨rfl, rfl⟩ := ret_some hf
      exact ev_zret rfl (by decide) d12_isSign_21
  · refine ev_icmp_ne_Q (tgt := 20) c2 (by decide) d12_isSign_5 ?_
    refine ev_iconst ci_0 d12_isSign_20 ?_
    obtain ⟨rfl, rfl⟩ := ret_some hf
    exact ev_zret rfl (by decide) d12_isSign_21
abbrev m12_fails : MD := ("MillBoatsModel", ⟨"MillBoatsModel", "fails", "(I)V"⟩, prog_14_method_41_code, 2, (none : Option Jvm.ClassFile.FieldType))
theorem k12_fails : okY m12_fails.2.1 1 := ⟨by decide +kernel, by decide +kernel, by decide +kernel⟩
def f12_fails (σ : St) (v0 : Nat) (v1 : Int32) : Option (Unit × St) :=
  gd (ob σ v0 12) (
  (if (sI σ v0 40) = (0 : Int32) then
  lt (wI σ v0 40 v1) fun t3 => (
  lt (wI t3 v0 41 (sI t3 v0 37)) fun t5 => (
  some ((), t5)))
  else
  some ((), σ)))
set_option maxRecDepth 50000 in
theorem s12_fails : ∀ (σ : St) (v0 : Nat) (v1 : Int32) (r : Unit) (τ : St), f12_fails σ v0 v1 = some (r, τ) → Call 2 m12_fails [.ref v0, .int v1] σ none τ := by
  intro σ v0 v1 r τ hf
  unfold f12_fails at hf
  refine Call.of (by decide +kernel) rfl (Nat.le_of_ble_eq_true rfl) ?_
  refine ev_aload_n (j := 0) (i := 0) (q := 0) rfl rfl d12_fails_0 ?_
  obtain ⟨h1, hf⟩ := gd_some hf
  refine ev_getI cls12 (j := 40) (by decide) rfl w1291 h1 d12_fails_1 ?_
  rcases ite_some hf with ⟨c2, hf⟩ | ⟨c2, hf⟩
  · refine ev_if_eq_P (tgt := 8) c2 (by decide) d12_fails_4 ?_
    refine ev_aload_n (j := 0) (i := 0) (q := 0) rfl rfl d12_fails_8 ?_
    refine ev_iload_n (j := 1) (i := 1) (q := 1) rfl rfl d12_fails_9 ?_
    obtain ⟨t3, e4, hf⟩ := lt_some hf
    refine ev_putI cls12 (j := 40) (by decide) rfl rfl w1291 h1 (fun _ => ⟨rfl, rfl⟩) d12_fails_10 (ev_nmS e4 ?_)
    refine ev_aload_n (j := 0) (i := 0) (q := 0) rfl rfl d12_fails_13 ?_
    refine ev_aload_n (j := 0) (i := 0) (q := 0) rfl rfl d12_fails_14 ?_
    refine ev_getI cls12 (j := 37) (by decide) rfl w1288 (mono_ob (mono_eI e4) h1) d12_fails_15 ?_
    obtain ⟨t5, e6, hf⟩ := lt_some hf
    refine ev_putI cls12 (j := 41) (by decide) rfl rfl w1292 (mono_ob (mono_eI e4) h1) (fun _ => ⟨rfl, rfl⟩) d12_fails_18 (ev_nmS e6 ?_)
    obtain ⟨-, rfl⟩ := ret_some hf
    exact ev_vret rfl d12_fails_21
  · refine ev_if_eq_Q (tgt := 8) c2 (by decide) d12_fails_4 ?_
    obtain ⟨-, rfl⟩ := ret_some hf
    exact ev_vret rfl d12_fails_7
abbrev m12_isWell : MD := ("MillBoatsModel", ⟨"MillBoatsModel", "isWell", "()Z"⟩, prog_14_method_42_code, 1, (some Jvm.ClassFile.FieldType.boolean))
theorem k12_isWell : okY m12_isWell.2.1 0 := ⟨by decide +kernel, by decide +kernel, by decide +kernel⟩
def f12_isWell (σ : St) (v0 : Nat) : Option (Int32 × St) :=
  gd (ob σ v0 12) (
  (if (sI σ v0 40) = (0 : Int32) then
  some ((1 : Int32), σ)
  else
  some ((0 : Int32), σ)))
set_option maxRecDepth 50000 in
theorem s12_isWell : ∀ (σ : St) (v0 : Nat) (r : Int32) (τ : St), f12_isWell σ v0 = some (r, τ) → Call 2 m12_isWell [.ref v0] σ (some (.int r)) τ := by
  intro σ v0 r τ hf
  unfold f12_isWell at hf
  refine Call.of (by decide +kernel) rfl (Nat.le_of_ble_eq_true rfl) ?_
  refine ev_aload_n (j := 0) (i := 0) (q := 0) rfl rfl d12_isWell_0 ?_
  obtain ⟨h1, hf⟩ := gd_some hf
  refine ev_getI cls12 (j := 40) (by decide) rfl w1291 h1 d12_isWell_1 ?_
  rcases ite_some hf with ⟨c2, hf⟩ | ⟨c2, hf⟩
  · refine ev_if_ne_P (tgt := 11) c2 (by decide) d12_isWell_4 ?_
    refine ev_iconst ci_1 d12_isWell_7 ?_
    refine ev_goto (tgt := 12) (by decide) d12_isWell_8 ?_
    obtain ⟨rfl, rfl⟩ := ret_some hf
    exact ev_zret rfl (by decide) d12_isWell_12
  · refine ev_if_ne_Q (tgt := 11) c2 (by decide) d12_isWell_4 ?_
    refine ev_iconst ci_0 d12_isWell_11 ?_
    obtain ⟨rfl, rfl⟩ := ret_some hf
    exact ev_zret rfl (by decide) d12_isWell_12
abbrev m12_wantSign : MD := ("MillBoatsModel", ⟨"MillBoatsModel", "wantSign", "(I)V"⟩, prog_14_method_43_code, 2, (none : Option Jvm.ClassFile.FieldType))
theorem k12_wantSign : okY m12_wantSign.2.1 1 := ⟨by decide +kernel, by decide +kernel, by decide +kernel⟩
def f12_wantSign (σ : St) (v0 : Nat) (v1 : Int32) : Option (Unit × St) :=
  gd (ob σ v0 12) (
  bd (f12_isWell σ v0) fun r2 t3 => (
  (if r2 = (0 : Int32) then
  some ((), t3)
  else
  bd (f12_isSign t3 v0 v1) fun r7 t8 => (
  (if r7 = (0 : Int32) then
  bd (f12_fails t8 v0 (1 : Int32)) fun r12 t13 => (
  some ((), t13))
  else
  bd (f12_next t8 v0) fun r16 t17 => (
  some ((), t17)))))))
set_option maxRecDepth 50000 in
theorem s12_wantSign : ∀ (σ : St) (v0 : Nat) (v1 : Int32) (r : Unit) (τ : St), f12_wantSign σ v0 v1 = some (r, τ) → Call 4 m12_wantSign [.ref v0, .int v1] σ none τ := by
  intro σ v0 v1 r τ hf
  unfold f12_wantSign at hf
  refine Call.of (by decide +kernel) rfl (Nat.le_of_ble_eq_true rfl) ?_
  refine ev_aload_n (j := 0) (i := 0) (q := 0) rfl rfl d12_wantSign_0 ?_
  obtain ⟨h1, hf⟩ := gd_some hf
  obtain ⟨r2, t3, k4, hf⟩ := bd_some hf
  have q5 := s12_isWell _ _ _ _ k4
  refine ev_callV (vs := []) (sk := []) cls12 h1 q5 (by decide) (Nat.le_of_ble_eq_true rfl) w1633 w1635 ws66 w19 w1636 k12_isWell rfl (Nat.le_of_ble_eq_true rfl) d12_wantSign_1 ?_
  rcases ite_some hf with ⟨c6, hf⟩ | ⟨c6, hf⟩
  · refine ev_if_ne_P (tgt := 8) c6 (by decide) d12_wantSign_4 ?_
    obtain ⟨-, rfl⟩ := ret_some hf
    exact ev_vret rfl d12_wantSign_7
  · refine ev_if_ne_Q (tgt := 8) c6 (by decide) d12_wantSign_4 ?_
    refine ev_aload_n (j := 0) (i := 0) (q := 0) rfl rfl d12_wantSign_8 ?_
    refine ev_iload_n (j := 1) (i := 1) (q := 1) rfl rfl d12_wantSign_9 ?_
    obtain ⟨r7, t8, k9, hf⟩ := bd_some hf
    have q10 := s12_isSign _ _ _ _ _ k9
    refine ev_callV (vs := [.int v1]) (sk := []) cls12 (mono_ob q5.1 h1) q10 (by decide) (Nat.le_of_ble_eq_true rfl) w1686 w1688 ws74 w19 w1689 k12_isSign rfl (Nat.le_of_ble_eq_true rfl) d12_wantSign_10 ?_
    rcases ite_some hf with ⟨c11, hf⟩ | ⟨c11, hf⟩
    · refine ev_if_eq_P (tgt := 23) c11 (by decide) d12_wantSign_13 ?_
      refine ev_aload_n (j := 0) (i := 0) (q := 0) rfl rfl d12_wantSign_23 ?_
      refine ev_iconst ci_1 d12_wantSign_24 ?_
      obtain ⟨r12, t13, k14, hf⟩ := bd_some hf
      have q15 := s12_fails _ _ _ _ _ k14
      refine ev_callV (vs := [.int (1 : Int32)]) (sk := []) cls12 (mono_ob q10.1 (mono_ob q5.1 h1)) q15 (by decide) (Nat.le_of_ble_eq_true rfl) w1652 w1654 ws69 w19 w1655 k12_fails rfl (Nat.le_of_ble_eq_true rfl) d12_wantSign_25 ?_
      obtain ⟨-, rfl⟩ := ret_some hf
      exact ev_vret rfl d12_wantSign_28
    · refine ev_if_eq_Q (tgt := 23) c11 (by decide) d12_wantSign_13 ?_
      refine ev_aload_n (j := 0) (i := 0) (q := 0) rfl rfl d12_wantSign_16 ?_
      obtain ⟨r16, t17, k18, hf⟩ := bd_some hf
      have q19 := s12_next _ _ _ _ k18
      refine ev_callV (vs := []) (sk := []) cls12 (mono_ob q10.1 (mono_ob q5.1 h1)) q19 (by decide) (Nat.le_of_ble_eq_true rfl) w1619 w1621 ws64 w19 w1622 k12_next rfl (Nat.le_of_ble_eq_true rfl) d12_wantSign_17 ?_
      refine ev_goto (tgt := 28) (by decide) d12_wantSign_20 ?_
      obtain ⟨-, rfl⟩ := ret_some hf
      exact ev_vret rfl d12_wantSign_28
abbrev m12_wantWord : MD := ("MillBoatsModel", ⟨"MillBoatsModel", "wantWord", "(Ljava/lang/String;)V"⟩, prog_14_method_44_code, 2, (none : Option Jvm.ClassFile.FieldType))
theorem k12_wantWord : okY m12_wantWord.2.1 1 := ⟨by decide +kernel, by decide +kernel, by decide +kernel⟩
def f12_wantWord (σ : St) (v0 : Nat) (v1 : Nat) : Option (Unit × St) :=
  gd (ob σ v0 12) (
  bd (f12_isWell σ v0) fun r2 t3 => (
  (if r2 = (0 : Int32) then
  some ((), t3)
  else
  bd (f12_isWord t3 v0 v1) fun r7 t8 => (
  (if r7 = (0 : Int32) then
  bd (f12_fails t8 v0 (1 : Int32)) fun r12 t13 => (
  some ((), t13))
  else
  bd (f12_next t8 v0) fun r16 t17 => (
  some ((), t17)))))))
set_option maxRecDepth 50000 in
theorem s12_wantWord : ∀ (σ : St) (v0 : Nat) (v1 : Nat) (r : Unit) (τ : St), f12_wantWord σ v0 v1 = some (r, τ) → Call 9 m12_wantWord [.ref v0, .ref (STR + v1)] σ none τ := by
  intro σ v0 v1 r τ hf
  unfold f12_wantWord at hf
  refine Call.of (by decide +kernel) rfl (Nat.le_of_ble_eq_true rfl) ?_
  refine ev_aload_n (j := 0) (i := 0) (q := 0) rfl rfl d12_wantWord_0 ?_
  obtain ⟨h1, hf⟩ := gd_some hf
  obtain ⟨r2, t3, k4, hf⟩ := bd_some hf
  have q5 := s12_isWell _ _ _ _ k4
  refine ev_callV (vs := []) (sk := []) cls12 h1 q5 (by decide) (Nat.le_of_ble_eq_true rfl) w1633 w1635 ws66 w19 w1636 k12_isWell rfl (Nat.le_of_ble_eq_true rfl) d12_wantWord_1 ?_
  rcases ite_some hf with ⟨c6, hf⟩ | ⟨c6, hf⟩
  · refine ev_if_ne_P (tgt := 8) c6 (by decide) d12_wantWord_4 ?_
    obtain ⟨-, rfl⟩ := ret_some hf
    exact ev_vret rfl d12_wantWord_7
  · refine ev_if_ne_Q (tgt := 8) c6 (by decide) d12_wantWord_4 ?_
    refine ev_aload_n (j := 0) (i := 0) (q := 0) rfl rfl d12_wantWord_8 ?_
    refine ev_aload_n (j := 1) (i := 1) (q := 1) rfl rfl d12_wantWord_9 ?_
    obtain ⟨r7, t8, k9, hf⟩ := bd_some hf
    have q10 := s12_isWord _ _ _ _ _ k9
    refine ev_callV (vs := [.ref (STR + v1)]) (sk := []) cls12 (mono_ob q5.1 h1) q10 (by decide) (Nat.le_of_ble_eq_true rfl) w1642 w1644 ws68 w19 w1645 k12_isWord rfl (Nat.le_of_ble_eq_true rfl) d12_wantWord_10 ?_
    rcases ite_some hf with ⟨c11, hf⟩ | ⟨c11, hf⟩
    · refine ev_if_eq_P (tgt := 23) c11 (by decide) d12_wantWord_13 ?_
      refine ev_aload_n (j := 0) (i := 0) (q := 0) rfl rfl d12_wantWord_23 ?_
      refine ev_iconst ci_1 d12_wantWord_24 ?_
      obtain ⟨r12, t13, k14, hf⟩ := bd_some hf
      have q15 := s12_fails _ _ _ _ _ k14
      refine ev_callV (vs := [.int (1 : Int32)]) (sk := []) cls12 (mono_ob q10.1 (mono_ob q5.1 h1)) q15 (by decide) (Nat.le_of_ble_eq_true rfl) w1652 w1654 ws69 w19 w1655 k12_fails rfl (Nat.le_of_ble_eq_true rfl) d12_wantWord_25 ?_
      obtain ⟨-, rfl⟩ := ret_some hf
      exact ev_vret rfl d12_wantWord_28
    · refine ev_if_eq_Q (tgt := 23) c11 (by decide) d12_wantWord_13 ?_
      refine ev_aload_n (j := 0) (i := 0) (q := 0) rfl rfl d12_wantWord_16 ?_
      obtain ⟨r16, t17, k18, hf⟩ := bd_some hf
      have q19 := s12_next _ _ _ _ k18
      refine ev_callV (vs := []) (sk := []) cls12 (mono_ob q10.1 (mono_ob q5.1 h1)) q19 (by decide) (Nat.le_of_ble_eq_true rfl) w1619 w1621 ws64 w19 w1622 k12_next rfl (Nat.le_of_ble_eq_true rfl) d12_wantWord_17 ?_
      refine ev_goto (tgt := 28) (by decide) d12_wantWord_20 ?_
      obtain ⟨-, rfl⟩ := ret_some hf
      exact ev_vret rfl d12_wantWord_28
