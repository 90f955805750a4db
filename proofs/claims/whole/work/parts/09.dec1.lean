theorem d_Lw_cell_0 : decode method_2_code 0 = .ok (.iload_n 1, 1) := by decide +kernel
theorem d_Lw_cell_1 : decode method_2_code 1 = .ok (.aload_n 0, 1) := by decide +kernel
theorem d_Lw_cell_2 : decode method_2_code 2 = .ok (.arraylength, 1) := by decide +kernel
theorem d_Lw_cell_3 : decode method_2_code 3 = .ok (.if_icmp .ge 9, 3) := by decide +kernel
theorem d_Lw_cell_6 : decode method_2_code 6 = .ok (.aload_n 0, 1) := by decide +kernel
theorem d_Lw_cell_7 : decode method_2_code 7 = .ok (.iload_n 1, 1) := by decide +kernel
theorem d_Lw_cell_8 : decode method_2_code 8 = .ok (.iaload, 1) := by decide +kernel
theorem d_Lw_cell_9 : decode method_2_code 9 = .ok (.goto 4, 3) := by decide +kernel
theorem d_Lw_cell_12 : decode method_2_code 12 = .ok (.iconst 0, 1) := by decide +kernel
theorem d_Lw_cell_13 : decode method_2_code 13 = .ok (.ireturn, 1) := by decide +kernel
theorem d_Ma_min_0 : decode prog_17_method_69_code 0 = .ok (.iload_n 0, 1) := by decide +kernel
theorem d_Ma_min_1 : decode prog_17_method_69_code 1 = .ok (.iload_n 1, 1) := by decide +kernel
theorem d_Ma_min_2 : decode prog_17_method_69_code 2 = .ok (.if_icmp .gt 7, 3) := by decide +kernel
theorem d_Ma_min_5 : decode prog_17_method_69_code 5 = .ok (.iload_n 0, 1) := by decide +kernel
theorem d_Ma_min_6 : decode prog_17_method_69_code 6 = .ok (.goto 4, 3) := by decide +kernel
theorem d_Ma_min_9 : decode prog_17_method_69_code 9 = .ok (.iload_n 1, 1) := by decide +kernel
theorem d_Ma_min_10 : decode prog_17_method_69_code 10 = .ok (.ireturn, 1) := by decide +kernel
theorem d_Ma_max_0 : decode prog_17_method_65_code 0 = .ok (.iload_n 0, 1) := by decide +kernel
theorem d_Ma_max_1 : decode prog_17_method_65_code 1 = .ok (.iload_n 1, 1) := by decide +kernel
theorem d_Ma_max_2 : decode prog_17_method_65_code 2 = .ok (.if_icmp .lt 7, 3) := by decide +kernel
theorem d_Ma_max_5 : decode prog_17_method_65_code 5 = .ok (.iload_n 0, 1) := by decide +kernel
theorem d_Ma_max_6 : decode prog_17_method_65_code 6 = .ok (.goto 4, 3) := by decide +kernel
theorem d_Ma_max_9 : decode prog_17_method_65_code 9 = .ok (.iload_n 1, 1) := by decide +kernel
theorem d_Ma_max_10 : decode prog_17_method_65_code 10 = .ok (.ireturn, 1) := by decide +kernel
theorem d_ML_nearest_0 : decode prog_1_method_12_code 0 = .ok (.iload_n 1, 1) := by decide +kernel
theorem d_ML_nearest_1 : decode prog_1_method_12_code 1 = .ok (.iload_n 2, 1) := by decide +kernel
theorem d_ML_nearest_2 : decode prog_1_method_12_code 2 = .ok (.iload_n 0, 1) := by decide +kernel
theorem d_ML_nearest_3 : decode prog_1_method_12_code 3 = .ok (.invokestatic 147, 3) := by decide +kernel
theorem d_ML_nearest_6 : decode prog_1_method_12_code 6 = .ok (.invokestatic 153, 3) := by decide +kernel
theorem d_ML_nearest_9 : decode prog_1_method_12_code 9 = .ok (.ireturn, 1) := by decide +kernel
theorem d_Ac_init_0 : decode prog_19_method_1_code 0 = .ok (.aload_n 0, 1) := by decide +kernel
theorem d_Ac_init_1 : decode prog_19_method_1_code 1 = .ok (.invokespecial 1, 3) := by decide +kernel
theorem d_Ac_init_4 : decode prog_19_method_1_code 4 = .ok (.return_, 1) := by decide +kernel
theorem d_Al_init_0 : decode prog_20_method_1_code 0 = .ok (.aload_n 0, 1) := by decide +kernel
theorem d_Al_init_1 : decode prog_20_method_1_code 1 = .ok (.invokespecial 1, 3) := by decide +kernel
theorem d_Al_init_4 : decode prog_20_method_1_code 4 = .ok (.aload_n 0, 1) := by decide +kernel
theorem d_Al_init_5 : decode prog_20_method_1_code 5 = .ok (.iconst 0, 1) := by decide +kernel
theorem d_Al_init_6 : decode prog_20_method_1_code 6 = .ok (.putfield 7, 3) := by decide +kernel
theorem d_Al_init_9 : decode prog_20_method_1_code 9 = .ok (.return_, 1) := by decide +kernel
theorem d_AL_init_0 : decode prog_21_method_2_code 0 = .ok (.aload_n 0, 1) := by decide +kernel
theorem d_AL_init_1 : decode prog_21_method_2_code 1 = .ok (.invokespecial 1, 3) := by decide +kernel
theorem d_AL_init_4 : decode prog_21_method_2_code 4 = .ok (.aload_n 0, 1) := by decide +kernel
theorem d_AL_init_5 : decode prog_21_method_2_code 5 = .ok (.getstatic 39, 3) := by decide +kernel
theorem d_AL_init_8 : decode prog_21_method_2_code 8 = .ok (.putfield 9, 3) := by decide +kernel
theorem d_AL_init_11 : decode prog_21_method_2_code 11 = .ok (.return_, 1) := by decide +kernel
theorem d_FB_init_0 : decode prog_5_method_1_code 0 = .ok (.aload_n 0, 1) := by decide +kernel
theorem d_FB_init_1 : decode prog_5_method_1_code 1 = .ok (.invokespecial 1, 3) := by decide +kernel
theorem d_FB_init_4 : decode prog_5_method_1_code 4 = .ok (.aload_n 0, 1) := by decide +kernel
theorem d_FB_init_5 : decode prog_5_method_1_code 5 = .ok (.iload_n 1, 1) := by decide +kernel
theorem d_FB_init_6 : decode prog_5_method_1_code 6 = .ok (.anewarray 7, 3) := by decide +kernel
theorem d_FB_init_9 : decode prog_5_method_1_code 9 = .ok (.putfield 9, 3) := by decide +kernel
theorem d_FB_init_12 : decode prog_5_method_1_code 12 = .ok (.return_, 1) := by decide +kernel
theorem d_La_init_0 : decode prog_7_method_1_code 0 = .ok (.aload_n 0, 1) := by decide +kernel
theorem d_La_init_1 : decode prog_7_method_1_code 1 = .ok (.invokespecial 3, 3) := by decide +kernel
theorem d_La_init_4 : decode prog_7_method_1_code 4 = .ok (.aload_n 0, 1) := by decide +kernel
theorem d_La_init_5 : decode prog_7_method_1_code 5 = .ok (.new 9, 3) := by decide +kernel
theorem d_La_init_8 : decode prog_7_method_1_code 8 = .ok (.dup, 1) := by decide +kernel
theorem d_La_init_9 : decode prog_7_method_1_code 9 = .ok (.invokespecial 11, 3) := by decide +kernel
theorem d_La_init_12 : decode prog_7_method_1_code 12 = .ok (.putfield 12, 3) := by decide +kernel
theorem d_La_init_15 : decode prog_7_method_1_code 15 = .ok (.aload_n 0, 1) := by decide +kernel
theorem d_La_init_16 : decode prog_7_method_1_code 16 = .ok (.new 9, 3) := by decide +kernel
theorem d_La_init_19 : decode prog_7_method_1_code 19 = .ok (.dup, 1) := by decide +kernel
theorem d_La_init_20 : decode prog_7_method_1_code 20 = .ok (.invokespecial 11, 3) := by decide +kernel
theorem d_La_init_23 : decode prog_7_method_1_code 23 = .ok (.putfield 18, 3) := by decide +kernel
theorem d_La_init_26 : decode prog_7_method_1_code 26 = .ok (.aload_n 0, 1) := by decide +kernel
theorem d_La_init_27 : decode prog_7_method_1_code 27 = .ok (.iconst 5, 1) := by decide +kernel
theorem d_La_init_28 : decode prog_7_method_1_code 28 = .ok (.anewarray 21, 3) := by decide +kernel
theorem d_La_init_31 : decode prog_7_method_1_code 31 = .ok (.putfield 23, 3) := by decide +kernel
theorem d_La_init_34 : decode prog_7_method_1_code 34 = .ok (.aload_n 0, 1) := by decide +kernel
theorem d_La_init_35 : decode prog_7_method_1_code 35 = .ok (.iconst 5, 1) := by decide +kernel
theorem d_La_init_36 : decode prog_7_method_1_code 36 = .ok (.newarray .int, 2) := by decide +kernel
theorem d_La_init_38 : decode prog_7_method_1_code 38 = .ok (.putfield 27, 3) := by decide +kernel
theorem d_La_init_41 : decode prog_7_method_1_code 41 = .ok (.aload_n 0, 1) := by decide +kernel
theorem d_La_init_42 : decode prog_7_method_1_code 42 = .ok (.iconst 5, 1) := by decide +kernel
theorem d_La_init_43 : decode prog_7_method_1_code 43 = .ok (.newarray .int, 2) := by decide +kernel
theorem d_La_init_45 : decode prog_7_method_1_code 45 = .ok (.putfield 31, 3) := by decide +kernel
theorem d_La_init_48 : decode prog_7_method_1_code 48 = .ok (.aload_n 0, 1) := by decide +kernel
theorem d_La_init_49 : decode prog_7_method_1_code 49 = .ok (.iload_n 1, 1) := by decide +kernel
theorem d_La_init_50 : decode prog_7_method_1_code 50 = .ok (.putfield 34, 3) := by decide +kernel
theorem d_La_init_53 : decode prog_7_method_1_code 53 = .ok (.iconst 0, 1) := by decide +kernel
theorem d_La_init_54 : decode prog_7_method_1_code 54 = .ok (.istore_n 3, 1) := by decide +kernel
theorem d_La_init_55 : decode prog_7_method_1_code 55 = .ok (.iload_n 3, 1) := by decide +kernel
theorem d_La_init_56 : decode prog_7_method_1_code 56 = .ok (.iconst 5, 1) := by decide +kernel
theorem d_La_init_57 : decode prog_7_method_1_code 57 = .ok (.if_icmp .ge 37, 3) := by decide +kernel
theorem d_La_init_60 : decode prog_7_method_1_code 60 = .ok (.aload_n 0, 1) := by decide +kernel
theorem d_La_init_61 : decode prog_7_method_1_code 61 = .ok (.getfield 23, 3) := by decide +kernel
theorem d_La_init_64 : decode prog_7_method_1_code 64 = .ok (.iload_n 3, 1) := by decide +kernel
theorem d_La_init_65 : decode prog_7_method_1_code 65 = .ok (.new 21, 3) := by decide +kernel
theorem d_La_init_68 : decode prog_7_method_1_code 68 = .ok (.dup, 1) := by decide +kernel
theorem d_La_init_69 : decode prog_7_method_1_code 69 = .ok (.iload_n 2, 1) := by decide +kernel
theorem d_La_init_70 : decode prog_7_method_1_code 70 = .ok (.invokespecial 38, 3) := by decide +kernel
theorem d_La_init_73 : decode prog_7_method_1_code 73 = .ok (.aastore, 1) := by decide +kernel
theorem d_La_init_74 : decode prog_7_method_1_code 74 = .ok (.aload_n 0, 1) := by decide +kernel
theorem d_La_init_75 : decode prog_7_method_1_code 75 = .ok (.getfield 27, 3) := by decide +kernel
theorem d_La_init_78 : decode prog_7_method_1_code 78 = .ok (.iload_n 3, 1) := by decide +kernel
theorem d_La_init_79 : decode prog_7_method_1_code 79 = .ok (.iconst (-1), 1) := by decide +kernel
theorem d_La_init_80 : decode prog_7_method_1_code 80 = .ok (.iastore, 1) := by decide +kernel
theorem d_La_init_81 : decode prog_7_method_1_code 81 = .ok (.aload_n 0, 1) := by decide +kernel
theorem d_La_init_82 : decode prog_7_method_1_code 82 = .ok (.getfield 31, 3) := by decide +kernel
theorem d_La_init_85 : decode prog_7_method_1_code 85 = .ok (.iload_n 3, 1) := by decide +kernel
theorem d_La_init_86 : decode prog_7_method_1_code 86 = .ok (.iconst 4, 1) := by decide +kernel
theorem d_La_init_87 : decode prog_7_method_1_code 87 = .ok (.iastore, 1) := by decide +kernel
theorem d_La_init_88 : decode prog_7_method_1_code 88 = .ok (.iinc 3 1, 3) := by decide +kernel
theorem d_La_init_91 : decode prog_7_method_1_code 91 = .ok (.goto (-36), 3) := by decide +kernel
theorem d_La_init_94 : decode prog_7_method_1_code 94 = .ok (.return_, 1) := by decide +kernel
theorem d_Me_init_0 : decode prog_8_method_1_code 0 = .ok (.aload_n 0, 1) := by decide +kernel
theorem d_Me_init_1 : decode prog_8_method_1_code 1 = .ok (.invokespecial 3, 3) := by decide +kernel
theorem d_Me_init_4 : decode prog_8_method_1_code 4 = .ok (.aload_n 0, 1) := by decide +kernel
theorem d_Me_init_5 : decode prog_8_method_1_code 5 = .ok (.bipush 18, 2) := by decide +kernel
theorem d_Me_init_7 : decode prog_8_method_1_code 7 = .ok (.anewarray 9, 3) := by decide +kernel
theorem d_Me_init_10 : decode prog_8_method_1_code 10 = .ok (.putfield 11, 3) := by decide +kernel
theorem d_Me_init_13 : decode prog_8_method_1_code 13 = .ok (.aload_n 0, 1) := by decide +kernel
theorem d_Me_init_14 : decode prog_8_method_1_code 14 = .ok (.iload_n 2, 1) := by decide +kernel
theorem d_Me_init_15 : decode prog_8_method_1_code 15 = .ok (.putfield 17, 3) := by decide +kernel
theorem d_Me_init_18 : decode prog_8_method_1_code 18 = .ok (.iconst 0, 1) := by decide +kernel
theorem d_Me_init_19 : decode prog_8_method_1_code 19 = .ok (.istore_n 3, 1) := by decide +kernel
theorem d_Me_init_20 : decode prog_8_method_1_code 20 = .ok (.iload_n 3, 1) := by decide +kernel
theorem d_Me_init_21 : decode prog_8_method_1_code 21 = .ok (.bipush 18, 2) := by decide +kernel
theorem d_Me_init_23 : decode prog_8_method_1_code 23 = .ok (.if_icmp .ge 26, 3) := by decide +kernel
theorem d_Me_init_26 : decode prog_8_method_1_code 26 = .ok (.aload_n 0, 1) := by decide +kernel
theorem d_Me_init_27 : decode prog_8_method_1_code 27 = .ok (.getfield 11, 3) := by decide +kernel
theorem d_Me_init_30 : decode prog_8_method_1_code 30 = .ok (.iload_n 3, 1) := by decide +kernel
theorem d_Me_init_31 : decode prog_8_method_1_code 31 = .ok (.new 9, 3) := by decide +kernel
theorem d_Me_init_34 : decode prog_8_method_1_code 34 = .ok (.dup, 1) := by decide +kernel
theorem d_Me_init_35 : decode prog_8_method_1_code 35 = .ok (.iload_n 3, 1) := by decide +kernel
theorem d_Me_init_36 : decode prog_8_method_1_code 36 = .ok (.iconst 3, 1) := by decide +kernel
theorem d_Me_init_37 : decode prog_8_method_1_code 37 = .ok (.idiv, 1) := by decide +kernel
theorem d_Me_init_38 : decode prog_8_method_1_code 38 = .ok (.iload_n 1, 1) := by decide +kernel
theorem d_Me_init_39 : decode prog_8_method_1_code 39 = .ok (.invokespecial 21, 3) := by decide +kernel
theorem d_Me_init_42 : decode prog_8_method_1_code 42 = .ok (.aastore, 1) := by decide +kernel
theorem d_Me_init_43 : decode prog_8_method_1_code 43 = .ok (.iinc 3 1, 3) := by decide +kernel
theorem d_Me_init_46 : decode prog_8_method_1_code 46 = .ok (.goto (-26), 3) := by decide +kernel
theorem d_Me_init_49 : decode prog_8_method_1_code 49 = .ok (.return_, 1) := by decide +kernel
theorem d_ML_homeOf_0 : decode prog_1_method_13_code 0 = .ok (.iload_n 0, 1) := by decide +kernel
theorem d_ML_homeOf_1 : decode prog_1_method_13_code 1 = .ok (.bipush 6, 2) := by decide +kernel
theorem d_ML_homeOf_3 : decode prog_1_method_13_code 3 = .ok (.irem, 1) := by decide +kernel
theorem d_ML_homeOf_4 : decode prog_1_method_13_code 4 = .ok (.ireturn, 1) := by decide +kernel
theorem d_Ho_init_0 : decode prog_6_method_1_code 0 = .ok (.aload_n 0, 1) := by decide +kernel
theorem d_Ho_init_1 : decode prog_6_method_1_code 1 = .ok (.invokespecial 3, 3) := by decide +kernel
theorem d_Ho_init_4 : decode prog_6_method_1_code 4 = .ok (.aload_n 0, 1) := by decide +kernel
theorem d_Ho_init_5 : decode prog_6_method_1_code 5 = .ok (.iconst 0, 1) := by decide +kernel
theorem d_Ho_init_6 : decode prog_6_method_1_code 6 = .ok (.putfield 11, 3) := by decide +kernel
theorem d_Ho_init_9 : decode prog_6_method_1_code 9 = .ok (.aload_n 0, 1) := by decide +kernel
theorem d_Ho_init_10 : decode prog_6_method_1_code 10 = .ok (.iconst (-1), 1) := by decide +kernel
theorem d_Ho_init_11 : decode prog_6_method_1_code 11 = .ok (.putfield 15, 3) := by decide +kernel
theorem d_Ho_init_14 : decode prog_6_method_1_code 14 = .ok (.aload_n 0, 1) := by decide +kernel
theorem d_Ho_init_15 : decode prog_6_method_1_code 15 = .ok (.iload_n 1, 1) := by decide +kernel
theorem d_Ho_init_16 : decode prog_6_method_1_code 16 = .ok (.putfield 18, 3) := by decide +kernel
theorem d_Ho_init_19 : decode prog_6_method_1_code 19 = .ok (.aload_n 0, 1) := by decide +kernel
theorem d_Ho_init_20 : decode prog_6_method_1_code 20 = .ok (.iload_n 1, 1) := by decide +kernel
theorem d_Ho_init_21 : decode prog_6_method_1_code 21 = .ok (.invokestatic 21, 3) := by decide +kernel
theorem d_Ho_init_24 : decode prog_6_method_1_code 24 = .ok (.putfield 25, 3) := by decide +kernel
theorem d_Ho_init_27 : decode prog_6_method_1_code 27 = .ok (.aload_n 0, 1) := by decide +kernel
theorem d_Ho_init_28 : decode prog_6_method_1_code 28 = .ok (.aload_n 2, 1) := by decide +kernel
theorem d_Ho_init_29 : decode prog_6_method_1_code 29 = .ok (.putfield 28, 3) := by decide +kernel
theorem d_Ho_init_32 : decode prog_6_method_1_code 32 = .ok (.return_, 1) := by decide +kernel
theorem d_Ca_init_0 : decode prog_2_method_1_code 0 = .ok (.aload_n 0, 1) := by decide +kernel
theorem d_Ca_init_1 : decode prog_2_method_1_code 1 = .ok (.invokespecial 3, 3) := by decide +kernel
theorem d_Ca_init_4 : decode prog_2_method_1_code 4 = .ok (.aload_n 0, 1) := by decide +kernel
theorem d_Ca_init_5 : decode prog_2_method_1_code 5 = .ok (.bipush 8, 2) := by decide +kernel
theorem d_Ca_init_7 : decode prog_2_method_1_code 7 = .ok (.newarray .int, 2) := by decide +kernel
theorem d_Ca_init_9 : decode prog_2_method_1_code 9 = .ok (.putfield 9, 3) := by decide +kernel
theorem d_Ca_init_12 : decode prog_2_method_1_code 12 = .ok (.aload_n 0, 1) := by decide +kernel
theorem d_Ca_init_13 : decode prog_2_method_1_code 13 = .ok (.bipush 8, 2) := by decide +kernel
theorem d_Ca_init_15 : decode prog_2_method_1_code 15 = .ok (.newarray .int, 2) := by decide +kernel
theorem d_Ca_init_17 : decode prog_2_method_1_code 17 = .ok (.putfield 15, 3) := by decide +kernel
theorem d_Ca_init_20 : decode prog_2_method_1_code 20 = .ok (.aload_n 0, 1) := by decide +kernel
theorem d_Ca_init_21 : decode prog_2_method_1_code 21 = .ok (.bipush 8, 2) := by decide +kernel
theorem d_Ca_init_23 : decode prog_2_method_1_code 23 = .ok (.newarray .int, 2) := by decide +kernel
theorem d_Ca_init_25 : decode prog_2_method_1_code 25 = .ok (.putfield 18, 3) := by decide +kernel
theorem d_Ca_init_28 : decode prog_2_method_1_code 28 = .ok (.aload_n 0, 1) := by decide +kernel
theorem d_Ca_init_29 : decode prog_2_method_1_code 29 = .ok (.bipush 8, 2) := by decide +kernel
theorem d_Ca_init_31 : decode prog_2_method_1_code 31 = .ok (.newarray .int, 2) := by decide +kernel
theorem d_Ca_init_33 : decode prog_2_method_1_code 33 = .ok (.putfield 21, 3) := by decide +kernel
theorem d_Ca_init_36 : decode prog_2_method_1_code 36 = .ok (.aload_n 0, 1) := by decide +kernel
theorem d_Ca_init_37 : decode prog_2_method_1_code 37 = .ok (.iload_n 1, 1) := by decide +kernel
theorem d_Ca_init_38 : decode prog_2_method_1_code 38 = .ok (.putfield 24, 3) := by decide +kernel
theorem d_Ca_init_41 : decode prog_2_method_1_code 41 = .ok (.aload_n 0, 1) := by decide +kernel
theorem d_Ca_init_42 : decode prog_2_method_1_code 42 = .ok (.aload_n 2, 1) := by decide +kernel
theorem d_Ca_init_43 : decode prog_2_method_1_code 43 = .ok (.putfield 28, 3) := by decide +kernel
theorem d_Ca_init_46 : decode prog_2_method_1_code 46 = .ok (.return_, 1) := by decide +kernel
theorem d_Co_init_0 : decode prog_3_method_1_code 0 = .ok (.aload_n 0, 1) := by decide +kernel
theorem d_Co_init_1 : decode prog_3_method_1_code 1 = .ok (.invokespecial 3, 3) := by decide +kernel
theorem d_Co_init_4 : decode prog_3_method_1_code 4 = .ok (.aload_n 0, 1) := by decide +kernel
theorem d_Co_init_5 : decode prog_3_method_1_code 5 = .ok (.bipush 40, 2) := by decide +kernel
theorem d_Co_init_7 : decode prog_3_method_1_code 7 = .ok (.newarray .int, 2) := by decide +kernel
theorem d_Co_init_9 : decode prog_3_method_1_code 9 = .ok (.putfield 9, 3) := by decide +kernel
theorem d_Co_init_12 : decode prog_3_method_1_code 12 = .ok (.aload_n 0, 1) := by decide +kernel
theorem d_Co_init_13 : decode prog_3_method_1_code 13 = .ok (.bipush 40, 2) := by decide +kernel
theorem d_Co_init_15 : decode prog_3_method_1_code 15 = .ok (.newarray .int, 2) := by decide +kernel
theorem d_Co_init_17 : decode prog_3_method_1_code 17 = .ok (.putfield 15, 3) := by decide +kernel
theorem d_Co_init_20 : decode prog_3_method_1_code 20 = .ok (.aload_n 0, 1) := by decide +kernel
theorem d_Co_init_21 : decode prog_3_method_1_code 21 = .ok (.bipush 40, 2) := by decide +kernel
theorem d_Co_init_23 : decode prog_3_method_1_code 23 = .ok (.newarray .int, 2) := by decide +kernel
theorem d_Co_init_25 : decode prog_3_method_1_code 25 = .ok (.putfield 18, 3) := by decide +kernel
theorem d_Co_init_28 : decode prog_3_method_1_code 28 = .ok (.aload_n 0, 1) := by decide +kernel
theorem d_Co_init_29 : decode prog_3_method_1_code 29 = .ok (.bipush 40, 2) := by decide +kernel
theorem d_Co_init_31 : decode prog_3_method_1_code 31 = .ok (.newarray .int, 2) := by decide +kernel
theorem d_Co_init_33 : decode prog_3_method_1_code 33 = .ok (.putfield 21, 3) := by decide +kernel
theorem d_Co_init_36 : decode prog_3_method_1_code 36 = .ok (.aload_n 0, 1) := by decide +kernel
theorem d_Co_init_37 : decode prog_3_method_1_code 37 = .ok (.bipush 40, 2) := by decide +kernel
theorem d_Co_init_39 : decode prog_3_method_1_code 39 = .ok (.newarray .int, 2) := by decide +kernel
theorem d_Co_init_41 : decode prog_3_method_1_code 41 = .ok (.putfield 24, 3) := by decide +kernel
theorem d_Co_init_44 : decode prog_3_method_1_code 44 = .ok (.aload_n 0, 1) := by decide +kernel
theorem d_Co_init_45 : decode prog_3_method_1_code 45 = .ok (.aload_n 1, 1) := by decide +kernel
theorem d_Co_init_46 : decode prog_3_method_1_code 46 = .ok (.putfield 27, 3) := by decide +kernel
theorem d_Co_init_49 : decode prog_3_method_1_code 49 = .ok (.return_, 1) := by decide +kernel
theorem d_No_init_0 : decode prog_9_method_1_code 0 = .ok (.aload_n 0, 1) := by decide +kernel
theorem d_No_init_1 : decode prog_9_method_1_code 1 = .ok (.invokespecial 3, 3) := by decide +kernel
theorem d_No_init_4 : decode prog_9_method_1_code 4 = .ok (.aload_n 0, 1) := by decide +kernel
theorem d_No_init_5 : decode prog_9_method_1_code 5 = .ok (.iload_n 1, 1) := by decide +kernel
theorem d_No_init_6 : decode prog_9_method_1_code 6 = .ok (.putfield 9, 3) := by decide +kernel
theorem d_No_init_9 : decode prog_9_method_1_code 9 = .ok (.aload_n 0, 1) := by decide +kernel
theorem d_No_init_10 : decode prog_9_method_1_code 10 = .ok (.aload_n 2, 1) := by decide +kernel
theorem d_No_init_11 : decode prog_9_method_1_code 11 = .ok (.putfield 15, 3) := by decide +kernel
theorem d_No_init_14 : decode prog_9_method_1_code 14 = .ok (.aload_n 0, 1) := by decide +kernel
theorem d_No_init_15 : decode prog_9_method_1_code 15 = .ok (.aload_n 3, 1) := by decide +kernel
theorem d_No_init_16 : decode prog_9_method_1_code 16 = .ok (.putfield 19, 3) := by decide +kernel
theorem d_No_init_19 : decode prog_9_method_1_code 19 = .ok (.aload_n 0, 1) := by decide +kernel
theorem d_No_init_20 : decode prog_9_method_1_code 20 = .ok (.new 23, 3) := by decide +kernel
theorem d_No_init_23 : decode prog_9_method_1_code 23 = .ok (.dup, 1) := by decide +kernel
theorem d_No_init_24 : decode prog_9_method_1_code 24 = .ok (.iload_n 1, 1) := by decide +kernel
theorem d_No_init_25 : decode prog_9_method_1_code 25 = .ok (.aload_n 2, 1) := by decide +kernel
theorem d_No_init_26 : decode prog_9_method_1_code 26 = .ok (.invokespecial 25, 3) := by decide +kernel
theorem d_No_init_29 : decode prog_9_method_1_code 29 = .ok (.putfield 28, 3) := by decide +kernel
theorem d_No_init_32 : decode prog_9_method_1_code 32 = .ok (.aload_n 0, 1) := by decide +kernel
theorem d_No_init_33 : decode prog_9_method_1_code 33 = .ok (.new 32, 3) := by decide +kernel
theorem d_No_init_36 : decode prog_9_method_1_code 36 = .ok (.dup, 1) := by decide +kernel
theorem d_No_init_37 : decode prog_9_method_1_code 37 = .ok (.aload_n 0, 1) := by decide +kernel
theorem d_No_init_38 : decode prog_9_method_1_code 38 = .ok (.getfield 28, 3) := by decide +kernel
theorem d_No_init_41 : decode prog_9_method_1_code 41 = .ok (.invokespecial 34, 3) := by decide +kernel
theorem d_No_init_44 : decode prog_9_method_1_code 44 = .ok (.putfield 37, 3) := by decide +kernel
theorem d_No_init_47 : decode prog_9_method_1_code 47 = .ok (.return_, 1) := by decide +kernel
theorem d_ML_init_0 : decode prog_1_method_1_code 0 = .ok (.aload_n 0, 1) := by decide +kernel
theorem d_ML_init_1 : decode prog_1_method_1_code 1 = .ok (.invokespecial 1, 3) := by decide +kernel
theorem d_ML_init_4 : decode prog_1_method_1_code 4 = .ok (.aload_n 0, 1) := by decide +kernel
theorem d_ML_init_5 : decode prog_1_method_1_code 5 = .ok (.new 7, 3) := by decide +kernel
theorem d_ML_init_8 : decode prog_1_method_1_code 8 = .ok (.dup, 1) := by decide +kernel
theorem d_ML_init_9 : decode prog_1_method_1_code 9 = .ok (.iload_n 1, 1) := by decide +kernel
theorem d_ML_init_10 : decode prog_1_method_1_code 10 = .ok (.iconst 1, 1) := by decide +kernel
theorem d_ML_init_11 : decode prog_1_method_1_code 11 = .ok (.iconst 4, 1) := by decide +kernel
theorem d_ML_init_12 : decode prog_1_method_1_code 12 = .ok (.invokestatic 9, 3) := by decide +kernel
theorem d_ML_init_15 : decode prog_1_method_1_code 15 = .ok (.iload_n 2, 1) := by decide +kernel
theorem d_ML_init_16 : decode prog_1_method_1_code 16 = .ok (.iconst 2, 1) := by decide +kernel
theorem d_ML_init_17 : decode prog_1_method_1_code 17 = .ok (.iconst 5, 1) := by decide +kernel
theorem d_ML_init_18 : decode prog_1_method_1_code 18 = .ok (.invokestatic 9, 3) := by decide +kernel
theorem d_ML_init_21 : decode prog_1_method_1_code 21 = .ok (.invokespecial 15, 3) := by decide +kernel
theorem d_ML_init_24 : decode prog_1_method_1_code 24 = .ok (.putfield 18, 3) := by decide +kernel
theorem d_ML_init_27 : decode prog_1_method_1_code 27 = .ok (.aload_n 0, 1) := by decide +kernel
theorem d_ML_init_28 : decode prog_1_method_1_code 28 = .ok (.bipush 8, 2) := by decide +kernel
theorem d_ML_init_30 : decode prog_1_method_1_code 30 = .ok (.anewarray 22, 3) := by decide +kernel
theorem d_ML_init_33 : decode prog_1_method_1_code 33 = .ok (.putfield 24, 3) := by decide +kernel
theorem d_ML_init_36 : decode prog_1_method_1_code 36 = .ok (.iconst 0, 1) := by decide +kernel
theorem d_ML_init_37 : decode prog_1_method_1_code 37 = .ok (.istore_n 3, 1) := by decide +kernel
theorem d_ML_init_38 : decode prog_1_method_1_code 38 = .ok (.iload_n 3, 1) := by decide +kernel
theorem d_ML_init_39 : decode prog_1_method_1_code 39 = .ok (.bipush 8, 2) := by decide +kernel
theorem d_ML_init_41 : decode prog_1_method_1_code 41 = .ok (.if_icmp .ge 27, 3) := by decide +kernel
theorem d_ML_init_44 : decode prog_1_method_1_code 44 = .ok (.aload_n 0, 1) := by decide +kernel
theorem d_ML_init_45 : decode prog_1_method_1_code 45 = .ok (.getfield 24, 3) := by decide +kernel
theorem d_ML_init_48 : decode prog_1_method_1_code 48 = .ok (.iload_n 3, 1) := by decide +kernel
theorem d_ML_init_49 : decode prog_1_method_1_code 49 = .ok (.new 22, 3) := by decide +kernel
theorem d_ML_init_52 : decode prog_1_method_1_code 52 = .ok (.dup, 1) := by decide +kernel
theorem d_ML_init_53 : decode prog_1_method_1_code 53 = .ok (.iload_n 3, 1) := by decide +kernel
theorem d_ML_init_54 : decode prog_1_method_1_code 54 = .ok (.aload_n 0, 1) := by decide +kernel
theorem d_ML_init_55 : decode prog_1_method_1_code 55 = .ok (.getfield 18, 3) := by decide +kernel
theorem d_ML_init_58 : decode prog_1_method_1_code 58 = .ok (.invokespecial 28, 3) := by decide +kernel
theorem d_ML_init_61 : decode prog_1_method_1_code 61 = .ok (.aastore, 1) := by decide +kernel
theorem d_ML_init_62 : decode prog_1_method_1_code 62 = .ok (.iinc 3 1, 3) := by decide +kernel
theorem d_ML_init_65 : decode prog_1_method_1_code 65 = .ok (.goto (-27), 3) := by decide +kernel
theorem d_ML_init_68 : decode prog_1_method_1_code 68 = .ok (.aload_n 0, 1) := by decide +kernel
theorem d_ML_init_69 : decode prog_1_method_1_code 69 = .ok (.bipush 6, 2) := by decide +kernel
theorem d_ML_init_71 : decode prog_1_method_1_code 71 = .ok (.anewarray 31, 3) := by decide +kernel
theorem d_ML_init_74 : decode prog_1_method_1_code 74 = .ok (.putfield 33, 3) := by decide +kernel
theorem d_ML_init_77 : decode prog_1_method_1_code 77 = .ok (.iconst 0, 1) := by decide +kernel
theorem d_ML_init_78 : decode prog_1_method_1_code 78 = .ok (.istore_n 3, 1) := by decide +kernel
theorem d_ML_init_79 : decode prog_1_method_1_code 79 = .ok (.iload_n 3, 1) := by decide +kernel
theorem d_ML_init_80 : decode prog_1_method_1_code 80 = .ok (.bipush 6, 2) := by decide +kernel
theorem d_ML_init_82 : decode prog_1_method_1_code 82 = .ok (.if_icmp .ge 31, 3) := by decide +kernel
theorem d_ML_init_85 : decode prog_1_method_1_code 85 = .ok (.aload_n 0, 1) := by decide +kernel
theorem d_ML_init_86 : decode prog_1_method_1_code 86 = .ok (.getfield 33, 3) := by decide +kernel
theorem d_ML_init_89 : decode prog_1_method_1_code 89 = .ok (.iload_n 3, 1) := by decide +kernel
theorem d_ML_init_90 : decode prog_1_method_1_code 90 = .ok (.new 31, 3) := by decide +kernel
theorem d_ML_init_93 : decode prog_1_method_1_code 93 = .ok (.dup, 1) := by decide +kernel
theorem d_ML_init_94 : decode prog_1_method_1_code 94 = .ok (.iload_n 3, 1) := by decide +kernel
theorem d_ML_init_95 : decode prog_1_method_1_code 95 = .ok (.aload_n 0, 1) := by decide +kernel
theorem d_ML_init_96 : decode prog_1_method_1_code 96 = .ok (.getfield 18, 3) := by decide +kernel
theorem d_ML_init_99 : decode prog_1_method_1_code 99 = .ok (.aload_n 0, 1) := by decide +kernel
theorem d_ML_init_100 : decode prog_1_method_1_code 100 = .ok (.getfield 24, 3) := by decide +kernel
theorem d_ML_init_103 : decode prog_1_method_1_code 103 = .ok (.invokespecial 37, 3) := by decide +kernel
theorem d_ML_init_106 : decode prog_1_method_1_code 106 = .ok (.aastore, 1) := by decide +kernel
theorem d_ML_init_107 : decode prog_1_method_1_code 107 = .ok (.iinc 3 1, 3) := by decide +kernel
theorem d_ML_init_110 : decode prog_1_method_1_code 110 = .ok (.goto (-31), 3) := by decide +kernel
theorem d_ML_init_113 : decode prog_1_method_1_code 113 = .ok (.return_, 1) := by decide +kernel
theorem d_Mo_init_0 : decode prog_12_method_1_code 0 = .ok (.aload_n 0, 1) := by decide +kernel
theorem d_Mo_init_1 : decode prog_12_method_1_code 1 = .ok (.invokespecial 1, 3) := by decide +kernel
theorem d_Mo_init_4 : decode prog_12_method_1_code 4 = .ok (.aload_n 0, 1) := by decide +kernel
theorem d_Mo_init_5 : decode prog_12_method_1_code 5 = .ok (.sipush 128, 3) := by decide +kernel
theorem d_Mo_init_8 : decode prog_12_method_1_code 8 = .ok (.newarray .boolean, 2) := by decide +kernel
theorem d_Mo_init_10 : decode prog_12_method_1_code 10 = .ok (.putfield 7, 3) := by decide +kernel
theorem d_Mo_init_13 : decode prog_12_method_1_code 13 = .ok (.aload_n 0, 1) := by decide +kernel
theorem d_Mo_init_14 : decode prog_12_method_1_code 14 = .ok (.sipush 128, 3) := by decide +kernel
theorem d_Mo_init_17 : decode prog_12_method_1_code 17 = .ok (.newarray .int, 2) := by decide +kernel
theorem d_Mo_init_19 : decode prog_12_method_1_code 19 = .ok (.putfield 13, 3) := by decide +kernel
theorem d_Mo_init_22 : decode prog_12_method_1_code 22 = .ok (.aload_n 0, 1) := by decide +kernel
theorem d_Mo_init_23 : decode prog_12_method_1_code 23 = .ok (.sipush 128, 3) := by decide +kernel
theorem d_Mo_init_26 : decode prog_12_method_1_code 26 = .ok (.newarray .int, 2) := by decide +kernel
theorem d_Mo_init_28 : decode prog_12_method_1_code 28 = .ok (.putfield 17, 3) := by decide +kernel
theorem d_Mo_init_31 : decode prog_12_method_1_code 31 = .ok (.aload_n 0, 1) := by decide +kernel
theorem d_Mo_init_32 : decode prog_12_method_1_code 32 = .ok (.sipush 128, 3) := by decide +kernel
theorem d_Mo_init_35 : decode prog_12_method_1_code 35 = .ok (.newarray .int, 2) := by decide +kernel
theorem d_Mo_init_37 : decode prog_12_method_1_code 37 = .ok (.putfield 20, 3) := by decide +kernel
theorem d_Mo_init_40 : decode prog_12_method_1_code 40 = .ok (.aload_n 0, 1) := by decide +kernel
theorem d_Mo_init_41 : decode prog_12_method_1_code 41 = .ok (.sipush 128, 3) := by decide +kernel
theorem d_Mo_init_44 : decode prog_12_method_1_code 44 = .ok (.newarray .int, 2) := by decide +kernel
theorem d_Mo_init_46 : decode prog_12_method_1_code 46 = .ok (.putfield 23, 3) := by decide +kernel
theorem d_Mo_init_49 : decode prog_12_method_1_code 49 = .ok (.aload_n 0, 1) := by decide +kernel
theorem d_Mo_init_50 : decode prog_12_method_1_code 50 = .ok (.sipush 128, 3) := by decide +kernel
theorem d_Mo_init_53 : decode prog_12_method_1_code 53 = .ok (.newarray .int, 2) := by decide +kernel
theorem d_Mo_init_55 : decode prog_12_method_1_code 55 = .ok (.putfield 26, 3) := by decide +kernel
theorem d_Mo_init_58 : decode prog_12_method_1_code 58 = .ok (.aload_n 0, 1) := by decide +kernel
theorem d_Mo_init_59 : decode prog_12_method_1_code 59 = .ok (.sipush 128, 3) := by decide +kernel
theorem d_Mo_init_62 : decode prog_12_method_1_code 62 = .ok (.newarray .int, 2) := by decide +kernel
theorem d_Mo_init_64 : decode prog_12_method_1_code 64 = .ok (.putfield 29, 3) := by decide +kernel
theorem d_Mo_init_67 : decode prog_12_method_1_code 67 = .ok (.aload_n 0, 1) := by decide +kernel
theorem d_Mo_init_68 : decode prog_12_method_1_code 68 = .ok (.sipush 128, 3) := by decide +kernel
theorem d_Mo_init_71 : decode prog_12_method_1_code 71 = .ok (.newarray .int, 2) := by decide +kernel
theorem d_Mo_init_73 : decode prog_12_method_1_code 73 = .ok (.putfield 32, 3) := by decide +kernel
theorem d_Mo_init_76 : decode prog_12_method_1_code 76 = .ok (.aload_n 0, 1) := by decide +kernel
theorem d_Mo_init_77 : decode prog_12_method_1_code 77 = .ok (.sipush 2304, 3) := by decide +kernel
theorem d_Mo_init_80 : decode prog_12_method_1_code 80 = .ok (.newarray .int, 2) := by decide +kernel
theorem d_Mo_init_82 : decode prog_12_method_1_code 82 = .ok (.putfield 35, 3) := by decide +kernel
theorem d_Mo_init_85 : decode prog_12_method_1_code 85 = .ok (.aload_n 0, 1) := by decide +kernel
theorem d_Mo_init_86 : decode prog_12_method_1_code 86 = .ok (.bipush 18, 2) := by decide +kernel
theorem d_Mo_init_88 : decode prog_12_method_1_code 88 = .ok (.newarray .int, 2) := by decide +kernel
theorem d_Mo_init_90 : decode prog_12_method_1_code 90 = .ok (.putfield 38, 3) := by decide +kernel
theorem d_Mo_init_93 : decode prog_12_method_1_code 93 = .ok (.aload_n 0, 1) := by decide +kernel
theorem d_Mo_init_94 : decode prog_12_method_1_code 94 = .ok (.bipush 18, 2) := by decide +kernel
theorem d_Mo_init_96 : decode prog_12_method_1_code 96 = .ok (.newarray .int, 2) := by decide +kernel
theorem d_Mo_init_98 : decode prog_12_method_1_code 98 = .ok (.putfield 41, 3) := by decide +kernel
theorem d_Mo_init_101 : decode prog_12_method_1_code 101 = .ok (.aload_n 0, 1) := by decide +kernel
theorem d_Mo_init_102 : decode prog_12_method_1_code 102 = .ok (.sipush 2304, 3) := by decide +kernel
theorem d_Mo_init_105 : decode prog_12_method_1_code 105 = .ok (.newarray .int, 2) := by decide +kernel
theorem d_Mo_init_107 : decode prog_12_method_1_code 107 = .ok (.putfield 44, 3) := by decide +kernel
theorem d_Mo_init_110 : decode prog_12_method_1_code 110 = .ok (.aload_n 0, 1) := by decide +kernel
theorem d_Mo_init_111 : decode prog_12_method_1_code 111 = .ok (.bipush 18, 2) := by decide +kernel
theorem d_Mo_init_113 : decode prog_12_method_1_code 113 = .ok (.newarray .int, 2) := by decide +kernel
theorem d_Mo_init_115 : decode prog_12_method_1_code 115 = .ok (.putfield 47, 3) := by decide +kernel
theorem d_Mo_init_118 : decode prog_12_method_1_code 118 = .ok (.aload_n 0, 1) := by decide +kernel
theorem d_Mo_init_119 : decode prog_12_method_1_code 119 = .ok (.sipush 360, 3) := by decide +kernel
theorem d_Mo_init_122 : decode prog_12_method_1_code 122 = .ok (.newarray .int, 2) := by decide +kernel
theorem d_Mo_init_124 : decode prog_12_method_1_code 124 = .ok (.putfield 50, 3) := by decide +kernel
theorem d_Mo_init_127 : decode prog_12_method_1_code 127 = .ok (.aload_n 0, 1) := by decide +kernel
theorem d_Mo_init_128 : decode prog_12_method_1_code 128 = .ok (.sipush 360, 3) := by decide +kernel
theorem d_Mo_init_131 : decode prog_12_method_1_code 131 = .ok (.newarray .int, 2) := by decide +kernel
theorem d_Mo_init_133 : decode prog_12_method_1_code 133 = .ok (.putfield 53, 3) := by decide +kernel
theorem d_Mo_init_136 : decode prog_12_method_1_code 136 = .ok (.aload_n 0, 1) := by decide +kernel
theorem d_Mo_init_137 : decode prog_12_method_1_code 137 = .ok (.sipush 360, 3) := by decide +kernel
theorem d_Mo_init_140 : decode prog_12_method_1_code 140 = .ok (.newarray .int, 2) := by decide +kernel
theorem d_Mo_init_142 : decode prog_12_method_1_code 142 = .ok (.putfield 56, 3) := by decide +kernel
theorem d_Mo_init_145 : decode prog_12_method_1_code 145 = .ok (.aload_n 0, 1) := by decide +kernel
theorem d_Mo_init_146 : decode prog_12_method_1_code 146 = .ok (.bipush 90, 2) := by decide +kernel
theorem d_Mo_init_148 : decode prog_12_method_1_code 148 = .ok (.newarray .int, 2) := by decide +kernel
theorem d_Mo_init_150 : decode prog_12_method_1_code 150 = .ok (.putfield 59, 3) := by decide +kernel
theorem d_Mo_init_153 : decode prog_12_method_1_code 153 = .ok (.aload_n 0, 1) := by decide +kernel
theorem d_Mo_init_154 : decode prog_12_method_1_code 154 = .ok (.bipush 90, 2) := by decide +kernel
theorem d_Mo_init_156 : decode prog_12_method_1_code 156 = .ok (.newarray .int, 2) := by decide +kernel
theorem d_Mo_init_158 : decode prog_12_method_1_code 158 = .ok (.putfield 62, 3) := by decide +kernel
theorem d_Mo_init_161 : decode prog_12_method_1_code 161 = .ok (.aload_n 0, 1) := by decide +kernel
theorem d_Mo_init_162 : decode prog_12_method_1_code 162 = .ok (.bipush 90, 2) := by decide +kernel
theorem d_Mo_init_164 : decode prog_12_method_1_code 164 = .ok (.newarray .int, 2) := by decide +kernel
theorem d_Mo_init_166 : decode prog_12_method_1_code 166 = .ok (.putfield 65, 3) := by decide +kernel
theorem d_Mo_init_169 : decode prog_12_method_1_code 169 = .ok (.aload_n 0, 1) := by decide +kernel
theorem d_Mo_init_170 : decode prog_12_method_1_code 170 = .ok (.bipush 48, 2) := by decide +kernel
theorem d_Mo_init_172 : decode prog_12_method_1_code 172 = .ok (.newarray .int, 2) := by decide +kernel
theorem d_Mo_init_174 : decode prog_12_method_1_code 174 = .ok (.putfield 68, 3) := by decide +kernel
theorem d_Mo_init_177 : decode prog_12_method_1_code 177 = .ok (.aload_n 0, 1) := by decide +kernel
theorem d_Mo_init_178 : decode prog_12_method_1_code 178 = .ok (.bipush 48, 2) := by decide +kernel
theorem d_Mo_init_180 : decode prog_12_method_1_code 180 = .ok (.newarray .int, 2) := by decide +kernel
theorem d_Mo_init_182 : decode prog_12_method_1_code 182 = .ok (.putfield 71, 3) := by decide +kernel
theorem d_Mo_init_185 : decode prog_12_method_1_code 185 = .ok (.aload_n 0, 1) := by decide +kernel
theorem d_Mo_init_186 : decode prog_12_method_1_code 186 = .ok (.bipush 48, 2) := by decide +kernel
theorem d_Mo_init_188 : decode prog_12_method_1_code 188 = .ok (.newarray .int, 2) := by decide +kernel
theorem d_Mo_init_190 : decode prog_12_method_1_code 190 = .ok (.putfield 74, 3) := by decide +kernel
theorem d_Mo_init_193 : decode prog_12_method_1_code 193 = .ok (.aload_n 0, 1) := by decide +kernel
theorem d_Mo_init_194 : decode prog_12_method_1_code 194 = .ok (.bipush 48, 2) := by decide +kernel
theorem d_Mo_init_196 : decode prog_12_method_1_code 196 = .ok (.newarray .int, 2) := by decide +kernel
theorem d_Mo_init_198 : decode prog_12_method_1_code 198 = .ok (.putfield 77, 3) := by decide +kernel
theorem d_Mo_init_201 : decode prog_12_method_1_code 201 = .ok (.aload_n 0, 1) := by decide +kernel
theorem d_Mo_init_202 : decode prog_12_method_1_code 202 = .ok (.bipush 8, 2) := by decide +kernel
theorem d_Mo_init_204 : decode prog_12_method_1_code 204 = .ok (.newarray .int, 2) := by decide +kernel
theorem d_Mo_init_206 : decode prog_12_method_1_code 206 = .ok (.putfield 80, 3) := by decide +kernel
theorem d_Mo_init_209 : decode prog_12_method_1_code 209 = .ok (.aload_n 0, 1) := by decide +kernel
theorem d_Mo_init_210 : decode prog_12_method_1_code 210 = .ok (.bipush 8, 2) := by decide +kernel
theorem d_Mo_init_212 : decode prog_12_method_1_code 212 = .ok (.newarray .int, 2) := by decide +kernel
theorem d_Mo_init_214 : decode prog_12_method_1_code 214 = .ok (.putfield 83, 3) := by decide +kernel
theorem d_Mo_init_217 : decode prog_12_method_1_code 217 = .ok (.aload_n 0, 1) := by decide +kernel
theorem d_Mo_init_218 : decode prog_12_method_1_code 218 = .ok (.bipush 8, 2) := by decide +kernel
theorem d_Mo_init_220 : decode prog_12_method_1_code 220 = .ok (.newarray .int, 2) := by decide +kernel
theorem d_Mo_init_222 : decode prog_12_method_1_code 222 = .ok (.putfield 86, 3) := by decide +kernel
theorem d_Mo_init_225 : decode prog_12_method_1_code 225 = .ok (.aload_n 0, 1) := by decide +kernel
theorem d_Mo_init_226 : decode prog_12_method_1_code 226 = .ok (.bipush 8, 2) := by decide +kernel
theorem d_Mo_init_228 : decode prog_12_method_1_code 228 = .ok (.newarray .int, 2) := by decide +kernel
theorem d_Mo_init_230 : decode prog_12_method_1_code 230 = .ok (.putfield 89, 3) := by decide +kernel
theorem d_Mo_init_233 : decode prog_12_method_1_code 233 = .ok (.aload_n 0, 1) := by decide +kernel
theorem d_Mo_init_234 : decode prog_12_method_1_code 234 = .ok (.sipush 240, 3) := by decide +kernel
theorem d_Mo_init_237 : decode prog_12_method_1_code 237 = .ok (.newarray .int, 2) := by decide +kernel
theorem d_Mo_init_239 : decode prog_12_method_1_code 239 = .ok (.putfield 92, 3) := by decide +kernel
theorem d_Mo_init_242 : decode prog_12_method_1_code 242 = .ok (.aload_n 0, 1) := by decide +kernel
theorem d_Mo_init_243 : decode prog_12_method_1_code 243 = .ok (.sipush 240, 3) := by decide +kernel
theorem d_Mo_init_246 : decode prog_12_method_1_code 246 = .ok (.newarray .int, 2) := by decide +kernel
theorem d_Mo_init_248 : decode prog_12_method_1_code 248 = .ok (.putfield 95, 3) := by decide +kernel
theorem d_Mo_init_251 : decode prog_12_method_1_code 251 = .ok (.aload_n 0, 1) := by decide +kernel
theorem d_Mo_init_252 : decode prog_12_method_1_code 252 = .ok (.sipush 240, 3) := by decide +kernel
theorem d_Mo_init_255 : decode prog_12_method_1_code 255 = .ok (.newarray .int, 2) := by decide +kernel
theorem d_Mo_init_257 : decode prog_12_method_1_code 257 = .ok (.putfield 98, 3) := by decide +kernel
theorem d_Mo_init_260 : decode prog_12_method_1_code 260 = .ok (.aload_n 0, 1) := by decide +kernel
theorem d_Mo_init_261 : decode prog_12_method_1_code 261 = .ok (.sipush 240, 3) := by decide +kernel
theorem d_Mo_init_264 : decode prog_12_method_1_code 264 = .ok (.newarray .int, 2) := by decide +kernel
theorem d_Mo_init_266 : decode prog_12_method_1_code 266 = .ok (.putfield 101, 3) := by decide +kernel
theorem d_Mo_init_269 : decode prog_12_method_1_code 269 = .ok (.aload_n 0, 1) := by decide +kernel
theorem d_Mo_init_270 : decode prog_12_method_1_code 270 = .ok (.sipush 240, 3) := by decide +kernel
theorem d_Mo_init_273 : decode prog_12_method_1_code 273 = .ok (.newarray .int, 2) := by decide +kernel
theorem d_Mo_init_275 : decode prog_12_method_1_code 275 = .ok (.putfield 104, 3) := by decide +kernel
theorem d_Mo_init_278 : decode prog_12_method_1_code 278 = .ok (.aload_n 0, 1) := by decide +kernel
theorem d_Mo_init_279 : decode prog_12_method_1_code 279 = .ok (.bipush 6, 2) := by decide +kernel
theorem d_Mo_init_281 : decode prog_12_method_1_code 281 = .ok (.newarray .int, 2) := by decide +kernel
theorem d_Mo_init_283 : decode prog_12_method_1_code 283 = .ok (.putfield 107, 3) := by decide +kernel
theorem d_Mo_init_286 : decode prog_12_method_1_code 286 = .ok (.aload_n 0, 1) := by decide +kernel
theorem d_Mo_init_287 : decode prog_12_method_1_code 287 = .ok (.bipush 6, 2) := by decide +kernel
theorem d_Mo_init_289 : decode prog_12_method_1_code 289 = .ok (.newarray .int, 2) := by decide +kernel
theorem d_Mo_init_291 : decode prog_12_method_1_code 291 = .ok (.putfield 110, 3) := by decide +kernel
theorem d_Mo_init_294 : decode prog_12_method_1_code 294 = .ok (.aload_n 0, 1) := by decide +kernel
theorem d_Mo_init_295 : decode prog_12_method_1_code 295 = .ok (.bipush 6, 2) := by decide +kernel
theorem d_Mo_init_297 : decode prog_12_method_1_code 297 = .ok (.newarray .boolean, 2) := by decide +kernel
theorem d_Mo_init_299 : decode prog_12_method_1_code 299 = .ok (.putfield 113, 3) := by decide +kernel
theorem d_Mo_init_302 : decode prog_12_method_1_code 302 = .ok (.aload_n 0, 1) := by decide +kernel
theorem d_Mo_init_303 : decode prog_12_method_1_code 303 = .ok (.iload_n 1, 1) := by decide +kernel
theorem d_Mo_init_304 : decode prog_12_method_1_code 304 = .ok (.iconst 1, 1) := by decide +kernel
theorem d_Mo_init_305 : decode prog_12_method_1_code 305 = .ok (.if_icmp .ge 7, 3) := by decide +kernel
theorem d_Mo_init_308 : decode prog_12_method_1_code 308 = .ok (.iconst 1, 1) := by decide +kernel
theorem d_Mo_init_309 : decode prog_12_method_1_code 309 = .ok (.goto 13, 3) := by decide +kernel
theorem d_Mo_init_312 : decode prog_12_method_1_code 312 = .ok (.iload_n 1, 1) := by decide +kernel
theorem d_Mo_init_313 : decode prog_12_method_1_code 313 = .ok (.iconst 4, 1) := by decide +kernel
theorem d_Mo_init_314 : decode prog_12_method_1_code 314 = .ok (.if_icmp .le 7, 3) := by decide +kernel
theorem d_Mo_init_317 : decode prog_12_method_1_code 317 = .ok (.iconst 4, 1) := by decide +kernel
theorem d_Mo_init_318 : decode prog_12_method_1_code 318 = .ok (.goto 4, 3) := by decide +kernel
theorem d_Mo_init_321 : decode prog_12_method_1_code 321 = .ok (.iload_n 1, 1) := by decide +kernel
theorem d_Mo_init_322 : decode prog_12_method_1_code 322 = .ok (.putfield 116, 3) := by decide +kernel
theorem d_Mo_init_325 : decode prog_12_method_1_code 325 = .ok (.aload_n 0, 1) := by decide +kernel
theorem d_Mo_init_326 : decode prog_12_method_1_code 326 = .ok (.iload_n 2, 1) := by decide +kernel
theorem d_Mo_init_327 : decode prog_12_method_1_code 327 = .ok (.iconst 2, 1) := by decide +kernel
theorem d_Mo_init_328 : decode prog_12_method_1_code 328 = .ok (.if_icmp .ge 7, 3) := by decide +kernel
theorem d_Mo_init_331 : decode prog_12_method_1_code 331 = .ok (.iconst 2, 1) := by decide +kernel
theorem d_Mo_init_332 : decode prog_12_method_1_code 332 = .ok (.goto 13, 3) := by decide +kernel
theorem d_Mo_init_335 : decode prog_12_method_1_code 335 = .ok (.iload_n 2, 1) := by decide +kernel
theorem d_Mo_init_336 : decode prog_12_method_1_code 336 = .ok (.iconst 5, 1) := by decide +kernel
theorem d_Mo_init_337 : decode prog_12_method_1_code 337 = .ok (.if_icmp .le 7, 3) := by decide +kernel
theorem d_Mo_init_340 : decode prog_12_method_1_code 340 = .ok (.iconst 5, 1) := by decide +kernel
theorem d_Mo_init_341 : decode prog_12_method_1_code 341 = .ok (.goto 4, 3) := by decide +kernel
theorem d_Mo_init_344 : decode prog_12_method_1_code 344 = .ok (.iload_n 2, 1) := by decide +kernel
theorem d_Mo_init_345 : decode prog_12_method_1_code 345 = .ok (.putfield 120, 3) := by decide +kernel
theorem d_Mo_init_348 : decode prog_12_method_1_code 348 = .ok (.iconst 0, 1) := by decide +kernel
theorem d_Mo_init_349 : decode prog_12_method_1_code 349 = .ok (.istore_n 3, 1) := by decide +kernel
theorem d_Mo_init_350 : decode prog_12_method_1_code 350 = .ok (.iload_n 3, 1) := by decide +kernel
theorem d_Mo_init_351 : decode prog_12_method_1_code 351 = .ok (.bipush 90, 2) := by decide +kernel
theorem d_Mo_init_353 : decode prog_12_method_1_code 353 = .ok (.if_icmp .ge 23, 3) := by decide +kernel
theorem d_Mo_init_356 : decode prog_12_method_1_code 356 = .ok (.aload_n 0, 1) := by decide +kernel
theorem d_Mo_init_357 : decode prog_12_method_1_code 357 = .ok (.getfield 62, 3) := by decide +kernel
theorem d_Mo_init_360 : decode prog_12_method_1_code 360 = .ok (.iload_n 3, 1) := by decide +kernel
theorem d_Mo_init_361 : decode prog_12_method_1_code 361 = .ok (.iconst (-1), 1) := by decide +kernel
theorem d_Mo_init_362 : decode prog_12_method_1_code 362 = .ok (.iastore, 1) := by decide +kernel
theorem d_Mo_init_363 : decode prog_12_method_1_code 363 = .ok (.aload_n 0, 1) := by decide +kernel
theorem d_Mo_init_364 : decode prog_12_method_1_code 364 = .ok (.getfield 65, 3) := by decide +kernel
theorem d_Mo_init_367 : decode prog_12_method_1_code 367 = .ok (.iload_n 3, 1) := by decide +kernel
theorem d_Mo_init_368 : decode prog_12_method_1_code 368 = .ok (.iconst 4, 1) := by decide +kernel
theorem d_Mo_init_369 : decode prog_12_method_1_code 369 = .ok (.iastore, 1) := by decide +kernel
theorem d_Mo_init_370 : decode prog_12_method_1_code 370 = .ok (.iinc 3 1, 3) := by decide +kernel
theorem d_Mo_init_373 : decode prog_12_method_1_code 373 = .ok (.goto (-23), 3) := by decide +kernel
theorem d_Mo_init_376 : decode prog_12_method_1_code 376 = .ok (.iconst 0, 1) := by decide +kernel
theorem d_Mo_init_377 : decode prog_12_method_1_code 377 = .ok (.istore_n 3, 1) := by decide +kernel
theorem d_Mo_init_378 : decode prog_12_method_1_code 378 = .ok (.iload_n 3, 1) := by decide +kernel
theorem d_Mo_init_379 : decode prog_12_method_1_code 379 = .ok (.bipush 8, 2) := by decide +kernel
theorem d_Mo_init_381 : decode prog_12_method_1_code 381 = .ok (.if_icmp .ge 16, 3) := by decide +kernel
theorem d_Mo_init_384 : decode prog_12_method_1_code 384 = .ok (.aload_n 0, 1) := by decide +kernel
theorem d_Mo_init_385 : decode prog_12_method_1_code 385 = .ok (.getfield 86, 3) := by decide +kernel
theorem d_Mo_init_388 : decode prog_12_method_1_code 388 = .ok (.iload_n 3, 1) := by decide +kernel
theorem d_Mo_init_389 : decode prog_12_method_1_code 389 = .ok (.iconst (-1), 1) := by decide +kernel
theorem d_Mo_init_390 : decode prog_12_method_1_code 390 = .ok (.iastore, 1) := by decide +kernel
theorem d_Mo_init_391 : decode prog_12_method_1_code 391 = .ok (.iinc 3 1, 3) := by decide +kernel
theorem d_Mo_init_394 : decode prog_12_method_1_code 394 = .ok (.goto (-16), 3) := by decide +kernel
theorem d_Mo_init_397 : decode prog_12_method_1_code 397 = .ok (.return_, 1) := by decide +kernel
theorem d_ML_isBelow_0 : decode prog_1_method_11_code 0 = .ok (.iload_n 0, 1) := by decide +kernel
theorem d_ML_isBelow_1 : decode prog_1_method_11_code 1 = .ok (.ifCond .lt 12, 3) := by decide +kernel
theorem d_ML_isBelow_4 : decode prog_1_method_11_code 4 = .ok (.iload_n 0, 1) := by decide +kernel
theorem d_ML_isBelow_5 : decode prog_1_method_11_code 5 = .ok (.iload_n 1, 1) := by decide +kernel
theorem d_ML_isBelow_6 : decode prog_1_method_11_code 6 = .ok (.if_icmp .ge 7, 3) := by decide +kernel
theorem d_ML_isBelow_9 : decode prog_1_method_11_code 9 = .ok (.iconst 1, 1) := by decide +kernel
theorem d_ML_isBelow_10 : decode prog_1_method_11_code 10 = .ok (.goto 4, 3) := by decide +kernel
theorem d_ML_isBelow_13 : decode prog_1_method_11_code 13 = .ok (.iconst 0, 1) := by decide +kernel
theorem d_ML_isBelow_14 : decode prog_1_method_11_code 14 = .ok (.ireturn, 1) := by decide +kernel
theorem d_Co_append_0 : decode prog_3_method_2_code 0 = .ok (.aload_n 0, 1) := by decide +kernel
theorem d_Co_append_1 : decode prog_3_method_2_code 1 = .ok (.getfield 31, 3) := by decide +kernel
theorem d_Co_append_4 : decode prog_3_method_2_code 4 = .ok (.bipush 40, 2) := by decide +kernel
theorem d_Co_append_6 : decode prog_3_method_2_code 6 = .ok (.if_icmp .lt 5, 3) := by decide +kernel
theorem d_Co_append_9 : decode prog_3_method_2_code 9 = .ok (.iconst (-1), 1) := by decide +kernel
theorem d_Co_append_10 : decode prog_3_method_2_code 10 = .ok (.ireturn, 1) := by decide +kernel
theorem d_Co_append_11 : decode prog_3_method_2_code 11 = .ok (.aload_n 0, 1) := by decide +kernel
theorem d_Co_append_12 : decode prog_3_method_2_code 12 = .ok (.getfield 9, 3) := by decide +kernel
theorem d_Co_append_15 : decode prog_3_method_2_code 15 = .ok (.aload_n 0, 1) := by decide +kernel
theorem d_Co_append_16 : decode prog_3_method_2_code 16 = .ok (.getfield 31, 3) := by decide +kernel
theorem d_Co_append_19 : decode prog_3_method_2_code 19 = .ok (.iload_n 1, 1) := by decide +kernel
theorem d_Co_append_20 : decode prog_3_method_2_code 20 = .ok (.iastore, 1) := by decide +kernel
theorem d_Co_append_21 : decode prog_3_method_2_code 21 = .ok (.aload_n 0, 1) := by decide +kernel
theorem d_Co_append_22 : decode prog_3_method_2_code 22 = .ok (.getfield 15, 3) := by decide +kernel
theorem d_Co_append_25 : decode prog_3_method_2_code 25 = .ok (.aload_n 0, 1) := by decide +kernel
theorem d_Co_append_26 : decode prog_3_method_2_code 26 = .ok (.getfield 31, 3) := by decide +kernel
theorem d_Co_append_29 : decode prog_3_method_2_code 29 = .ok (.iload_n 2, 1) := by decide +kernel
theorem d_Co_append_30 : decode prog_3_method_2_code 30 = .ok (.iastore, 1) := by decide +kernel
theorem d_Co_append_31 : decode prog_3_method_2_code 31 = .ok (.aload_n 0, 1) := by decide +kernel
theorem d_Co_append_32 : decode prog_3_method_2_code 32 = .ok (.getfield 18, 3) := by decide +kernel
theorem d_Co_append_35 : decode prog_3_method_2_code 35 = .ok (.aload_n 0, 1) := by decide +kernel
theorem d_Co_append_36 : decode prog_3_method_2_code 36 = .ok (.getfield 31, 3) := by decide +kernel
theorem d_Co_append_39 : decode prog_3_method_2_code 39 = .ok (.iload_n 3, 1) := by decide +kernel
theorem d_Co_append_40 : decode prog_3_method_2_code 40 = .ok (.iastore, 1) := by decide +kernel
theorem d_Co_append_41 : decode prog_3_method_2_code 41 = .ok (.aload_n 0, 1) := by decide +kernel
theorem d_Co_append_42 : decode prog_3_method_2_code 42 = .ok (.getfield 21, 3) := by decide +kernel
theorem d_Co_append_45 : decode prog_3_method_2_code 45 = .ok (.aload_n 0, 1) := by decide +kernel
theorem d_Co_append_46 : decode prog_3_method_2_code 46 = .ok (.getfield 31, 3) := by decide +kernel
theorem d_Co_append_49 : decode prog_3_method_2_code 49 = .ok (.iload 4, 2) := by decide +kernel
theorem d_Co_append_51 : decode prog_3_method_2_code 51 = .ok (.iastore, 1) := by decide +kernel
theorem d_Co_append_52 : decode prog_3_method_2_code 52 = .ok (.aload_n 0, 1) := by decide +kernel
theorem d_Co_append_53 : decode prog_3_method_2_code 53 = .ok (.dup, 1) := by decide +kernel
theorem d_Co_append_54 : decode prog_3_method_2_code 54 = .ok (.getfield 31, 3) := by decide +kernel
theorem d_Co_append_57 : decode prog_3_method_2_code 57 = .ok (.iconst 1, 1) := by decide +kernel
theorem d_Co_append_58 : decode prog_3_method_2_code 58 = .ok (.iadd, 1) := by decide +kernel
theorem d_Co_append_59 : decode prog_3_method_2_code 59 = .ok (.putfield 31, 3) := by decide +kernel
theorem d_Co_append_62 : decode prog_3_method_2_code 62 = .ok (.aload_n 0, 1) := by decide +kernel
theorem d_Co_append_63 : decode prog_3_method_2_code 63 = .ok (.getfield 31, 3) := by decide +kernel
theorem d_Co_append_66 : decode prog_3_method_2_code 66 = .ok (.iconst 1, 1) := by decide +kernel
theorem d_Co_append_67 : decode prog_3_method_2_code 67 = .ok (.isub, 1) := by decide +kernel
theorem d_Co_append_68 : decode prog_3_method_2_code 68 = .ok (.ireturn, 1) := by decide +kernel
theorem d_ML_operation_0 : decode prog_1_method_2_code 0 = .ok (.iload_n 1, 1) := by decide +kernel
theorem d_ML_operation_1 : decode prog_1_method_2_code 1 = .ok (.bipush 6, 2) := by decide +kernel
theorem d_ML_operation_3 : decode prog_1_method_2_code 3 = .ok (.invokestatic 40, 3) := by decide +kernel
theorem d_ML_operation_6 : decode prog_1_method_2_code 6 = .ok (.ifCond .eq 20, 3) := by decide +kernel
theorem d_ML_operation_9 : decode prog_1_method_2_code 9 = .ok (.iload_n 2, 1) := by decide +kernel
theorem d_ML_operation_10 : decode prog_1_method_2_code 10 = .ok (.iconst 3, 1) := by decide +kernel
theorem d_ML_operation_11 : decode prog_1_method_2_code 11 = .ok (.invokestatic 40, 3) := by decide +kernel
theorem d_ML_operation_14 : decode prog_1_method_2_code 14 = .ok (.ifCond .eq 12, 3) := by decide +kernel
theorem d_ML_operation_17 : decode prog_1_method_2_code 17 = .ok (.iload_n 3, 1) := by decide +kernel
theorem d_ML_operation_18 : decode prog_1_method_2_code 18 = .ok (.bipush 8, 2) := by decide +kernel
theorem d_ML_operation_20 : decode prog_1_method_2_code 20 = .ok (.invokestatic 40, 3) := by decide +kernel
theorem d_ML_operation_23 : decode prog_1_method_2_code 23 = .ok (.ifCond .ne 5, 3) := by decide +kernel
theorem d_ML_operation_26 : decode prog_1_method_2_code 26 = .ok (.iconst (-1), 1) := by decide +kernel
theorem d_ML_operation_27 : decode prog_1_method_2_code 27 = .ok (.ireturn, 1) := by decide +kernel
theorem d_ML_operation_28 : decode prog_1_method_2_code 28 = .ok (.iload 5, 2) := by decide +kernel
theorem d_ML_operation_30 : decode prog_1_method_2_code 30 = .ok (.bipush 51, 2) := by decide +kernel
theorem d_ML_operation_32 : decode prog_1_method_2_code 32 = .ok (.invokestatic 40, 3) := by decide +kernel
theorem d_ML_operation_35 : decode prog_1_method_2_code 35 = .ok (.ifCond .ne 5, 3) := by decide +kernel
theorem d_ML_operation_38 : decode prog_1_method_2_code 38 = .ok (.iconst (-1), 1) := by decide +kernel
theorem d_ML_operation_39 : decode prog_1_method_2_code 39 = .ok (.ireturn, 1) := by decide +kernel
theorem d_ML_operation_40 : decode prog_1_method_2_code 40 = .ok (.aload_n 0, 1) := by decide +kernel
theorem d_ML_operation_41 : decode prog_1_method_2_code 41 = .ok (.getfield 33, 3) := by decide +kernel
theorem d_ML_operation_44 : decode prog_1_method_2_code 44 = .ok (.iload_n 1, 1) := by decide +kernel
theorem d_ML_operation_45 : decode prog_1_method_2_code 45 = .ok (.aaload, 1) := by decide +kernel
theorem d_ML_operation_46 : decode prog_1_method_2_code 46 = .ok (.getfield 44, 3) := by decide +kernel
theorem d_ML_operation_49 : decode prog_1_method_2_code 49 = .ok (.iload_n 2, 1) := by decide +kernel
theorem d_ML_operation_50 : decode prog_1_method_2_code 50 = .ok (.iload_n 3, 1) := by decide +kernel
theorem d_ML_operation_51 : decode prog_1_method_2_code 51 = .ok (.iload 4, 2) := by decide +kernel
theorem d_ML_operation_53 : decode prog_1_method_2_code 53 = .ok (.iload 5, 2) := by decide +kernel
theorem d_ML_operation_55 : decode prog_1_method_2_code 55 = .ok (.invokevirtual 48, 3) := by decide +kernel
theorem d_ML_operation_58 : decode prog_1_method_2_code 58 = .ok (.ireturn, 1) := by decide +kernel
theorem d_Mo_isNode_0 : decode prog_12_method_2_code 0 = .ok (.iload_n 0, 1) := by decide +kernel
theorem d_Mo_isNode_1 : decode prog_12_method_2_code 1 = .ok (.ifCond .lt 13, 3) := by decide +kernel
theorem d_Mo_isNode_4 : decode prog_12_method_2_code 4 = .ok (.iload_n 0, 1) := by decide +kernel
theorem d_Mo_isNode_5 : decode prog_12_method_2_code 5 = .ok (.bipush 6, 2) := by decide +kernel
theorem d_Mo_isNode_7 : decode prog_12_method_2_code 7 = .ok (.if_icmp .ge 7, 3) := by decide +kernel
theorem d_Mo_isNode_10 : decode prog_12_method_2_code 10 = .ok (.iconst 1, 1) := by decide +kernel
theorem d_Mo_isNode_11 : decode prog_12_method_2_code 11 = .ok (.goto 4, 3) := by decide +kernel
theorem d_Mo_isNode_14 : decode prog_12_method_2_code 14 = .ok (.iconst 0, 1) := by decide +kernel
theorem d_Mo_isNode_15 : decode prog_12_method_2_code 15 = .ok (.ireturn, 1) := by decide +kernel
theorem d_Mo_isLine_0 : decode prog_12_method_3_code 0 = .ok (.iload_n 0, 1) := by decide +kernel
theorem d_Mo_isLine_1 : decode prog_12_method_3_code 1 = .ok (.ifCond .lt 13, 3) := by decide +kernel
theorem d_Mo_isLine_4 : decode prog_12_method_3_code 4 = .ok (.iload_n 0, 1) := by decide +kernel
theorem d_Mo_isLine_5 : decode prog_12_method_3_code 5 = .ok (.bipush 8, 2) := by decide +kernel
theorem d_Mo_isLine_7 : decode prog_12_method_3_code 7 = .ok (.if_icmp .ge 7, 3) := by decide +kernel
theorem d_Mo_isLine_10 : decode prog_12_method_3_code 10 = .ok (.iconst 1, 1) := by decide +kernel
theorem d_Mo_isLine_11 : decode prog_12_method_3_code 11 = .ok (.goto 4, 3) := by decide +kernel
theorem d_Mo_isLine_14 : decode prog_12_method_3_code 14 = .ok (.iconst 0, 1) := by decide +kernel
theorem d_Mo_isLine_15 : decode prog_12_method_3_code 15 = .ok (.ireturn, 1) := by decide +kernel
theorem d_Mo_operation_0 : decode prog_12_method_32_code 0 = .ok (.iload_n 1, 1) := by decide +kernel
theorem d_Mo_operation_1 : decode prog_12_method_32_code 1 = .ok (.invokestatic 227, 3) := by decide +kernel
theorem d_Mo_operation_4 : decode prog_12_method_32_code 4 = .ok (.ifCond .eq 42, 3) := by decide +kernel
theorem d_Mo_operation_7 : decode prog_12_method_32_code 7 = .ok (.iload_n 2, 1) := by decide +kernel
theorem d_Mo_operation_8 : decode prog_12_method_32_code 8 = .ok (.ifCond .lt 38, 3) := by decide +kernel
theorem d_Mo_operation_11 : decode prog_12_method_32_code 11 = .ok (.iload_n 2, 1) := by decide +kernel
theorem d_Mo_operation_12 : decode prog_12_method_32_code 12 = .ok (.iconst 2, 1) := by decide +kernel
theorem d_Mo_operation_13 : decode prog_12_method_32_code 13 = .ok (.if_icmp .gt 33, 3) := by decide +kernel
theorem d_Mo_operation_16 : decode prog_12_method_32_code 16 = .ok (.iload_n 3, 1) := by decide +kernel
theorem d_Mo_operation_17 : decode prog_12_method_32_code 17 = .ok (.invokestatic 230, 3) := by decide +kernel
theorem d_Mo_operation_20 : decode prog_12_method_32_code 20 = .ok (.ifCond .eq 26, 3) := by decide +kernel
theorem d_Mo_operation_23 : decode prog_12_method_32_code 23 = .ok (.iload 5, 2) := by decide +kernel
theorem d_Mo_operation_25 : decode prog_12_method_32_code 25 = .ok (.ifCond .lt 21, 3) := by decide +kernel
theorem d_Mo_operation_28 : decode prog_12_method_32_code 28 = .ok (.iload 5, 2) := by decide +kernel
theorem d_Mo_operation_30 : decode prog_12_method_32_code 30 = .ok (.bipush 50, 2) := by decide +kernel
theorem d_Mo_operation_32 : decode prog_12_method_32_code 32 = .ok (.if_icmp .gt 14, 3) := by decide +kernel
theorem d_Mo_operation_35 : decode prog_12_method_32_code 35 = .ok (.aload_n 0, 1) := by decide +kernel
theorem d_Mo_operation_36 : decode prog_12_method_32_code 36 = .ok (.getfield 107, 3) := by decide +kernel
theorem d_Mo_operation_39 : decode prog_12_method_32_code 39 = .ok (.iload_n 1, 1) := by decide +kernel
theorem d_Mo_operation_40 : decode prog_12_method_32_code 40 = .ok (.iaload, 1) := by decide +kernel
theorem d_Mo_operation_41 : decode prog_12_method_32_code 41 = .ok (.bipush 40, 2) := by decide +kernel
theorem d_Mo_operation_43 : decode prog_12_method_32_code 43 = .ok (.if_icmp .ne 5, 3) := by decide +kernel
theorem d_Mo_operation_46 : decode prog_12_method_32_code 46 = .ok (.iconst (-1), 1) := by decide +kernel
theorem d_Mo_operation_47 : decode prog_12_method_32_code 47 = .ok (.ireturn, 1) := by decide +kernel
theorem d_Mo_operation_48 : decode prog_12_method_32_code 48 = .ok (.bipush 40, 2) := by decide +kernel
theorem d_Mo_operation_50 : decode prog_12_method_32_code 50 = .ok (.iload_n 1, 1) := by decide +kernel
theorem d_Mo_operation_51 : decode prog_12_method_32_code 51 = .ok (.imul, 1) := by decide +kernel
theorem d_Mo_operation_52 : decode prog_12_method_32_code 52 = .ok (.aload_n 0, 1) := by decide +kernel
theorem d_Mo_operation_53 : decode prog_12_method_32_code 53 = .ok (.getfield 107, 3) := by decide +kernel
theorem d_Mo_operation_56 : decode prog_12_method_32_code 56 = .ok (.iload_n 1, 1) := by decide +kernel
theorem d_Mo_operation_57 : decode prog_12_method_32_code 57 = .ok (.iaload, 1) := by decide +kernel
theorem d_Mo_operation_58 : decode prog_12_method_32_code 58 = .ok (.iadd, 1) := by decide +kernel
theorem d_Mo_operation_59 : decode prog_12_method_32_code 59 = .ok (.istore 6, 2) := by decide +kernel
theorem d_Mo_operation_61 : decode prog_12_method_32_code 61 = .ok (.aload_n 0, 1) := by decide +kernel
theorem d_Mo_operation_62 : decode prog_12_method_32_code 62 = .ok (.getfield 92, 3) := by decide +kernel
theorem d_Mo_operation_65 : decode prog_12_method_32_code 65 = .ok (.iload 6, 2) := by decide +kernel
theorem d_Mo_operation_67 : decode prog_12_method_32_code 67 = .ok (.iload_n 2, 1) := by decide +kernel
theorem d_Mo_operation_68 : decode prog_12_method_32_code 68 = .ok (.iastore, 1) := by decide +kernel
theorem d_Mo_operation_69 : decode prog_12_method_32_code 69 = .ok (.aload_n 0, 1) := by decide +kernel
theorem d_Mo_operation_70 : decode prog_12_method_32_code 70 = .ok (.getfield 95, 3) := by decide +kernel
theorem d_Mo_operation_73 : decode prog_12_method_32_code 73 = .ok (.iload 6, 2) := by decide +kernel
theorem d_Mo_operation_75 : decode prog_12_method_32_code 75 = .ok (.iload_n 3, 1) := by decide +kernel
theorem d_Mo_operation_76 : decode prog_12_method_32_code 76 = .ok (.iastore, 1) := by decide +kernel
theorem d_Mo_operation_77 : decode prog_12_method_32_code 77 = .ok (.aload_n 0, 1) := by decide +kernel
theorem d_Mo_operation_78 : decode prog_12_method_32_code 78 = .ok (.getfield 98, 3) := by decide +kernel
theorem d_Mo_operation_81 : decode prog_12_method_32_code 81 = .ok (.iload 6, 2) := by decide +kernel
theorem d_Mo_operation_83 : decode prog_12_method_32_code 83 = .ok (.iload 4, 2) := by decide +kernel
theorem d_Mo_operation_85 : decode prog_12_method_32_code 85 = .ok (.iastore, 1) := by decide +kernel
theorem d_Mo_operation_86 : decode prog_12_method_32_code 86 = .ok (.aload_n 0, 1) := by decide +kernel
theorem d_Mo_operation_87 : decode prog_12_method_32_code 87 = .ok (.getfield 101, 3) := by decide +kernel
theorem d_Mo_operation_90 : decode prog_12_method_32_code 90 = .ok (.iload 6, 2) := by decide +kernel
theorem d_Mo_operation_92 : decode prog_12_method_32_code 92 = .ok (.iload 5, 2) := by decide +kernel
theorem d_Mo_operation_94 : decode prog_12_method_32_code 94 = .ok (.iastore, 1) := by decide +kernel
theorem d_Mo_operation_95 : decode prog_12_method_32_code 95 = .ok (.aload_n 0, 1) := by decide +kernel
theorem d_Mo_operation_96 : decode prog_12_method_32_code 96 = .ok (.getfield 107, 3) := by decide +kernel
theorem d_Mo_operation_99 : decode prog_12_method_32_code 99 = .ok (.iload_n 1, 1) := by decide +kernel
theorem d_Mo_operation_100 : decode prog_12_method_32_code 100 = .ok (.dup2, 1) := by decide +kernel
theorem d_Mo_operation_101 : decode prog_12_method_32_code 101 = .ok (.iaload, 1) := by decide +kernel
theorem d_Mo_operation_102 : decode prog_12_method_32_code 102 = .ok (.iconst 1, 1) := by decide +kernel
theorem d_Mo_operation_103 : decode prog_12_method_32_code 103 = .ok (.iadd, 1) := by decide +kernel
theorem d_Mo_operation_104 : decode prog_12_method_32_code 104 = .ok (.iastore, 1) := by decide +kernel
theorem d_Mo_operation_105 : decode prog_12_method_32_code 105 = .ok (.aload_n 0, 1) := by decide +kernel
theorem d_Mo_operation_106 : decode prog_12_method_32_code 106 = .ok (.getfield 107, 3) := by decide +kernel
theorem d_Mo_operation_109 : decode prog_12_method_32_code 109 = .ok (.iload_n 1, 1) := by decide +kernel
theorem d_Mo_operation_110 : decode prog_12_method_32_code 110 = .ok (.iaload, 1) := by decide +kernel
theorem d_Mo_operation_111 : decode prog_12_method_32_code 111 = .ok (.iconst 1, 1) := by decide +kernel
theorem d_Mo_operation_112 : decode prog_12_method_32_code 112 = .ok (.isub, 1) := by decide +kernel
theorem d_Mo_operation_113 : decode prog_12_method_32_code 113 = .ok (.ireturn, 1) := by decide +kernel
theorem d_AL_isEmpty_0 : decode prog_21_method_9_code 0 = .ok (.aload_n 0, 1) := by decide +kernel
theorem d_AL_isEmpty_1 : decode prog_21_method_9_code 1 = .ok (.getfield 48, 3) := by decide +kernel
theorem d_AL_isEmpty_4 : decode prog_21_method_9_code 4 = .ok (.ifCond .ne 7, 3) := by decide +kernel
theorem d_AL_isEmpty_7 : decode prog_21_method_9_code 7 = .ok (.iconst 1, 1) := by decide +kernel
theorem d_AL_isEmpty_8 : decode prog_21_method_9_code 8 = .ok (.goto 4, 3) := by decide +kernel
theorem d_AL_isEmpty_11 : decode prog_21_method_9_code 11 = .ok (.iconst 0, 1) := by decide +kernel
theorem d_AL_isEmpty_12 : decode prog_21_method_9_code 12 = .ok (.ireturn, 1) := by decide +kernel
theorem d_FB_hasRoom_0 : decode prog_5_method_2_code 0 = .ok (.aload_n 0, 1) := by decide +kernel
theorem d_FB_hasRoom_1 : decode prog_5_method_2_code 1 = .ok (.getfield 15, 3) := by decide +kernel
theorem d_FB_hasRoom_4 : decode prog_5_method_2_code 4 = .ok (.aload_n 0, 1) := by decide +kernel
theorem d_FB_hasRoom_5 : decode prog_5_method_2_code 5 = .ok (.getfield 9, 3) := by decide +kernel
theorem d_FB_hasRoom_8 : decode prog_5_method_2_code 8 = .ok (.arraylength, 1) := by decide +kernel
theorem d_FB_hasRoom_9 : decode prog_5_method_2_code 9 = .ok (.if_icmp .ge 7, 3) := by decide +kernel
theorem d_FB_hasRoom_12 : decode prog_5_method_2_code 12 = .ok (.iconst 1, 1) := by decide +kernel
theorem d_FB_hasRoom_13 : decode prog_5_method_2_code 13 = .ok (.goto 4, 3) := by decide +kernel
theorem d_FB_hasRoom_16 : decode prog_5_method_2_code 16 = .ok (.iconst 0, 1) := by decide +kernel
theorem d_FB_hasRoom_17 : decode prog_5_method_2_code 17 = .ok (.ireturn, 1) := by decide +kernel
theorem d_Pr_checkIndex_0 : decode prog_29_method_11_code 0 = .ok (.iload_n 0, 1) := by decide +kernel
theorem d_Pr_checkIndex_1 : decode prog_29_method_11_code 1 = .ok (.ifCond .lt 8, 3) := by decide +kernel
theorem d_Pr_checkIndex_4 : decode prog_29_method_11_code 4 = .ok (.iload_n 0, 1) := by decide +kernel
theorem d_Pr_checkIndex_5 : decode prog_29_method_11_code 5 = .ok (.iload_n 1, 1) := by decide +kernel
theorem d_Pr_checkIndex_6 : decode prog_29_method_11_code 6 = .ok (.if_icmp .lt 10, 3) := by decide +kernel
theorem d_Pr_checkIndex_9 : decode prog_29_method_11_code 9 = .ok (.aload_n 2, 1) := by decide +kernel
theorem d_Pr_checkIndex_10 : decode prog_29_method_11_code 10 = .ok (.iload_n 0, 1) := by decide +kernel
theorem d_Pr_checkIndex_11 : decode prog_29_method_11_code 11 = .ok (.iload_n 1, 1) := by decide +kernel
theorem d_Pr_checkIndex_16 : decode prog_29_method_11_code 16 = .ok (.iload_n 0, 1) := by decide +kernel
theorem d_Pr_checkIndex_17 : decode prog_29_method_11_code 17 = .ok (.ireturn, 1) := by decide +kernel
theorem d_Os_checkIndex_0 : decode prog_25_method_17_code 0 = .ok (.iload_n 0, 1) := by decide +kernel
theorem d_Os_checkIndex_1 : decode prog_25_method_17_code 1 = .ok (.iload_n 1, 1) := by decide +kernel
theorem d_Os_checkIndex_2 : decode prog_25_method_17_code 2 = .ok (.aconst_null, 1) := by decide +kernel
theorem d_Os_checkIndex_3 : decode prog_25_method_17_code 3 = .ok (.invokestatic 105, 3) := by decide +kernel
theorem d_Os_checkIndex_6 : decode prog_25_method_17_code 6 = .ok (.ireturn, 1) := by decide +kernel
theorem d_AL_elementData_0 : decode prog_21_method_18_code 0 = .ok (.aload_n 0, 1) := by decide +kernel
theorem d_AL_elementData_1 : decode prog_21_method_18_code 1 = .ok (.getfield 9, 3) := by decide +kernel
theorem d_AL_elementData_4 : decode prog_21_method_18_code 4 = .ok (.iload_n 1, 1) := by decide +kernel
theorem d_AL_elementData_5 : decode prog_21_method_18_code 5 = .ok (.aaload, 1) := by decide +kernel
theorem d_AL_elementData_6 : decode prog_21_method_18_code 6 = .ok (.areturn, 1) := by decide +kernel
theorem d_AL_get_0 : decode prog_21_method_20_code 0 = .ok (.iload_n 1, 1) := by decide +kernel
theorem d_AL_get_1 : decode prog_21_method_20_code 1 = .ok (.aload_n 0, 1) := by decide +kernel
theorem d_AL_get_2 : decode prog_21_method_20_code 2 = .ok (.getfield 48, 3) := by decide +kernel
theorem d_AL_get_5 : decode prog_21_method_20_code 5 = .ok (.invokestatic 118, 3) := by decide +kernel
theorem d_AL_get_8 : decode prog_21_method_20_code 8 = .ok (.pop, 1) := by decide +kernel
theorem d_AL_get_9 : decode prog_21_method_20_code 9 = .ok (.aload_n 0, 1) := by decide +kernel
theorem d_AL_get_10 : decode prog_21_method_20_code 10 = .ok (.iload_n 1, 1) := by decide +kernel
theorem d_AL_get_11 : decode prog_21_method_20_code 11 = .ok (.invokevirtual 123, 3) := by decide +kernel
theorem d_AL_get_14 : decode prog_21_method_20_code 14 = .ok (.areturn, 1) := by decide +kernel
theorem d_Fl_init_0 : decode prog_4_method_1_code 0 = .ok (.aload_n 0, 1) := by decide +kernel
theorem d_Fl_init_1 : decode prog_4_method_1_code 1 = .ok (.invokespecial 1, 3) := by decide +kernel
theorem d_Fl_init_4 : decode prog_4_method_1_code 4 = .ok (.aload_n 0, 1) := by decide +kernel
theorem d_Fl_init_5 : decode prog_4_method_1_code 5 = .ok (.aload_n 1, 1) := by decide +kernel
theorem d_Fl_init_6 : decode prog_4_method_1_code 6 = .ok (.putfield 7, 3) := by decide +kernel
theorem d_Fl_init_9 : decode prog_4_method_1_code 9 = .ok (.aload_n 0, 1) := by decide +kernel
theorem d_Fl_init_10 : decode prog_4_method_1_code 10 = .ok (.iload_n 2, 1) := by decide +kernel
theorem d_Fl_init_11 : decode prog_4_method_1_code 11 = .ok (.ifCond .ne 7, 3) := by decide +kernel
theorem d_Fl_init_14 : decode prog_4_method_1_code 14 = .ok (.iconst 1, 1) := by decide +kernel
theorem d_Fl_init_15 : decode prog_4_method_1_code 15 = .ok (.goto 4, 3) := by decide +kernel
theorem d_Fl_init_18 : decode prog_4_method_1_code 18 = .ok (.iconst 0, 1) := by decide +kernel
theorem d_Fl_init_19 : decode prog_4_method_1_code 19 = .ok (.putfield 13, 3) := by decide +kernel
theorem d_Fl_init_22 : decode prog_4_method_1_code 22 = .ok (.aload_n 0, 1) := by decide +kernel
theorem d_Fl_init_23 : decode prog_4_method_1_code 23 = .ok (.iload_n 2, 1) := by decide +kernel
theorem d_Fl_init_24 : decode prog_4_method_1_code 24 = .ok (.aload_n 1, 1) := by decide +kernel
theorem d_Fl_init_25 : decode prog_4_method_1_code 25 = .ok (.getfield 17, 3) := by decide +kernel
theorem d_Fl_init_28 : decode prog_4_method_1_code 28 = .ok (.iconst 1, 1) := by decide +kernel
theorem d_Fl_init_29 : decode prog_4_method_1_code 29 = .ok (.isub, 1) := by decide +kernel
theorem d_Fl_init_30 : decode prog_4_method_1_code 30 = .ok (.if_icmp .ne 7, 3) := by decide +kernel
theorem d_Fl_init_33 : decode prog_4_method_1_code 33 = .ok (.iconst 1, 1) := by decide +kernel
theorem d_Fl_init_34 : decode prog_4_method_1_code 34 = .ok (.goto 4, 3) := by decide +kernel
theorem d_Fl_init_37 : decode prog_4_method_1_code 37 = .ok (.iconst 0, 1) := by decide +kernel
theorem d_Fl_init_38 : decode prog_4_method_1_code 38 = .ok (.putfield 23, 3) := by decide +kernel
theorem d_Fl_init_41 : decode prog_4_method_1_code 41 = .ok (.return_, 1) := by decide +kernel
theorem d_FB_put_0 : decode prog_5_method_4_code 0 = .ok (.aload_n 0, 1) := by decide +kernel
theorem d_FB_put_1 : decode prog_5_method_4_code 1 = .ok (.invokevirtual 19, 3) := by decide +kernel
theorem d_FB_put_4 : decode prog_5_method_4_code 4 = .ok (.ifCond .eq 28, 3) := by decide +kernel
theorem d_FB_put_7 : decode prog_5_method_4_code 7 = .ok (.aload_n 1, 1) := by decide +kernel
theorem d_FB_put_8 : decode prog_5_method_4_code 8 = .ok (.iload_n 2, 1) := by decide +kernel
theorem d_FB_put_9 : decode prog_5_method_4_code 9 = .ok (.putfield 23, 3) := by decide +kernel
theorem d_FB_put_12 : decode prog_5_method_4_code 12 = .ok (.aload_n 0, 1) := by decide +kernel
theorem d_FB_put_13 : decode prog_5_method_4_code 13 = .ok (.getfield 9, 3) := by decide +kernel
theorem d_FB_put_16 : decode prog_5_method_4_code 16 = .ok (.aload_n 0, 1) := by decide +kernel
theorem d_FB_put_17 : decode prog_5_method_4_code 17 = .ok (.getfield 15, 3) := by decide +kernel
theorem d_FB_put_20 : decode prog_5_method_4_code 20 = .ok (.aload_n 1, 1) := by decide +kernel
theorem d_FB_put_21 : decode prog_5_method_4_code 21 = .ok (.aastore, 1) := by decide +kernel
theorem d_FB_put_22 : decode prog_5_method_4_code 22 = .ok (.aload_n 0, 1) := by decide +kernel
theorem d_FB_put_23 : decode prog_5_method_4_code 23 = .ok (.dup, 1) := by decide +kernel
theorem d_FB_put_24 : decode prog_5_method_4_code 24 = .ok (.getfield 15, 3) := by decide +kernel
theorem d_FB_put_27 : decode prog_5_method_4_code 27 = .ok (.iconst 1, 1) := by decide +kernel
theorem d_FB_put_28 : decode prog_5_method_4_code 28 = .ok (.iadd, 1) := by decide +kernel
theorem d_FB_put_29 : decode prog_5_method_4_code 29 = .ok (.putfield 15, 3) := by decide +kernel
theorem d_FB_put_32 : decode prog_5_method_4_code 32 = .ok (.return_, 1) := by decide +kernel
theorem d_AL_fastRemove_0 : decode prog_21_method_39_code 0 = .ok (.aload_n 0, 1) := by decide +kernel
theorem d_AL_fastRemove_1 : decode prog_21_method_39_code 1 = .ok (.dup, 1) := by decide +kernel
theorem d_AL_fastRemove_2 : decode prog_21_method_39_code 2 = .ok (.getfield 63, 3) := by decide +kernel
theorem d_AL_fastRemove_5 : decode prog_21_method_39_code 5 = .ok (.iconst 1, 1) := by decide +kernel
theorem d_AL_fastRemove_6 : decode prog_21_method_39_code 6 = .ok (.iadd, 1) := by decide +kernel
theorem d_AL_fastRemove_7 : decode prog_21_method_39_code 7 = .ok (.putfield 63, 3) := by decide +kernel
theorem d_AL_fastRemove_10 : decode prog_21_method_39_code 10 = .ok (.aload_n 0, 1) := by decide +kernel
theorem d_AL_fastRemove_11 : decode prog_21_method_39_code 11 = .ok (.getfield 48, 3) := by decide +kernel
theorem d_AL_fastRemove_14 : decode prog_21_method_39_code 14 = .ok (.iconst 1, 1) := by decide +kernel
theorem d_AL_fastRemove_15 : decode prog_21_method_39_code 15 = .ok (.isub, 1) := by decide +kernel
theorem d_AL_fastRemove_16 : decode prog_21_method_39_code 16 = .ok (.dup, 1) := by decide +kernel
theorem d_AL_fastRemove_17 : decode prog_21_method_39_code 17 = .ok (.istore_n 3, 1) := by decide +kernel
theorem d_AL_fastRemove_18 : decode prog_21_method_39_code 18 = .ok (.iload_n 2, 1) := by decide +kernel
theorem d_AL_fastRemove_19 : decode prog_21_method_39_code 19 = .ok (.if_icmp .le 15, 3) := by decide +kernel
theorem d_AL_fastRemove_22 : decode prog_21_method_39_code 22 = .ok (.aload_n 1, 1) := by decide +kernel
theorem d_AL_fastRemove_23 : decode prog_21_method_39_code 23 = .ok (.iload_n 2, 1) := by decide +kernel
theorem d_AL_fastRemove_24 : decode prog_21_method_39_code 24 = .ok (.iconst 1, 1) := by decide +kernel
theorem d_AL_fastRemove_25 : decode prog_21_method_39_code 25 = .ok (.iadd, 1) := by decide +kernel
theorem d_AL_fastRemove_26 : decode prog_21_method_39_code 26 = .ok (.aload_n 1, 1) := by decide +kernel
theorem d_AL_fastRemove_27 : decode prog_21_method_39_code 27 = .ok (.iload_n 2, 1) := by decide +kernel
theorem d_AL_fastRemove_28 : decode prog_21_method_39_code 28 = .ok (.iload_n 3, 1) := by decide +kernel
theorem d_AL_fastRemove_29 : decode prog_21_method_39_code 29 = .ok (.iload_n 2, 1) := by decide +kernel
theorem d_AL_fastRemove_30 : decode prog_21_method_39_code 30 = .ok (.isub, 1) := by decide +kernel
theorem d_AL_fastRemove_31 : decode prog_21_method_39_code 31 = .ok (.invokestatic 112, 3) := by decide +kernel
theorem d_AL_fastRemove_34 : decode prog_21_method_39_code 34 = .ok (.aload_n 1, 1) := by decide +kernel
theorem d_AL_fastRemove_35 : decode prog_21_method_39_code 35 = .ok (.aload_n 0, 1) := by decide +kernel
theorem d_AL_fastRemove_36 : decode prog_21_method_39_code 36 = .ok (.iload_n 3, 1) := by decide +kernel
theorem d_AL_fastRemove_37 : decode prog_21_method_39_code 37 = .ok (.dup_x1, 1) := by decide +kernel
theorem d_AL_fastRemove_38 : decode prog_21_method_39_code 38 = .ok (.putfield 48, 3) := by decide +kernel
theorem d_AL_fastRemove_41 : decode prog_21_method_39_code 41 = .ok (.aconst_null, 1) := by decide +kernel
theorem d_AL_fastRemove_42 : decode prog_21_method_39_code 42 = .ok (.aastore, 1) := by decide +kernel
theorem d_AL_fastRemove_43 : decode prog_21_method_39_code 43 = .ok (.return_, 1) := by decide +kernel
theorem d_AL_remove_0 : decode prog_21_method_29_code 0 = .ok (.iload_n 1, 1) := by decide +kernel
theorem d_AL_remove_1 : decode prog_21_method_29_code 1 = .ok (.aload_n 0, 1) := by decide +kernel
theorem d_AL_remove_2 : decode prog_21_method_29_code 2 = .ok (.getfield 48, 3) := by decide +kernel
theorem d_AL_remove_5 : decode prog_21_method_29_code 5 = .ok (.invokestatic 118, 3) := by decide +kernel
theorem d_AL_remove_8 : decode prog_21_method_29_code 8 = .ok (.pop, 1) := by decide +kernel
theorem d_AL_remove_9 : decode prog_21_method_29_code 9 = .ok (.aload_n 0, 1) := by decide +kernel
theorem d_AL_remove_10 : decode prog_21_method_29_code 10 = .ok (.getfield 9, 3) := by decide +kernel
theorem d_AL_remove_13 : decode prog_21_method_29_code 13 = .ok (.astore_n 2, 1) := by decide +kernel
theorem d_AL_remove_14 : decode prog_21_method_29_code 14 = .ok (.aload_n 2, 1) := by decide +kernel
theorem d_AL_remove_15 : decode prog_21_method_29_code 15 = .ok (.iload_n 1, 1) := by decide +kernel
theorem d_AL_remove_16 : decode prog_21_method_29_code 16 = .ok (.aaload, 1) := by decide +kernel
theorem d_AL_remove_17 : decode prog_21_method_29_code 17 = .ok (.astore_n 3, 1) := by decide +kernel
theorem d_AL_remove_18 : decode prog_21_method_29_code 18 = .ok (.aload_n 0, 1) := by decide +kernel
theorem d_AL_remove_19 : decode prog_21_method_29_code 19 = .ok (.aload_n 2, 1) := by decide +kernel
theorem d_AL_remove_20 : decode prog_21_method_29_code 20 = .ok (.iload_n 1, 1) := by decide +kernel
theorem d_AL_remove_21 : decode prog_21_method_29_code 21 = .ok (.invokevirtual 144, 3) := by decide +kernel
theorem d_AL_remove_24 : decode prog_21_method_29_code 24 = .ok (.aload_n 3, 1) := by decide +kernel
theorem d_AL_remove_25 : decode prog_21_method_29_code 25 = .ok (.areturn, 1) := by decide +kernel
theorem d_La_enterFlit_0 : decode prog_7_method_2_code 0 = .ok (.aload_n 0, 1) := by decide +kernel
theorem d_La_enterFlit_1 : decode prog_7_method_2_code 1 = .ok (.getfield 12, 3) := by decide +kernel
theorem d_La_enterFlit_4 : decode prog_7_method_2_code 4 = .ok (.invokevirtual 41, 3) := by decide +kernel
theorem d_La_enterFlit_7 : decode prog_7_method_2_code 7 = .ok (.ifCond .ne 15, 3) := by decide +kernel
theorem d_La_enterFlit_10 : decode prog_7_method_2_code 10 = .ok (.aload_n 0, 1) := by decide +kernel
theorem d_La_enterFlit_11 : decode prog_7_method_2_code 11 = .ok (.getfield 23, 3) := by decide +kernel
theorem d_La_enterFlit_14 : decode prog_7_method_2_code 14 = .ok (.iconst 4, 1) := by decide +kernel
theorem d_La_enterFlit_15 : decode prog_7_method_2_code 15 = .ok (.aaload, 1) := by decide +kernel
theorem d_La_enterFlit_16 : decode prog_7_method_2_code 16 = .ok (.invokevirtual 45, 3) := by decide +kernel
theorem d_La_enterFlit_19 : decode prog_7_method_2_code 19 = .ok (.ifCond .ne 4, 3) := by decide +kernel
theorem d_La_enterFlit_22 : decode prog_7_method_2_code 22 = .ok (.return_, 1) := by decide +kernel
theorem d_La_enterFlit_23 : decode prog_7_method_2_code 23 = .ok (.new 48, 3) := by decide +kernel
theorem d_La_enterFlit_26 : decode prog_7_method_2_code 26 = .ok (.dup, 1) := by decide +kernel
theorem d_La_enterFlit_27 : decode prog_7_method_2_code 27 = .ok (.aload_n 0, 1) := by decide +kernel
theorem d_La_enterFlit_28 : decode prog_7_method_2_code 28 = .ok (.getfield 12, 3) := by decide +kernel
theorem d_La_enterFlit_31 : decode prog_7_method_2_code 31 = .ok (.iconst 0, 1) := by decide +kernel
theorem d_La_enterFlit_32 : decode prog_7_method_2_code 32 = .ok (.invokevirtual 50, 3) := by decide +kernel
theorem d_La_enterFlit_35 : decode prog_7_method_2_code 35 = .ok (.checkcast 54, 3) := by decide +kernel
theorem d_La_enterFlit_38 : decode prog_7_method_2_code 38 = .ok (.aload_n 0, 1) := by decide +kernel
theorem d_La_enterFlit_39 : decode prog_7_method_2_code 39 = .ok (.getfield 56, 3) := by decide +kernel
theorem d_La_enterFlit_42 : decode prog_7_method_2_code 42 = .ok (.invokespecial 59, 3) := by decide +kernel
theorem d_La_enterFlit_45 : decode prog_7_method_2_code 45 = .ok (.astore_n 2, 1) := by decide +kernel
theorem d_La_enterFlit_46 : decode prog_7_method_2_code 46 = .ok (.aload_n 0, 1) := by decide +kernel
theorem d_La_enterFlit_47 : decode prog_7_method_2_code 47 = .ok (.getfield 23, 3) := by decide +kernel
theorem d_La_enterFlit_50 : decode prog_7_method_2_code 50 = .ok (.iconst 4, 1) := by decide +kernel
theorem d_La_enterFlit_51 : decode prog_7_method_2_code 51 = .ok (.aaload, 1) := by decide +kernel
theorem d_La_enterFlit_52 : decode prog_7_method_2_code 52 = .ok (.aload_n 2, 1) := by decide +kernel
theorem d_La_enterFlit_53 : decode prog_7_method_2_code 53 = .ok (.iload_n 1, 1) := by decide +kernel
theorem d_La_enterFlit_54 : decode prog_7_method_2_code 54 = .ok (.invokevirtual 62, 3) := by decide +kernel
theorem d_La_enterFlit_57 : decode prog_7_method_2_code 57 = .ok (.aload_n 0, 1) := by decide +kernel
theorem d_La_enterFlit_58 : decode prog_7_method_2_code 58 = .ok (.dup, 1) := by decide +kernel
theorem d_La_enterFlit_59 : decode prog_7_method_2_code 59 = .ok (.getfield 56, 3) := by decide +kernel
theorem d_La_enterFlit_62 : decode prog_7_method_2_code 62 = .ok (.iconst 1, 1) := by decide +kernel
theorem d_La_enterFlit_63 : decode prog_7_method_2_code 63 = .ok (.iadd, 1) := by decide +kernel
theorem d_La_enterFlit_64 : decode prog_7_method_2_code 64 = .ok (.putfield 56, 3) := by decide +kernel
theorem d_La_enterFlit_67 : decode prog_7_method_2_code 67 = .ok (.aload_n 2, 1) := by decide +kernel
theorem d_La_enterFlit_68 : decode prog_7_method_2_code 68 = .ok (.getfield 66, 3) := by decide +kernel
theorem d_La_enterFlit_71 : decode prog_7_method_2_code 71 = .ok (.ifCond .eq 17, 3) := by decide +kernel
theorem d_La_enterFlit_74 : decode prog_7_method_2_code 74 = .ok (.aload_n 0, 1) := by decide +kernel
theorem d_La_enterFlit_75 : decode prog_7_method_2_code 75 = .ok (.getfield 12, 3) := by decide +kernel
theorem d_La_enterFlit_78 : decode prog_7_method_2_code 78 = .ok (.iconst 0, 1) := by decide +kernel
theorem d_La_enterFlit_79 : decode prog_7_method_2_code 79 = .ok (.invokevirtual 70, 3) := by decide +kernel
theorem d_La_enterFlit_82 : decode prog_7_method_2_code 82 = .ok (.pop, 1) := by decide +kernel
theorem d_La_enterFlit_83 : decode prog_7_method_2_code 83 = .ok (.aload_n 0, 1) := by decide +kernel
theorem d_La_enterFlit_84 : decode prog_7_method_2_code 84 = .ok (.iconst 0, 1) := by decide +kernel
theorem d_La_enterFlit_85 : decode prog_7_method_2_code 85 = .ok (.putfield 56, 3) := by decide +kernel
theorem d_La_enterFlit_88 : decode prog_7_method_2_code 88 = .ok (.return_, 1) := by decide +kernel
theorem d_Me_enterFlits_0 : decode prog_8_method_4_code 0 = .ok (.iconst 0, 1) := by decide +kernel
theorem d_Me_enterFlits_1 : decode prog_8_method_4_code 1 = .ok (.istore_n 2, 1) := by decide +kernel
theorem d_Me_enterFlits_2 : decode prog_8_method_4_code 2 = .ok (.iload_n 2, 1) := by decide +kernel
theorem d_Me_enterFlits_3 : decode prog_8_method_4_code 3 = .ok (.aload_n 0, 1) := by decide +kernel
theorem d_Me_enterFlits_4 : decode prog_8_method_4_code 4 = .ok (.getfield 11, 3) := by decide +kernel
theorem d_Me_enterFlits_7 : decode prog_8_method_4_code 7 = .ok (.arraylength, 1) := by decide +kernel
theorem d_Me_enterFlits_8 : decode prog_8_method_4_code 8 = .ok (.if_icmp .ge 19, 3) := by decide +kernel
theorem d_Me_enterFlits_11 : decode prog_8_method_4_code 11 = .ok (.aload_n 0, 1) := by decide +kernel
theorem d_Me_enterFlits_12 : decode prog_8_method_4_code 12 = .ok (.getfield 11, 3) := by decide +kernel
theorem d_Me_enterFlits_15 : decode prog_8_method_4_code 15 = .ok (.iload_n 2, 1) := by decide +kernel
theorem d_Me_enterFlits_16 : decode prog_8_method_4_code 16 = .ok (.aaload, 1) := by decide +kernel
theorem d_Me_enterFlits_17 : decode prog_8_method_4_code 17 = .ok (.iload_n 1, 1) := by decide +kernel
theorem d_Me_enterFlits_18 : decode prog_8_method_4_code 18 = .ok (.invokevirtual 50, 3) := by decide +kernel
theorem d_Me_enterFlits_21 : decode prog_8_method_4_code 21 = .ok (.iinc 2 1, 3) := by decide +kernel
theorem d_Me_enterFlits_24 : decode prog_8_method_4_code 24 = .ok (.goto (-22), 3) := by decide +kernel
theorem d_Me_enterFlits_27 : decode prog_8_method_4_code 27 = .ok (.return_, 1) := by decide +kernel
theorem d_Me_laneOf_0 : decode prog_8_method_2_code 0 = .ok (.aload_n 0, 1) := by decide +kernel
theorem d_Me_laneOf_1 : decode prog_8_method_2_code 1 = .ok (.getfield 11, 3) := by decide +kernel
theorem d_Me_laneOf_4 : decode prog_8_method_2_code 4 = .ok (.iload_n 1, 1) := by decide +kernel
theorem d_Me_laneOf_5 : decode prog_8_method_2_code 5 = .ok (.iconst 3, 1) := by decide +kernel
theorem d_Me_laneOf_6 : decode prog_8_method_2_code 6 = .ok (.imul, 1) := by decide +kernel
theorem d_Me_laneOf_7 : decode prog_8_method_2_code 7 = .ok (.iload_n 2, 1) := by decide +kernel
theorem d_Me_laneOf_8 : decode prog_8_method_2_code 8 = .ok (.iadd, 1) := by decide +kernel
theorem d_Me_laneOf_9 : decode prog_8_method_2_code 9 = .ok (.aaload, 1) := by decide +kernel
theorem d_Me_laneOf_10 : decode prog_8_method_2_code 10 = .ok (.areturn, 1) := by decide +kernel
theorem d_FB_front_0 : decode prog_5_method_3_code 0 = .ok (.aload_n 0, 1) := by decide +kernel
theorem d_FB_front_1 : decode prog_5_method_3_code 1 = .ok (.getfield 15, 3) := by decide +kernel
theorem d_FB_front_4 : decode prog_5_method_3_code 4 = .ok (.ifCond .ne 7, 3) := by decide +kernel
theorem d_FB_front_7 : decode prog_5_method_3_code 7 = .ok (.aconst_null, 1) := by decide +kernel
theorem d_FB_front_8 : decode prog_5_method_3_code 8 = .ok (.goto 9, 3) := by decide +kernel
theorem d_FB_front_11 : decode prog_5_method_3_code 11 = .ok (.aload_n 0, 1) := by decide +kernel
theorem d_FB_front_12 : decode prog_5_method_3_code 12 = .ok (.getfield 9, 3) := by decide +kernel
theorem d_FB_front_15 : decode prog_5_method_3_code 15 = .ok (.iconst 0, 1) := by decide +kernel
theorem d_FB_front_16 : decode prog_5_method_3_code 16 = .ok (.aaload, 1) := by decide +kernel
theorem d_FB_front_17 : decode prog_5_method_3_code 17 = .ok (.areturn, 1) := by decide +kernel
theorem d_La_wayTo_0 : decode prog_7_method_4_code 0 = .ok (.iload_n 1, 1) := by decide +kernel
theorem d_La_wayTo_1 : decode prog_7_method_4_code 1 = .ok (.iconst 3, 1) := by decide +kernel
theorem d_La_wayTo_2 : decode prog_7_method_4_code 2 = .ok (.irem, 1) := by decide +kernel
theorem d_La_wayTo_3 : decode prog_7_method_4_code 3 = .ok (.aload_n 0, 1) := by decide +kernel
theorem d_La_wayTo_4 : decode prog_7_method_4_code 4 = .ok (.getfield 34, 3) := by decide +kernel
theorem d_La_wayTo_7 : decode prog_7_method_4_code 7 = .ok (.iconst 3, 1) := by decide +kernel
theorem d_La_wayTo_8 : decode prog_7_method_4_code 8 = .ok (.irem, 1) := by decide +kernel
theorem d_La_wayTo_9 : decode prog_7_method_4_code 9 = .ok (.isub, 1) := by decide +kernel
theorem d_La_wayTo_10 : decode prog_7_method_4_code 10 = .ok (.istore_n 2, 1) := by decide +kernel
theorem d_La_wayTo_11 : decode prog_7_method_4_code 11 = .ok (.iload_n 2, 1) := by decide +kernel
theorem d_La_wayTo_12 : decode prog_7_method_4_code 12 = .ok (.ifCond .eq 13, 3) := by decide +kernel
theorem d_La_wayTo_15 : decode prog_7_method_4_code 15 = .ok (.iload_n 2, 1) := by decide +kernel
theorem d_La_wayTo_16 : decode prog_7_method_4_code 16 = .ok (.ifCond .le 7, 3) := by decide +kernel
theorem d_La_wayTo_19 : decode prog_7_method_4_code 19 = .ok (.iconst 1, 1) := by decide +kernel
theorem d_La_wayTo_20 : decode prog_7_method_4_code 20 = .ok (.goto 4, 3) := by decide +kernel
theorem d_La_wayTo_23 : decode prog_7_method_4_code 23 = .ok (.iconst 3, 1) := by decide +kernel
theorem d_La_wayTo_24 : decode prog_7_method_4_code 24 = .ok (.ireturn, 1) := by decide +kernel
theorem d_La_wayTo_25 : decode prog_7_method_4_code 25 = .ok (.iload_n 1, 1) := by decide +kernel
theorem d_La_wayTo_26 : decode prog_7_method_4_code 26 = .ok (.iconst 3, 1) := by decide +kernel
theorem d_La_wayTo_27 : decode prog_7_method_4_code 27 = .ok (.idiv, 1) := by decide +kernel
theorem d_La_wayTo_28 : decode prog_7_method_4_code 28 = .ok (.aload_n 0, 1) := by decide +kernel
theorem d_La_wayTo_29 : decode prog_7_method_4_code 29 = .ok (.getfield 34, 3) := by decide +kernel
theorem d_La_wayTo_32 : decode prog_7_method_4_code 32 = .ok (.iconst 3, 1) := by decide +kernel
theorem d_La_wayTo_33 : decode prog_7_method_4_code 33 = .ok (.idiv, 1) := by decide +kernel
theorem d_La_wayTo_34 : decode prog_7_method_4_code 34 = .ok (.isub, 1) := by decide +kernel
theorem d_La_wayTo_35 : decode prog_7_method_4_code 35 = .ok (.istore_n 3, 1) := by decide +kernel
theorem d_La_wayTo_36 : decode prog_7_method_4_code 36 = .ok (.iload_n 3, 1) := by decide +kernel
theorem d_La_wayTo_37 : decode prog_7_method_4_code 37 = .ok (.ifCond .eq 13, 3) := by decide +kernel
theorem d_La_wayTo_40 : decode prog_7_method_4_code 40 = .ok (.iload_n 3, 1) := by decide +kernel
theorem d_La_wayTo_41 : decode prog_7_method_4_code 41 = .ok (.ifCond .le 7, 3) := by decide +kernel
theorem d_La_wayTo_44 : decode prog_7_method_4_code 44 = .ok (.iconst 2, 1) := by decide +kernel
theorem d_La_wayTo_45 : decode prog_7_method_4_code 45 = .ok (.goto 4, 3) := by decide +kernel
theorem d_La_wayTo_48 : decode prog_7_method_4_code 48 = .ok (.iconst 0, 1) := by decide +kernel
theorem d_La_wayTo_49 : decode prog_7_method_4_code 49 = .ok (.ireturn, 1) := by decide +kernel
theorem d_La_wayTo_50 : decode prog_7_method_4_code 50 = .ok (.iconst 4, 1) := by decide +kernel
theorem d_La_wayTo_51 : decode prog_7_method_4_code 51 = .ok (.ireturn, 1) := by decide +kernel
theorem d_La_portFor_0 : decode prog_7_method_3_code 0 = .ok (.aload_n 0, 1) := by decide +kernel
theorem d_La_portFor_1 : decode prog_7_method_3_code 1 = .ok (.getfield 27, 3) := by decide +kernel
theorem d_La_portFor_4 : decode prog_7_method_3_code 4 = .ok (.iload_n 1, 1) := by decide +kernel
theorem d_La_portFor_5 : decode prog_7_method_3_code 5 = .ok (.iaload, 1) := by decide +kernel
theorem d_La_portFor_6 : decode prog_7_method_3_code 6 = .ok (.iconst (-1), 1) := by decide +kernel
theorem d_La_portFor_7 : decode prog_7_method_3_code 7 = .ok (.if_icmp .eq 10, 3) := by decide +kernel
theorem d_La_portFor_10 : decode prog_7_method_3_code 10 = .ok (.aload_n 0, 1) := by decide +kernel
theorem d_La_portFor_11 : decode prog_7_method_3_code 11 = .ok (.getfield 27, 3) := by decide +kernel
theorem d_La_portFor_14 : decode prog_7_method_3_code 14 = .ok (.iload_n 1, 1) := by decide +kernel
theorem d_La_portFor_15 : decode prog_7_method_3_code 15 = .ok (.iaload, 1) := by decide +kernel
theorem d_La_portFor_16 : decode prog_7_method_3_code 16 = .ok (.ireturn, 1) := by decide +kernel
theorem d_La_portFor_17 : decode prog_7_method_3_code 17 = .ok (.iconst 1, 1) := by decide +kernel
theorem d_La_portFor_18 : decode prog_7_method_3_code 18 = .ok (.istore_n 2, 1) := by decide +kernel
theorem d_La_portFor_19 : decode prog_7_method_3_code 19 = .ok (.iload_n 2, 1) := by decide +kernel
theorem d_La_portFor_20 : decode prog_7_method_3_code 20 = .ok (.iconst 5, 1) := by decide +kernel
theorem d_La_portFor_21 : decode prog_7_method_3_code 21 = .ok (.if_icmp .gt 62, 3) := by decide +kernel
theorem d_La_portFor_24 : decode prog_7_method_3_code 24 = .ok (.aload_n 0, 1) := by decide +kernel
theorem d_La_portFor_25 : decode prog_7_method_3_code 25 = .ok (.getfield 31, 3) := by decide +kernel
theorem d_La_portFor_28 : decode prog_7_method_3_code 28 = .ok (.iload_n 1, 1) := by decide +kernel
theorem d_La_portFor_29 : decode prog_7_method_3_code 29 = .ok (.iaload, 1) := by decide +kernel
theorem d_La_portFor_30 : decode prog_7_method_3_code 30 = .ok (.iload_n 2, 1) := by decide +kernel
theorem d_La_portFor_31 : decode prog_7_method_3_code 31 = .ok (.iadd, 1) := by decide +kernel
theorem d_La_portFor_32 : decode prog_7_method_3_code 32 = .ok (.iconst 5, 1) := by decide +kernel
theorem d_La_portFor_33 : decode prog_7_method_3_code 33 = .ok (.irem, 1) := by decide +kernel
theorem d_La_portFor_34 : decode prog_7_method_3_code 34 = .ok (.istore_n 3, 1) := by decide +kernel
theorem d_La_portFor_35 : decode prog_7_method_3_code 35 = .ok (.aload_n 0, 1) := by decide +kernel
theorem d_La_portFor_36 : decode prog_7_method_3_code 36 = .ok (.getfield 23, 3) := by decide +kernel
theorem d_La_portFor_39 : decode prog_7_method_3_code 39 = .ok (.iload_n 3, 1) := by decide +kernel
theorem d_La_portFor_40 : decode prog_7_method_3_code 40 = .ok (.aaload, 1) := by decide +kernel
theorem d_La_portFor_41 : decode prog_7_method_3_code 41 = .ok (.invokevirtual 73, 3) := by decide +kernel
theorem d_La_portFor_44 : decode prog_7_method_3_code 44 = .ok (.astore 4, 2) := by decide +kernel
theorem d_La_portFor_46 : decode prog_7_method_3_code 46 = .ok (.aload 4, 2) := by decide +kernel
theorem d_La_portFor_48 : decode prog_7_method_3_code 48 = .ok (.ifnull 29, 3) := by decide +kernel
theorem d_La_portFor_51 : decode prog_7_method_3_code 51 = .ok (.aload 4, 2) := by decide +kernel
theorem d_La_portFor_53 : decode prog_7_method_3_code 53 = .ok (.getfield 77, 3) := by decide +kernel
theorem d_La_portFor_56 : decode prog_7_method_3_code 56 = .ok (.ifCond .eq 21, 3) := by decide +kernel
theorem d_La_portFor_59 : decode prog_7_method_3_code 59 = .ok (.aload_n 0, 1) := by decide +kernel
theorem d_La_portFor_60 : decode prog_7_method_3_code 60 = .ok (.aload 4, 2) := by decide +kernel
theorem d_La_portFor_62 : decode prog_7_method_3_code 62 = .ok (.getfield 80, 3) := by decide +kernel
theorem d_La_portFor_65 : decode prog_7_method_3_code 65 = .ok (.getfield 84, 3) := by decide +kernel
theorem d_La_portFor_68 : decode prog_7_method_3_code 68 = .ok (.invokevirtual 87, 3) := by decide +kernel
theorem d_La_portFor_71 : decode prog_7_method_3_code 71 = .ok (.iload_n 1, 1) := by decide +kernel
theorem d_La_portFor_72 : decode prog_7_method_3_code 72 = .ok (.if_icmp .ne 5, 3) := by decide +kernel
theorem d_La_portFor_75 : decode prog_7_method_3_code 75 = .ok (.iload_n 3, 1) := by decide +kernel
theorem d_La_portFor_76 : decode prog_7_method_3_code 76 = .ok (.ireturn, 1) := by decide +kernel
theorem d_La_portFor_77 : decode prog_7_method_3_code 77 = .ok (.iinc 2 1, 3) := by decide +kernel
theorem d_La_portFor_80 : decode prog_7_method_3_code 80 = .ok (.goto (-61), 3) := by decide +kernel
theorem d_La_portFor_83 : decode prog_7_method_3_code 83 = .ok (.iconst (-1), 1) := by decide +kernel
theorem d_La_portFor_84 : decode prog_7_method_3_code 84 = .ok (.ireturn, 1) := by decide +kernel
theorem d_As_hugeLength_0 : decode prog_28_method_28_code 0 = .ok (.iload_n 0, 1) := by decide +kernel
theorem d_As_hugeLength_1 : decode prog_28_method_28_code 1 = .ok (.iload_n 1, 1) := by decide +kernel
theorem d_As_hugeLength_2 : decode prog_28_method_28_code 2 = .ok (.iadd, 1) := by decide +kernel
theorem d_As_hugeLength_3 : decode prog_28_method_28_code 3 = .ok (.istore_n 2, 1) := by decide +kernel
theorem d_As_hugeLength_4 : decode prog_28_method_28_code 4 = .ok (.iload_n 2, 1) := by decide +kernel
theorem d_As_hugeLength_5 : decode prog_28_method_28_code 5 = .ok (.ifCond .ge 44, 3) := by decide +kernel
theorem d_As_hugeLength_49 : decode prog_28_method_28_code 49 = .ok (.iload_n 2, 1) := by decide +kernel
theorem d_As_hugeLength_50 : decode prog_28_method_28_code 50 = .ok (.ldc 200, 2) := by decide +kernel
theorem d_As_hugeLength_52 : decode prog_28_method_28_code 52 = .ok (.if_icmp .gt 6, 3) := by decide +kernel
theorem d_As_hugeLength_55 : decode prog_28_method_28_code 55 = .ok (.ldc 200, 2) := by decide +kernel
theorem d_As_hugeLength_57 : decode prog_28_method_28_code 57 = .ok (.ireturn, 1) := by decide +kernel
theorem d_As_hugeLength_58 : decode prog_28_method_28_code 58 = .ok (.iload_n 2, 1) := by decide +kernel
theorem d_As_hugeLength_59 : decode prog_28_method_28_code 59 = .ok (.ireturn, 1) := by decide +kernel
theorem d_As_newLength_0 : decode prog_28_method_27_code 0 = .ok (.iload_n 0, 1) := by decide +kernel
theorem d_As_newLength_1 : decode prog_28_method_27_code 1 = .ok (.iload_n 1, 1) := by decide +kernel
theorem d_As_newLength_2 : decode prog_28_method_27_code 2 = .ok (.iload_n 2, 1) := by decide +kernel
theorem d_As_newLength_3 : decode prog_28_method_27_code 3 = .ok (.invokestatic 194, 3) := by decide +kernel
theorem d_As_newLength_6 : decode prog_28_method_27_code 6 = .ok (.iadd, 1) := by decide +kernel
theorem d_As_newLength_7 : decode prog_28_method_27_code 7 = .ok (.istore_n 3, 1) := by decide +kernel
theorem d_As_newLength_8 : decode prog_28_method_27_code 8 = .ok (.iconst 0, 1) := by decide +kernel
theorem d_As_newLength_9 : decode prog_28_method_27_code 9 = .ok (.iload_n 3, 1) := by decide +kernel
theorem d_As_newLength_10 : decode prog_28_method_27_code 10 = .ok (.if_icmp .ge 11, 3) := by decide +kernel
theorem d_As_newLength_13 : decode prog_28_method_27_code 13 = .ok (.iload_n 3, 1) := by decide +kernel
theorem d_As_newLength_14 : decode prog_28_method_27_code 14 = .ok (.ldc 200, 2) := by decide +kernel
theorem d_As_newLength_16 : decode prog_28_method_27_code 16 = .ok (.if_icmp .gt 5, 3) := by decide +kernel
theorem d_As_newLength_19 : decode prog_28_method_27_code 19 = .ok (.iload_n 3, 1) := by decide +kernel
theorem d_As_newLength_20 : decode prog_28_method_27_code 20 = .ok (.ireturn, 1) := by decide +kernel
theorem d_As_newLength_21 : decode prog_28_method_27_code 21 = .ok (.iload_n 0, 1) := by decide +kernel
theorem d_As_newLength_22 : decode prog_28_method_27_code 22 = .ok (.iload_n 1, 1) := by decide +kernel
theorem d_As_newLength_23 : decode prog_28_method_27_code 23 = .ok (.invokestatic 201, 3) := by decide +kernel
theorem d_As_newLength_26 : decode prog_28_method_27_code 26 = .ok (.ireturn, 1) := by decide +kernel
theorem d_Ar_copyOf3_0 : decode prog_22_method_120_code 0 = .ok (.aload_n 2, 1) := by decide +kernel
theorem d_Ar_copyOf3_1 : decode prog_22_method_120_code 1 = .ok (.ldc 110, 2) := by decide +kernel
theorem d_Ar_copyOf3_3 : decode prog_22_method_120_code 3 = .ok (.if_acmp .ne 10, 3) := by decide +kernel
theorem d_Ar_copyOf3_6 : decode prog_22_method_120_code 6 = .ok (.iload_n 1, 1) := by decide +kernel
theorem d_Ar_copyOf3_7 : decode prog_22_method_120_code 7 = .ok (.anewarray 2, 3) := by decide +kernel
theorem d_Ar_copyOf3_10 : decode prog_22_method_120_code 10 = .ok (.goto 14, 3) := by decide +kernel
theorem d_Ar_copyOf3_13 : decode prog_22_method_120_code 13 = .ok (.aload_n 2, 1) := by decide +kernel
theorem d_Ar_copyOf3_24 : decode prog_22_method_120_code 24 = .ok (.astore_n 3, 1) := by decide +kernel
theorem d_Ar_copyOf3_25 : decode prog_22_method_120_code 25 = .ok (.aload_n 0, 1) := by decide +kernel
theorem d_Ar_copyOf3_26 : decode prog_22_method_120_code 26 = .ok (.iconst 0, 1) := by decide +kernel
theorem d_Ar_copyOf3_27 : decode prog_22_method_120_code 27 = .ok (.aload_n 3, 1) := by decide +kernel
theorem d_Ar_copyOf3_28 : decode prog_22_method_120_code 28 = .ok (.iconst 0, 1) := by decide +kernel
theorem d_Ar_copyOf3_29 : decode prog_22_method_120_code 29 = .ok (.aload_n 0, 1) := by decide +kernel
theorem d_Ar_copyOf3_30 : decode prog_22_method_120_code 30 = .ok (.arraylength, 1) := by decide +kernel
theorem d_Ar_copyOf3_31 : decode prog_22_method_120_code 31 = .ok (.iload_n 1, 1) := by decide +kernel
theorem d_Ar_copyOf3_32 : decode prog_22_method_120_code 32 = .ok (.invokestatic 304, 3) := by decide +kernel
theorem d_Ar_copyOf3_35 : decode prog_22_method_120_code 35 = .ok (.invokestatic 150, 3) := by decide +kernel
theorem d_Ar_copyOf3_38 : decode prog_22_method_120_code 38 = .ok (.aload_n 3, 1) := by decide +kernel
theorem d_Ar_copyOf3_39 : decode prog_22_method_120_code 39 = .ok (.areturn, 1) := by decide +kernel
theorem d_Ar_copyOf2_0 : decode prog_22_method_119_code 0 = .ok (.aload_n 0, 1) := by decide +kernel
theorem d_Ar_copyOf2_1 : decode prog_22_method_119_code 1 = .ok (.iload_n 1, 1) := by decide +kernel
theorem d_Ar_copyOf2_2 : decode prog_22_method_119_code 2 = .ok (.aload_n 0, 1) := by decide +kernel
theorem d_Ar_copyOf2_3 : decode prog_22_method_119_code 3 = .ok (.invokevirtual 86, 3) := by decide +kernel
theorem d_Ar_copyOf2_6 : decode prog_22_method_119_code 6 = .ok (.invokestatic 300, 3) := by decide +kernel
theorem d_Ar_copyOf2_9 : decode prog_22_method_119_code 9 = .ok (.areturn, 1) := by decide +kernel
theorem d_AL_grow1_0 : decode prog_21_method_6_code 0 = .ok (.aload_n 0, 1) := by decide +kernel
theorem d_AL_grow1_1 : decode prog_21_method_6_code 1 = .ok (.getfield 9, 3) := by decide +kernel
theorem d_AL_grow1_4 : decode prog_21_method_6_code 4 = .ok (.arraylength, 1) := by decide +kernel
theorem d_AL_grow1_5 : decode prog_21_method_6_code 5 = .ok (.istore_n 2, 1) := by decide +kernel
theorem d_AL_grow1_6 : decode prog_21_method_6_code 6 = .ok (.iload_n 2, 1) := by decide +kernel
theorem d_AL_grow1_7 : decode prog_21_method_6_code 7 = .ok (.ifCond .gt 13, 3) := by decide +kernel
theorem d_AL_grow1_10 : decode prog_21_method_6_code 10 = .ok (.aload_n 0, 1) := by decide +kernel
theorem d_AL_grow1_11 : decode prog_21_method_6_code 11 = .ok (.getfield 9, 3) := by decide +kernel
theorem d_AL_grow1_14 : decode prog_21_method_6_code 14 = .ok (.getstatic 39, 3) := by decide +kernel
theorem d_AL_grow1_17 : decode prog_21_method_6_code 17 = .ok (.if_acmp .eq 28, 3) := by decide +kernel
theorem d_AL_grow1_20 : decode prog_21_method_6_code 20 = .ok (.iload_n 2, 1) := by decide +kernel
theorem d_AL_grow1_21 : decode prog_21_method_6_code 21 = .ok (.iload_n 1, 1) := by decide +kernel
theorem d_AL_grow1_22 : decode prog_21_method_6_code 22 = .ok (.iload_n 2, 1) := by decide +kernel
theorem d_AL_grow1_23 : decode prog_21_method_6_code 23 = .ok (.isub, 1) := by decide +kernel
theorem d_AL_grow1_24 : decode prog_21_method_6_code 24 = .ok (.iload_n 2, 1) := by decide +kernel
theorem d_AL_grow1_25 : decode prog_21_method_6_code 25 = .ok (.iconst 1, 1) := by decide +kernel
theorem d_AL_grow1_26 : decode prog_21_method_6_code 26 = .ok (.ishr, 1) := by decide +kernel
theorem d_AL_grow1_27 : decode prog_21_method_6_code 27 = .ok (.invokestatic 73, 3) := by decide +kernel
theorem d_AL_grow1_30 : decode prog_21_method_6_code 30 = .ok (.istore_n 3, 1) := by decide +kernel
theorem d_AL_grow1_31 : decode prog_21_method_6_code 31 = .ok (.aload_n 0, 1) := by decide +kernel
theorem d_AL_grow1_32 : decode prog_21_method_6_code 32 = .ok (.aload_n 0, 1) := by decide +kernel
theorem d_AL_grow1_33 : decode prog_21_method_6_code 33 = .ok (.getfield 9, 3) := by decide +kernel
theorem d_AL_grow1_36 : decode prog_21_method_6_code 36 = .ok (.iload_n 3, 1) := by decide +kernel
theorem d_AL_grow1_37 : decode prog_21_method_6_code 37 = .ok (.invokestatic 66, 3) := by decide +kernel
theorem d_AL_grow1_40 : decode prog_21_method_6_code 40 = .ok (.dup_x1, 1) := by decide +kernel
theorem d_AL_grow1_41 : decode prog_21_method_6_code 41 = .ok (.putfield 9, 3) := by decide +kernel
theorem d_AL_grow1_44 : decode prog_21_method_6_code 44 = .ok (.areturn, 1) := by decide +kernel
theorem d_AL_grow1_45 : decode prog_21_method_6_code 45 = .ok (.aload_n 0, 1) := by decide +kernel
theorem d_AL_grow1_46 : decode prog_21_method_6_code 46 = .ok (.bipush 10, 2) := by decide +kernel
theorem d_AL_grow1_48 : decode prog_21_method_6_code 48 = .ok (.iload_n 1, 1) := by decide +kernel
theorem d_AL_grow1_49 : decode prog_21_method_6_code 49 = .ok (.invokestatic 79, 3) := by decide +kernel
theorem d_AL_grow1_52 : decode prog_21_method_6_code 52 = .ok (.anewarray 7, 3) := by decide +kernel
theorem d_AL_grow1_55 : decode prog_21_method_6_code 55 = .ok (.dup_x1, 1) := by decide +kernel
theorem d_AL_grow1_56 : decode prog_21_method_6_code 56 = .ok (.putfield 9, 3) := by decide +kernel
theorem d_AL_grow1_59 : decode prog_21_method_6_code 59 = .ok (.areturn, 1) := by decide +kernel
theorem d_AL_grow0_0 : decode prog_21_method_7_code 0 = .ok (.aload_n 0, 1) := by decide +kernel
theorem d_AL_grow0_1 : decode prog_21_method_7_code 1 = .ok (.aload_n 0, 1) := by decide +kernel
theorem d_AL_grow0_2 : decode prog_21_method_7_code 2 = .ok (.getfield 48, 3) := by decide +kernel
theorem d_AL_grow0_5 : decode prog_21_method_7_code 5 = .ok (.iconst 1, 1) := by decide +kernel
theorem d_AL_grow0_6 : decode prog_21_method_7_code 6 = .ok (.iadd, 1) := by decide +kernel
theorem d_AL_grow0_7 : decode prog_21_method_7_code 7 = .ok (.invokevirtual 69, 3) := by decide +kernel
theorem d_AL_grow0_10 : decode prog_21_method_7_code 10 = .ok (.areturn, 1) := by decide +kernel
theorem d_AL_add3_0 : decode prog_21_method_24_code 0 = .ok (.iload_n 3, 1) := by decide +kernel
theorem d_AL_add3_1 : decode prog_21_method_24_code 1 = .ok (.aload_n 2, 1) := by decide +kernel
theorem d_AL_add3_2 : decode prog_21_method_24_code 2 = .ok (.arraylength, 1) := by decide +kernel
theorem d_AL_add3_3 : decode prog_21_method_24_code 3 = .ok (.if_icmp .ne 8, 3) := by decide +kernel
theorem d_AL_add3_6 : decode prog_21_method_24_code 6 = .ok (.aload_n 0, 1) := by decide +kernel
theorem d_AL_add3_7 : decode prog_21_method_24_code 7 = .ok (.invokevirtual 129, 3) := by decide +kernel
theorem d_AL_add3_10 : decode prog_21_method_24_code 10 = .ok (.astore_n 2, 1) := by decide +kernel
theorem d_AL_add3_11 : decode prog_21_method_24_code 11 = .ok (.aload_n 2, 1) := by decide +kernel
theorem d_AL_add3_12 : decode prog_21_method_24_code 12 = .ok (.iload_n 3, 1) := by decide +kernel
theorem d_AL_add3_13 : decode prog_21_method_24_code 13 = .ok (.aload_n 1, 1) := by decide +kernel
theorem d_AL_add3_14 : decode prog_21_method_24_code 14 = .ok (.aastore, 1) := by decide +kernel
theorem d_AL_add3_15 : decode prog_21_method_24_code 15 = .ok (.aload_n 0, 1) := by decide +kernel
theorem d_AL_add3_16 : decode prog_21_method_24_code 16 = .ok (.iload_n 3, 1) := by decide +kernel
theorem d_AL_add3_17 : decode prog_21_method_24_code 17 = .ok (.iconst 1, 1) := by decide +kernel
theorem d_AL_add3_18 : decode prog_21_method_24_code 18 = .ok (.iadd, 1) := by decide +kernel
theorem d_AL_add3_19 : decode prog_21_method_24_code 19 = .ok (.putfield 48, 3) := by decide +kernel
theorem d_AL_add3_22 : decode prog_21_method_24_code 22 = .ok (.return_, 1) := by decide +kernel
theorem d_AL_add1_0 : decode prog_21_method_25_code 0 = .ok (.aload_n 0, 1) := by decide +kernel
theorem d_AL_add1_1 : decode prog_21_method_25_code 1 = .ok (.dup, 1) := by decide +kernel
theorem d_AL_add1_2 : decode prog_21_method_25_code 2 = .ok (.getfield 63, 3) := by decide +kernel
theorem d_AL_add1_5 : decode prog_21_method_25_code 5 = .ok (.iconst 1, 1) := by decide +kernel
theorem d_AL_add1_6 : decode prog_21_method_25_code 6 = .ok (.iadd, 1) := by decide +kernel
theorem d_AL_add1_7 : decode prog_21_method_25_code 7 = .ok (.putfield 63, 3) := by decide +kernel
theorem d_AL_add1_10 : decode prog_21_method_25_code 10 = .ok (.aload_n 0, 1) := by decide +kernel
theorem d_AL_add1_11 : decode prog_21_method_25_code 11 = .ok (.aload_n 1, 1) := by decide +kernel
theorem d_AL_add1_12 : decode prog_21_method_25_code 12 = .ok (.aload_n 0, 1) := by decide +kernel
theorem d_AL_add1_13 : decode prog_21_method_25_code 13 = .ok (.getfield 9, 3) := by decide +kernel
theorem d_AL_add1_16 : decode prog_21_method_25_code 16 = .ok (.aload_n 0, 1) := by decide +kernel
theorem d_AL_add1_17 : decode prog_21_method_25_code 17 = .ok (.getfield 48, 3) := by decide +kernel
theorem d_AL_add1_20 : decode prog_21_method_25_code 20 = .ok (.invokevirtual 131, 3) := by decide +kernel
theorem d_AL_add1_23 : decode prog_21_method_25_code 23 = .ok (.iconst 1, 1) := by decide +kernel
theorem d_AL_add1_24 : decode prog_21_method_25_code 24 = .ok (.ireturn, 1) := by decide +kernel
theorem d_Me_leaveMesh_0 : decode prog_8_method_8_code 0 = .ok (.aload_n 1, 1) := by decide +kernel
theorem d_Me_leaveMesh_1 : decode prog_8_method_8_code 1 = .ok (.getfield 106, 3) := by decide +kernel
theorem d_Me_leaveMesh_4 : decode prog_8_method_8_code 4 = .ok (.ifCond .eq 25, 3) := by decide +kernel
theorem d_Me_leaveMesh_7 : decode prog_8_method_8_code 7 = .ok (.aload_n 2, 1) := by decide +kernel
theorem d_Me_leaveMesh_8 : decode prog_8_method_8_code 8 = .ok (.getfield 110, 3) := by decide +kernel
theorem d_Me_leaveMesh_11 : decode prog_8_method_8_code 11 = .ok (.aload_n 1, 1) := by decide +kernel
theorem d_Me_leaveMesh_12 : decode prog_8_method_8_code 12 = .ok (.getfield 113, 3) := by decide +kernel
theorem d_Me_leaveMesh_15 : decode prog_8_method_8_code 15 = .ok (.invokevirtual 41, 3) := by decide +kernel
theorem d_Me_leaveMesh_18 : decode prog_8_method_8_code 18 = .ok (.pop, 1) := by decide +kernel
theorem d_Me_leaveMesh_19 : decode prog_8_method_8_code 19 = .ok (.aload_n 0, 1) := by decide +kernel
theorem d_Me_leaveMesh_20 : decode prog_8_method_8_code 20 = .ok (.dup, 1) := by decide +kernel
theorem d_Me_leaveMesh_21 : decode prog_8_method_8_code 21 = .ok (.getfield 54, 3) := by decide +kernel
theorem d_Me_leaveMesh_24 : decode prog_8_method_8_code 24 = .ok (.iconst 1, 1) := by decide +kernel
theorem d_Me_leaveMesh_25 : decode prog_8_method_8_code 25 = .ok (.iadd, 1) := by decide +kernel
theorem d_Me_leaveMesh_26 : decode prog_8_method_8_code 26 = .ok (.putfield 54, 3) := by decide +kernel
theorem d_Me_leaveMesh_29 : decode prog_8_method_8_code 29 = .ok (.return_, 1) := by decide +kernel
theorem d_Me_bufferBeyond_0 : decode prog_8_method_9_code 0 = .ok (.iload_n 2, 1) := by decide +kernel
theorem d_Me_bufferBeyond_1 : decode prog_8_method_9_code 1 = .ok (.tableswitch 129 0 3 #[31, 54, 79, 105], 31) := by decide +kernel
theorem d_Me_bufferBeyond_32 : decode prog_8_method_9_code 32 = .ok (.iload_n 1, 1) := by decide +kernel
theorem d_Me_bufferBeyond_33 : decode prog_8_method_9_code 33 = .ok (.iconst 3, 1) := by decide +kernel
theorem d_Me_bufferBeyond_34 : decode prog_8_method_9_code 34 = .ok (.if_icmp .ge 7, 3) := by decide +kernel
theorem d_Me_bufferBeyond_37 : decode prog_8_method_9_code 37 = .ok (.aconst_null, 1) := by decide +kernel
theorem d_Me_bufferBeyond_38 : decode prog_8_method_9_code 38 = .ok (.goto 16, 3) := by decide +kernel
theorem d_Me_bufferBeyond_41 : decode prog_8_method_9_code 41 = .ok (.aload_n 0, 1) := by decide +kernel
theorem d_Me_bufferBeyond_42 : decode prog_8_method_9_code 42 = .ok (.iload_n 1, 1) := by decide +kernel
theorem d_Me_bufferBeyond_43 : decode prog_8_method_9_code 43 = .ok (.iconst 3, 1) := by decide +kernel
theorem d_Me_bufferBeyond_44 : decode prog_8_method_9_code 44 = .ok (.isub, 1) := by decide +kernel
theorem d_Me_bufferBeyond_45 : decode prog_8_method_9_code 45 = .ok (.iload_n 3, 1) := by decide +kernel
theorem d_Me_bufferBeyond_46 : decode prog_8_method_9_code 46 = .ok (.invokevirtual 33, 3) := by decide +kernel
theorem d_Me_bufferBeyond_49 : decode prog_8_method_9_code 49 = .ok (.getfield 69, 3) := by decide +kernel
theorem d_Me_bufferBeyond_52 : decode prog_8_method_9_code 52 = .ok (.iconst 2, 1) := by decide +kernel
theorem d_Me_bufferBeyond_53 : decode prog_8_method_9_code 53 = .ok (.aaload, 1) := by decide +kernel
theorem d_Me_bufferBeyond_54 : decode prog_8_method_9_code 54 = .ok (.areturn, 1) := by decide +kernel
theorem d_Me_bufferBeyond_55 : decode prog_8_method_9_code 55 = .ok (.iload_n 1, 1) := by decide +kernel
theorem d_Me_bufferBeyond_56 : decode prog_8_method_9_code 56 = .ok (.iconst 3, 1) := by decide +kernel
theorem d_Me_bufferBeyond_57 : decode prog_8_method_9_code 57 = .ok (.irem, 1) := by decide +kernel
theorem d_Me_bufferBeyond_58 : decode prog_8_method_9_code 58 = .ok (.iconst 2, 1) := by decide +kernel
theorem d_Me_bufferBeyond_59 : decode prog_8_method_9_code 59 = .ok (.if_icmp .ne 7, 3) := by decide +kernel
theorem d_Me_bufferBeyond_62 : decode prog_8_method_9_code 62 = .ok (.aconst_null, 1) := by decide +kernel
theorem d_Me_bufferBeyond_63 : decode prog_8_method_9_code 63 = .ok (.goto 16, 3) := by decide +kernel
theorem d_Me_bufferBeyond_66 : decode prog_8_method_9_code 66 = .ok (.aload_n 0, 1) := by decide +kernel
theorem d_Me_bufferBeyond_67 : decode prog_8_method_9_code 67 = .ok (.iload_n 1, 1) := by decide +kernel
theorem d_Me_bufferBeyond_68 : decode prog_8_method_9_code 68 = .ok (.iconst 1, 1) := by decide +kernel
theorem d_Me_bufferBeyond_69 : decode prog_8_method_9_code 69 = .ok (.iadd, 1) := by decide +kernel
theorem d_Me_bufferBeyond_70 : decode prog_8_method_9_code 70 = .ok (.iload_n 3, 1) := by decide +kernel
theorem d_Me_bufferBeyond_71 : decode prog_8_method_9_code 71 = .ok (.invokevirtual 33, 3) := by decide +kernel
theorem d_Me_bufferBeyond_74 : decode prog_8_method_9_code 74 = .ok (.getfield 69, 3) := by decide +kernel
theorem d_Me_bufferBeyond_77 : decode prog_8_method_9_code 77 = .ok (.iconst 3, 1) := by decide +kernel
theorem d_Me_bufferBeyond_78 : decode prog_8_method_9_code 78 = .ok (.aaload, 1) := by decide +kernel
theorem d_Me_bufferBeyond_79 : decode prog_8_method_9_code 79 = .ok (.areturn, 1) := by decide +kernel
theorem d_Me_bufferBeyond_80 : decode prog_8_method_9_code 80 = .ok (.iload_n 1, 1) := by decide +kernel
theorem d_Me_bufferBeyond_81 : decode prog_8_method_9_code 81 = .ok (.iconst 3, 1) := by decide +kernel
theorem d_Me_bufferBeyond_82 : decode prog_8_method_9_code 82 = .ok (.iadd, 1) := by decide +kernel
theorem d_Me_bufferBeyond_83 : decode prog_8_method_9_code 83 = .ok (.bipush 6, 2) := by decide +kernel
theorem d_Me_bufferBeyond_85 : decode prog_8_method_9_code 85 = .ok (.if_icmp .lt 7, 3) := by decide +kernel
theorem d_Me_bufferBeyond_88 : decode prog_8_method_9_code 88 = .ok (.aconst_null, 1) := by decide +kernel
theorem d_Me_bufferBeyond_89 : decode prog_8_method_9_code 89 = .ok (.goto 16, 3) := by decide +kernel
theorem d_Me_bufferBeyond_92 : decode prog_8_method_9_code 92 = .ok (.aload_n 0, 1) := by decide +kernel
theorem d_Me_bufferBeyond_93 : decode prog_8_method_9_code 93 = .ok (.iload_n 1, 1) := by decide +kernel
theorem d_Me_bufferBeyond_94 : decode prog_8_method_9_code 94 = .ok (.iconst 3, 1) := by decide +kernel
theorem d_Me_bufferBeyond_95 : decode prog_8_method_9_code 95 = .ok (.iadd, 1) := by decide +kernel
theorem d_Me_bufferBeyond_96 : decode prog_8_method_9_code 96 = .ok (.iload_n 3, 1) := by decide +kernel
theorem d_Me_bufferBeyond_97 : decode prog_8_method_9_code 97 = .ok (.invokevirtual 33, 3) := by decide +kernel
theorem d_Me_bufferBeyond_100 : decode prog_8_method_9_code 100 = .ok (.getfield 69, 3) := by decide +kernel
theorem d_Me_bufferBeyond_103 : decode prog_8_method_9_code 103 = .ok (.iconst 0, 1) := by decide +kernel
theorem d_Me_bufferBeyond_104 : decode prog_8_method_9_code 104 = .ok (.aaload, 1) := by decide +kernel
theorem d_Me_bufferBeyond_105 : decode prog_8_method_9_code 105 = .ok (.areturn, 1) := by decide +kernel
theorem d_Me_bufferBeyond_106 : decode prog_8_method_9_code 106 = .ok (.iload_n 1, 1) := by decide +kernel
theorem d_Me_bufferBeyond_107 : decode prog_8_method_9_code 107 = .ok (.iconst 3, 1) := by decide +kernel
theorem d_Me_bufferBeyond_108 : decode prog_8_method_9_code 108 = .ok (.irem, 1) := by decide +kernel
theorem d_Me_bufferBeyond_109 : decode prog_8_method_9_code 109 = .ok (.ifCond .ne 7, 3) := by decide +kernel
theorem d_Me_bufferBeyond_112 : decode prog_8_method_9_code 112 = .ok (.aconst_null, 1) := by decide +kernel
theorem d_Me_bufferBeyond_113 : decode prog_8_method_9_code 113 = .ok (.goto 16, 3) := by decide +kernel
theorem d_Me_bufferBeyond_116 : decode prog_8_method_9_code 116 = .ok (.aload_n 0, 1) := by decide +kernel
theorem d_Me_bufferBeyond_117 : decode prog_8_method_9_code 117 = .ok (.iload_n 1, 1) := by decide +kernel
theorem d_Me_bufferBeyond_118 : decode prog_8_method_9_code 118 = .ok (.iconst 1, 1) := by decide +kernel
theorem d_Me_bufferBeyond_119 : decode prog_8_method_9_code 119 = .ok (.isub, 1) := by decide +kernel
theorem d_Me_bufferBeyond_120 : decode prog_8_method_9_code 120 = .ok (.iload_n 3, 1) := by decide +kernel
theorem d_Me_bufferBeyond_121 : decode prog_8_method_9_code 121 = .ok (.invokevirtual 33, 3) := by decide +kernel
theorem d_Me_bufferBeyond_124 : decode prog_8_method_9_code 124 = .ok (.getfield 69, 3) := by decide +kernel
theorem d_Me_bufferBeyond_127 : decode prog_8_method_9_code 127 = .ok (.iconst 1, 1) := by decide +kernel
theorem d_Me_bufferBeyond_128 : decode prog_8_method_9_code 128 = .ok (.aaload, 1) := by decide +kernel
theorem d_Me_bufferBeyond_129 : decode prog_8_method_9_code 129 = .ok (.areturn, 1) := by decide +kernel
theorem d_Me_bufferBeyond_130 : decode prog_8_method_9_code 130 = .ok (.aconst_null, 1) := by decide +kernel
theorem d_Me_bufferBeyond_131 : decode prog_8_method_9_code 131 = .ok (.areturn, 1) := by decide +kernel
theorem d_FB_dropFront_0 : decode prog_5_method_5_code 0 = .ok (.aload_n 0, 1) := by decide +kernel
theorem d_FB_dropFront_1 : decode prog_5_method_5_code 1 = .ok (.getfield 15, 3) := by decide +kernel
theorem d_FB_dropFront_4 : decode prog_5_method_5_code 4 = .ok (.ifCond .ne 4, 3) := by decide +kernel
theorem d_FB_dropFront_7 : decode prog_5_method_5_code 7 = .ok (.return_, 1) := by decide +kernel
theorem d_FB_dropFront_8 : decode prog_5_method_5_code 8 = .ok (.iconst 1, 1) := by decide +kernel
theorem d_FB_dropFront_9 : decode prog_5_method_5_code 9 = .ok (.istore_n 1, 1) := by decide +kernel
theorem d_FB_dropFront_10 : decode prog_5_method_5_code 10 = .ok (.iload_n 1, 1) := by decide +kernel
theorem d_FB_dropFront_11 : decode prog_5_method_5_code 11 = .ok (.aload_n 0, 1) := by decide +kernel
theorem d_FB_dropFront_12 : decode prog_5_method_5_code 12 = .ok (.getfield 15, 3) := by decide +kernel
theorem d_FB_dropFront_15 : decode prog_5_method_5_code 15 = .ok (.if_icmp .ge 23, 3) := by decide +kernel
theorem d_FB_dropFront_18 : decode prog_5_method_5_code 18 = .ok (.aload_n 0, 1) := by decide +kernel
theorem d_FB_dropFront_19 : decode prog_5_method_5_code 19 = .ok (.getfield 9, 3) := by decide +kernel
theorem d_FB_dropFront_22 : decode prog_5_method_5_code 22 = .ok (.iload_n 1, 1) := by decide +kernel
theorem d_FB_dropFront_23 : decode prog_5_method_5_code 23 = .ok (.iconst 1, 1) := by decide +kernel
theorem d_FB_dropFront_24 : decode prog_5_method_5_code 24 = .ok (.isub, 1) := by decide +kernel
theorem d_FB_dropFront_25 : decode prog_5_method_5_code 25 = .ok (.aload_n 0, 1) := by decide +kernel
theorem d_FB_dropFront_26 : decode prog_5_method_5_code 26 = .ok (.getfield 9, 3) := by decide +kernel
theorem d_FB_dropFront_29 : decode prog_5_method_5_code 29 = .ok (.iload_n 1, 1) := by decide +kernel
theorem d_FB_dropFront_30 : decode prog_5_method_5_code 30 = .ok (.aaload, 1) := by decide +kernel
theorem d_FB_dropFront_31 : decode prog_5_method_5_code 31 = .ok (.aastore, 1) := by decide +kernel
theorem d_FB_dropFront_32 : decode prog_5_method_5_code 32 = .ok (.iinc 1 1, 3) := by decide +kernel
theorem d_FB_dropFront_35 : decode prog_5_method_5_code 35 = .ok (.goto (-25), 3) := by decide +kernel
theorem d_FB_dropFront_38 : decode prog_5_method_5_code 38 = .ok (.aload_n 0, 1) := by decide +kernel
theorem d_FB_dropFront_39 : decode prog_5_method_5_code 39 = .ok (.dup, 1) := by decide +kernel
theorem d_FB_dropFront_40 : decode prog_5_method_5_code 40 = .ok (.getfield 15, 3) := by decide +kernel
theorem d_FB_dropFront_43 : decode prog_5_method_5_code 43 = .ok (.iconst 1, 1) := by decide +kernel
theorem d_FB_dropFront_44 : decode prog_5_method_5_code 44 = .ok (.isub, 1) := by decide +kernel
theorem d_FB_dropFront_45 : decode prog_5_method_5_code 45 = .ok (.putfield 15, 3) := by decide +kernel
theorem d_FB_dropFront_48 : decode prog_5_method_5_code 48 = .ok (.aload_n 0, 1) := by decide +kernel
theorem d_FB_dropFront_49 : decode prog_5_method_5_code 49 = .ok (.getfield 9, 3) := by decide +kernel
theorem d_FB_dropFront_52 : decode prog_5_method_5_code 52 = .ok (.aload_n 0, 1) := by decide +kernel
theorem d_FB_dropFront_53 : decode prog_5_method_5_code 53 = .ok (.getfield 15, 3) := by decide +kernel
theorem d_FB_dropFront_56 : decode prog_5_method_5_code 56 = .ok (.aconst_null, 1) := by decide +kernel
theorem d_FB_dropFront_57 : decode prog_5_method_5_code 57 = .ok (.aastore, 1) := by decide +kernel
theorem d_FB_dropFront_58 : decode prog_5_method_5_code 58 = .ok (.return_, 1) := by decide +kernel
theorem d_La_dropFront_0 : decode prog_7_method_5_code 0 = .ok (.aload_n 0, 1) := by decide +kernel
theorem d_La_dropFront_1 : decode prog_7_method_5_code 1 = .ok (.getfield 23, 3) := by decide +kernel
theorem d_La_dropFront_4 : decode prog_7_method_5_code 4 = .ok (.iload_n 1, 1) := by decide +kernel
theorem d_La_dropFront_5 : decode prog_7_method_5_code 5 = .ok (.aaload, 1) := by decide +kernel
theorem d_La_dropFront_6 : decode prog_7_method_5_code 6 = .ok (.invokevirtual 73, 3) := by decide +kernel
theorem d_La_dropFront_9 : decode prog_7_method_5_code 9 = .ok (.astore_n 3, 1) := by decide +kernel
theorem d_La_dropFront_10 : decode prog_7_method_5_code 10 = .ok (.aload_n 3, 1) := by decide +kernel
theorem d_La_dropFront_11 : decode prog_7_method_5_code 11 = .ok (.ifnull 37, 3) := by decide +kernel
theorem d_La_dropFront_14 : decode prog_7_method_5_code 14 = .ok (.aload_n 0, 1) := by decide +kernel
theorem d_La_dropFront_15 : decode prog_7_method_5_code 15 = .ok (.getfield 23, 3) := by decide +kernel
theorem d_La_dropFront_18 : decode prog_7_method_5_code 18 = .ok (.iload_n 1, 1) := by decide +kernel
theorem d_La_dropFront_19 : decode prog_7_method_5_code 19 = .ok (.aaload, 1) := by decide +kernel
theorem d_La_dropFront_20 : decode prog_7_method_5_code 20 = .ok (.invokevirtual 91, 3) := by decide +kernel
theorem d_La_dropFront_23 : decode prog_7_method_5_code 23 = .ok (.aload_n 0, 1) := by decide +kernel
theorem d_La_dropFront_24 : decode prog_7_method_5_code 24 = .ok (.getfield 31, 3) := by decide +kernel
theorem d_La_dropFront_27 : decode prog_7_method_5_code 27 = .ok (.iload_n 2, 1) := by decide +kernel
theorem d_La_dropFront_28 : decode prog_7_method_5_code 28 = .ok (.iload_n 1, 1) := by decide +kernel
theorem d_La_dropFront_29 : decode prog_7_method_5_code 29 = .ok (.iastore, 1) := by decide +kernel
theorem d_La_dropFront_30 : decode prog_7_method_5_code 30 = .ok (.aload_n 0, 1) := by decide +kernel
theorem d_La_dropFront_31 : decode prog_7_method_5_code 31 = .ok (.getfield 27, 3) := by decide +kernel
theorem d_La_dropFront_34 : decode prog_7_method_5_code 34 = .ok (.iload_n 2, 1) := by decide +kernel
theorem d_La_dropFront_35 : decode prog_7_method_5_code 35 = .ok (.aload_n 3, 1) := by decide +kernel
theorem d_La_dropFront_36 : decode prog_7_method_5_code 36 = .ok (.getfield 66, 3) := by decide +kernel
theorem d_La_dropFront_39 : decode prog_7_method_5_code 39 = .ok (.ifCond .eq 7, 3) := by decide +kernel
theorem d_La_dropFront_42 : decode prog_7_method_5_code 42 = .ok (.iconst (-1), 1) := by decide +kernel
theorem d_La_dropFront_43 : decode prog_7_method_5_code 43 = .ok (.goto 4, 3) := by decide +kernel
theorem d_La_dropFront_46 : decode prog_7_method_5_code 46 = .ok (.iload_n 1, 1) := by decide +kernel
theorem d_La_dropFront_47 : decode prog_7_method_5_code 47 = .ok (.iastore, 1) := by decide +kernel
theorem d_La_dropFront_48 : decode prog_7_method_5_code 48 = .ok (.return_, 1) := by decide +kernel
theorem d_Me_moveFlitOf_0 : decode prog_8_method_7_code 0 = .ok (.aload_n 0, 1) := by decide +kernel
theorem d_Me_moveFlitOf_1 : decode prog_8_method_7_code 1 = .ok (.iload_n 1, 1) := by decide +kernel
theorem d_Me_moveFlitOf_2 : decode prog_8_method_7_code 2 = .ok (.iload_n 3, 1) := by decide +kernel
theorem d_Me_moveFlitOf_3 : decode prog_8_method_7_code 3 = .ok (.invokevirtual 33, 3) := by decide +kernel
theorem d_Me_moveFlitOf_6 : decode prog_8_method_7_code 6 = .ok (.astore 5, 2) := by decide +kernel
theorem d_Me_moveFlitOf_8 : decode prog_8_method_7_code 8 = .ok (.aload 5, 2) := by decide +kernel
theorem d_Me_moveFlitOf_10 : decode prog_8_method_7_code 10 = .ok (.iload_n 2, 1) := by decide +kernel
theorem d_Me_moveFlitOf_11 : decode prog_8_method_7_code 11 = .ok (.invokevirtual 65, 3) := by decide +kernel
theorem d_Me_moveFlitOf_14 : decode prog_8_method_7_code 14 = .ok (.istore 6, 2) := by decide +kernel
theorem d_Me_moveFlitOf_16 : decode prog_8_method_7_code 16 = .ok (.iload 6, 2) := by decide +kernel
theorem d_Me_moveFlitOf_18 : decode prog_8_method_7_code 18 = .ok (.iconst (-1), 1) := by decide +kernel
theorem d_Me_moveFlitOf_19 : decode prog_8_method_7_code 19 = .ok (.if_icmp .ne 5, 3) := by decide +kernel
theorem d_Me_moveFlitOf_22 : decode prog_8_method_7_code 22 = .ok (.iconst 0, 1) := by decide +kernel
theorem d_Me_moveFlitOf_23 : decode prog_8_method_7_code 23 = .ok (.ireturn, 1) := by decide +kernel
theorem d_Me_moveFlitOf_24 : decode prog_8_method_7_code 24 = .ok (.aload 5, 2) := by decide +kernel
theorem d_Me_moveFlitOf_26 : decode prog_8_method_7_code 26 = .ok (.getfield 69, 3) := by decide +kernel
theorem d_Me_moveFlitOf_29 : decode prog_8_method_7_code 29 = .ok (.iload 6, 2) := by decide +kernel
theorem d_Me_moveFlitOf_31 : decode prog_8_method_7_code 31 = .ok (.aaload, 1) := by decide +kernel
theorem d_Me_moveFlitOf_32 : decode prog_8_method_7_code 32 = .ok (.invokevirtual 73, 3) := by decide +kernel
theorem d_Me_moveFlitOf_35 : decode prog_8_method_7_code 35 = .ok (.astore 7, 2) := by decide +kernel
theorem d_Me_moveFlitOf_37 : decode prog_8_method_7_code 37 = .ok (.aload 7, 2) := by decide +kernel
theorem d_Me_moveFlitOf_39 : decode prog_8_method_7_code 39 = .ok (.ifnull 13, 3) := by decide +kernel
theorem d_Me_moveFlitOf_42 : decode prog_8_method_7_code 42 = .ok (.aload 7, 2) := by decide +kernel
theorem d_Me_moveFlitOf_44 : decode prog_8_method_7_code 44 = .ok (.getfield 79, 3) := by decide +kernel
theorem d_Me_moveFlitOf_47 : decode prog_8_method_7_code 47 = .ok (.iload 4, 2) := by decide +kernel
theorem d_Me_moveFlitOf_49 : decode prog_8_method_7_code 49 = .ok (.if_icmp .ne 5, 3) := by decide +kernel
theorem d_Me_moveFlitOf_52 : decode prog_8_method_7_code 52 = .ok (.iconst 0, 1) := by decide +kernel
theorem d_Me_moveFlitOf_53 : decode prog_8_method_7_code 53 = .ok (.ireturn, 1) := by decide +kernel
theorem d_Me_moveFlitOf_54 : decode prog_8_method_7_code 54 = .ok (.iload_n 2, 1) := by decide +kernel
theorem d_Me_moveFlitOf_55 : decode prog_8_method_7_code 55 = .ok (.iconst 4, 1) := by decide +kernel
theorem d_Me_moveFlitOf_56 : decode prog_8_method_7_code 56 = .ok (.if_icmp .ne 14, 3) := by decide +kernel
theorem d_Me_moveFlitOf_59 : decode prog_8_method_7_code 59 = .ok (.aload_n 0, 1) := by decide +kernel
theorem d_Me_moveFlitOf_60 : decode prog_8_method_7_code 60 = .ok (.aload 7, 2) := by decide +kernel
theorem d_Me_moveFlitOf_62 : decode prog_8_method_7_code 62 = .ok (.aload 5, 2) := by decide +kernel
