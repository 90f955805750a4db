theorem d_Me_moveFlitOf_64 : decode prog_8_method_7_code 64 = .ok (.invokevirtual 84, 3) := by decide +kernel
theorem d_Me_moveFlitOf_67 : decode prog_8_method_7_code 67 = .ok (.goto 46, 3) := by decide +kernel
theorem d_Me_moveFlitOf_70 : decode prog_8_method_7_code 70 = .ok (.aload_n 0, 1) := by decide +kernel
theorem d_Me_moveFlitOf_71 : decode prog_8_method_7_code 71 = .ok (.iload_n 1, 1) := by decide +kernel
theorem d_Me_moveFlitOf_72 : decode prog_8_method_7_code 72 = .ok (.iload_n 2, 1) := by decide +kernel
theorem d_Me_moveFlitOf_73 : decode prog_8_method_7_code 73 = .ok (.iload_n 3, 1) := by decide +kernel
theorem d_Me_moveFlitOf_74 : decode prog_8_method_7_code 74 = .ok (.invokevirtual 88, 3) := by decide +kernel
theorem d_Me_moveFlitOf_77 : decode prog_8_method_7_code 77 = .ok (.astore 8, 2) := by decide +kernel
theorem d_Me_moveFlitOf_79 : decode prog_8_method_7_code 79 = .ok (.aload 8, 2) := by decide +kernel
theorem d_Me_moveFlitOf_81 : decode prog_8_method_7_code 81 = .ok (.ifnull 11, 3) := by decide +kernel
theorem d_Me_moveFlitOf_84 : decode prog_8_method_7_code 84 = .ok (.aload 8, 2) := by decide +kernel
theorem d_Me_moveFlitOf_86 : decode prog_8_method_7_code 86 = .ok (.invokevirtual 92, 3) := by decide +kernel
theorem d_Me_moveFlitOf_89 : decode prog_8_method_7_code 89 = .ok (.ifCond .ne 5, 3) := by decide +kernel
theorem d_Me_moveFlitOf_92 : decode prog_8_method_7_code 92 = .ok (.iconst 0, 1) := by decide +kernel
theorem d_Me_moveFlitOf_93 : decode prog_8_method_7_code 93 = .ok (.ireturn, 1) := by decide +kernel
theorem d_Me_moveFlitOf_94 : decode prog_8_method_7_code 94 = .ok (.aload 8, 2) := by decide +kernel
theorem d_Me_moveFlitOf_96 : decode prog_8_method_7_code 96 = .ok (.aload 7, 2) := by decide +kernel
theorem d_Me_moveFlitOf_98 : decode prog_8_method_7_code 98 = .ok (.iload 4, 2) := by decide +kernel
theorem d_Me_moveFlitOf_100 : decode prog_8_method_7_code 100 = .ok (.invokevirtual 96, 3) := by decide +kernel
theorem d_Me_moveFlitOf_103 : decode prog_8_method_7_code 103 = .ok (.aload_n 0, 1) := by decide +kernel
theorem d_Me_moveFlitOf_104 : decode prog_8_method_7_code 104 = .ok (.dup, 1) := by decide +kernel
theorem d_Me_moveFlitOf_105 : decode prog_8_method_7_code 105 = .ok (.getfield 100, 3) := by decide +kernel
theorem d_Me_moveFlitOf_108 : decode prog_8_method_7_code 108 = .ok (.iconst 1, 1) := by decide +kernel
theorem d_Me_moveFlitOf_109 : decode prog_8_method_7_code 109 = .ok (.iadd, 1) := by decide +kernel
theorem d_Me_moveFlitOf_110 : decode prog_8_method_7_code 110 = .ok (.putfield 100, 3) := by decide +kernel
theorem d_Me_moveFlitOf_113 : decode prog_8_method_7_code 113 = .ok (.aload 5, 2) := by decide +kernel
theorem d_Me_moveFlitOf_115 : decode prog_8_method_7_code 115 = .ok (.iload 6, 2) := by decide +kernel
theorem d_Me_moveFlitOf_117 : decode prog_8_method_7_code 117 = .ok (.iload_n 2, 1) := by decide +kernel
theorem d_Me_moveFlitOf_118 : decode prog_8_method_7_code 118 = .ok (.invokevirtual 103, 3) := by decide +kernel
theorem d_Me_moveFlitOf_121 : decode prog_8_method_7_code 121 = .ok (.iconst 1, 1) := by decide +kernel
theorem d_Me_moveFlitOf_122 : decode prog_8_method_7_code 122 = .ok (.ireturn, 1) := by decide +kernel
theorem d_Me_moveOneFlit_0 : decode prog_8_method_6_code 0 = .ok (.iconst 0, 1) := by decide +kernel
theorem d_Me_moveOneFlit_1 : decode prog_8_method_6_code 1 = .ok (.istore 4, 2) := by decide +kernel
theorem d_Me_moveOneFlit_3 : decode prog_8_method_6_code 3 = .ok (.iconst 2, 1) := by decide +kernel
theorem d_Me_moveOneFlit_4 : decode prog_8_method_6_code 4 = .ok (.istore 5, 2) := by decide +kernel
theorem d_Me_moveOneFlit_6 : decode prog_8_method_6_code 6 = .ok (.iload 5, 2) := by decide +kernel
theorem d_Me_moveOneFlit_8 : decode prog_8_method_6_code 8 = .ok (.ifCond .lt 25, 3) := by decide +kernel
theorem d_Me_moveOneFlit_11 : decode prog_8_method_6_code 11 = .ok (.iload 4, 2) := by decide +kernel
theorem d_Me_moveOneFlit_13 : decode prog_8_method_6_code 13 = .ok (.ifCond .ne 20, 3) := by decide +kernel
theorem d_Me_moveOneFlit_16 : decode prog_8_method_6_code 16 = .ok (.aload_n 0, 1) := by decide +kernel
theorem d_Me_moveOneFlit_17 : decode prog_8_method_6_code 17 = .ok (.iload_n 1, 1) := by decide +kernel
theorem d_Me_moveOneFlit_18 : decode prog_8_method_6_code 18 = .ok (.iload_n 2, 1) := by decide +kernel
theorem d_Me_moveOneFlit_19 : decode prog_8_method_6_code 19 = .ok (.iload 5, 2) := by decide +kernel
theorem d_Me_moveOneFlit_21 : decode prog_8_method_6_code 21 = .ok (.iload_n 3, 1) := by decide +kernel
theorem d_Me_moveOneFlit_22 : decode prog_8_method_6_code 22 = .ok (.invokevirtual 61, 3) := by decide +kernel
theorem d_Me_moveOneFlit_25 : decode prog_8_method_6_code 25 = .ok (.istore 4, 2) := by decide +kernel
theorem d_Me_moveOneFlit_27 : decode prog_8_method_6_code 27 = .ok (.iinc 5 (-1), 3) := by decide +kernel
theorem d_Me_moveOneFlit_30 : decode prog_8_method_6_code 30 = .ok (.goto (-24), 3) := by decide +kernel
theorem d_Me_moveOneFlit_33 : decode prog_8_method_6_code 33 = .ok (.return_, 1) := by decide +kernel
theorem d_Me_moveFlits_0 : decode prog_8_method_5_code 0 = .ok (.aload_n 0, 1) := by decide +kernel
theorem d_Me_moveFlits_1 : decode prog_8_method_5_code 1 = .ok (.getfield 47, 3) := by decide +kernel
theorem d_Me_moveFlits_4 : decode prog_8_method_5_code 4 = .ok (.aload_n 0, 1) := by decide +kernel
theorem d_Me_moveFlits_5 : decode prog_8_method_5_code 5 = .ok (.getfield 54, 3) := by decide +kernel
theorem d_Me_moveFlits_8 : decode prog_8_method_5_code 8 = .ok (.if_icmp .ne 4, 3) := by decide +kernel
theorem d_Me_moveFlits_11 : decode prog_8_method_5_code 11 = .ok (.return_, 1) := by decide +kernel
theorem d_Me_moveFlits_12 : decode prog_8_method_5_code 12 = .ok (.iconst 0, 1) := by decide +kernel
theorem d_Me_moveFlits_13 : decode prog_8_method_5_code 13 = .ok (.istore_n 2, 1) := by decide +kernel
theorem d_Me_moveFlits_14 : decode prog_8_method_5_code 14 = .ok (.iload_n 2, 1) := by decide +kernel
theorem d_Me_moveFlits_15 : decode prog_8_method_5_code 15 = .ok (.bipush 6, 2) := by decide +kernel
theorem d_Me_moveFlits_17 : decode prog_8_method_5_code 17 = .ok (.if_icmp .ge 29, 3) := by decide +kernel
theorem d_Me_moveFlits_20 : decode prog_8_method_5_code 20 = .ok (.iconst 0, 1) := by decide +kernel
theorem d_Me_moveFlits_21 : decode prog_8_method_5_code 21 = .ok (.istore_n 3, 1) := by decide +kernel
theorem d_Me_moveFlits_22 : decode prog_8_method_5_code 22 = .ok (.iload_n 3, 1) := by decide +kernel
theorem d_Me_moveFlits_23 : decode prog_8_method_5_code 23 = .ok (.iconst 5, 1) := by decide +kernel
theorem d_Me_moveFlits_24 : decode prog_8_method_5_code 24 = .ok (.if_icmp .ge 16, 3) := by decide +kernel
theorem d_Me_moveFlits_27 : decode prog_8_method_5_code 27 = .ok (.aload_n 0, 1) := by decide +kernel
theorem d_Me_moveFlits_28 : decode prog_8_method_5_code 28 = .ok (.iload_n 2, 1) := by decide +kernel
theorem d_Me_moveFlits_29 : decode prog_8_method_5_code 29 = .ok (.iload_n 3, 1) := by decide +kernel
theorem d_Me_moveFlits_30 : decode prog_8_method_5_code 30 = .ok (.iload_n 1, 1) := by decide +kernel
theorem d_Me_moveFlits_31 : decode prog_8_method_5_code 31 = .ok (.invokevirtual 57, 3) := by decide +kernel
theorem d_Me_moveFlits_34 : decode prog_8_method_5_code 34 = .ok (.iinc 3 1, 3) := by decide +kernel
theorem d_Me_moveFlits_37 : decode prog_8_method_5_code 37 = .ok (.goto (-15), 3) := by decide +kernel
theorem d_Me_moveFlits_40 : decode prog_8_method_5_code 40 = .ok (.iinc 2 1, 3) := by decide +kernel
theorem d_Me_moveFlits_43 : decode prog_8_method_5_code 43 = .ok (.goto (-29), 3) := by decide +kernel
theorem d_Me_moveFlits_46 : decode prog_8_method_5_code 46 = .ok (.return_, 1) := by decide +kernel
theorem d_AL_size_0 : decode prog_21_method_8_code 0 = .ok (.aload_n 0, 1) := by decide +kernel
theorem d_AL_size_1 : decode prog_21_method_8_code 1 = .ok (.getfield 48, 3) := by decide +kernel
theorem d_AL_size_4 : decode prog_21_method_8_code 4 = .ok (.ireturn, 1) := by decide +kernel
theorem d_Pa_isForHome_0 : decode prog_10_method_3_code 0 = .ok (.aload_n 0, 1) := by decide +kernel
theorem d_Pa_isForHome_1 : decode prog_10_method_3_code 1 = .ok (.getfield 9, 3) := by decide +kernel
theorem d_Pa_isForHome_4 : decode prog_10_method_3_code 4 = .ok (.iconst 3, 1) := by decide +kernel
theorem d_Pa_isForHome_5 : decode prog_10_method_3_code 5 = .ok (.if_icmp .le 12, 3) := by decide +kernel
theorem d_Pa_isForHome_8 : decode prog_10_method_3_code 8 = .ok (.aload_n 0, 1) := by decide +kernel
theorem d_Pa_isForHome_9 : decode prog_10_method_3_code 9 = .ok (.getfield 9, 3) := by decide +kernel
theorem d_Pa_isForHome_12 : decode prog_10_method_3_code 12 = .ok (.bipush 10, 2) := by decide +kernel
theorem d_Pa_isForHome_14 : decode prog_10_method_3_code 14 = .ok (.if_icmp .ne 7, 3) := by decide +kernel
theorem d_Pa_isForHome_17 : decode prog_10_method_3_code 17 = .ok (.iconst 1, 1) := by decide +kernel
theorem d_Pa_isForHome_18 : decode prog_10_method_3_code 18 = .ok (.goto 4, 3) := by decide +kernel
theorem d_Pa_isForHome_21 : decode prog_10_method_3_code 21 = .ok (.iconst 0, 1) := by decide +kernel
theorem d_Pa_isForHome_22 : decode prog_10_method_3_code 22 = .ok (.ireturn, 1) := by decide +kernel
theorem d_Ho_stalls_0 : decode prog_6_method_2_code 0 = .ok (.aload_n 0, 1) := by decide +kernel
theorem d_Ho_stalls_1 : decode prog_6_method_2_code 1 = .ok (.getfield 11, 3) := by decide +kernel
theorem d_Ho_stalls_4 : decode prog_6_method_2_code 4 = .ok (.iconst 3, 1) := by decide +kernel
theorem d_Ho_stalls_5 : decode prog_6_method_2_code 5 = .ok (.if_icmp .ne 22, 3) := by decide +kernel
theorem d_Ho_stalls_8 : decode prog_6_method_2_code 8 = .ok (.aload_n 1, 1) := by decide +kernel
theorem d_Ho_stalls_9 : decode prog_6_method_2_code 9 = .ok (.getfield 32, 3) := by decide +kernel
theorem d_Ho_stalls_12 : decode prog_6_method_2_code 12 = .ok (.ifCond .eq 11, 3) := by decide +kernel
theorem d_Ho_stalls_15 : decode prog_6_method_2_code 15 = .ok (.aload_n 1, 1) := by decide +kernel
theorem d_Ho_stalls_16 : decode prog_6_method_2_code 16 = .ok (.getfield 32, 3) := by decide +kernel
theorem d_Ho_stalls_19 : decode prog_6_method_2_code 19 = .ok (.iconst 1, 1) := by decide +kernel
theorem d_Ho_stalls_20 : decode prog_6_method_2_code 20 = .ok (.if_icmp .ne 7, 3) := by decide +kernel
theorem d_Ho_stalls_23 : decode prog_6_method_2_code 23 = .ok (.iconst 1, 1) := by decide +kernel
theorem d_Ho_stalls_24 : decode prog_6_method_2_code 24 = .ok (.goto 4, 3) := by decide +kernel
theorem d_Ho_stalls_27 : decode prog_6_method_2_code 27 = .ok (.iconst 0, 1) := by decide +kernel
theorem d_Ho_stalls_28 : decode prog_6_method_2_code 28 = .ok (.ireturn, 1) := by decide +kernel
theorem d_Ca_stalls_0 : decode prog_2_method_2_code 0 = .ok (.aload_n 0, 1) := by decide +kernel
theorem d_Ca_stalls_1 : decode prog_2_method_2_code 1 = .ok (.getfield 9, 3) := by decide +kernel
theorem d_Ca_stalls_4 : decode prog_2_method_2_code 4 = .ok (.aload_n 1, 1) := by decide +kernel
theorem d_Ca_stalls_5 : decode prog_2_method_2_code 5 = .ok (.getfield 32, 3) := by decide +kernel
theorem d_Ca_stalls_8 : decode prog_2_method_2_code 8 = .ok (.iaload, 1) := by decide +kernel
theorem d_Ca_stalls_9 : decode prog_2_method_2_code 9 = .ok (.istore_n 2, 1) := by decide +kernel
theorem d_Ca_stalls_10 : decode prog_2_method_2_code 10 = .ok (.aload_n 1, 1) := by decide +kernel
theorem d_Ca_stalls_11 : decode prog_2_method_2_code 11 = .ok (.getfield 37, 3) := by decide +kernel
theorem d_Ca_stalls_14 : decode prog_2_method_2_code 14 = .ok (.tableswitch 66 4 6 #[48, 48, 26], 26) := by decide +kernel
theorem d_Ca_stalls_40 : decode prog_2_method_2_code 40 = .ok (.iload_n 2, 1) := by decide +kernel
theorem d_Ca_stalls_41 : decode prog_2_method_2_code 41 = .ok (.iconst 4, 1) := by decide +kernel
theorem d_Ca_stalls_42 : decode prog_2_method_2_code 42 = .ok (.if_icmp .eq 18, 3) := by decide +kernel
theorem d_Ca_stalls_45 : decode prog_2_method_2_code 45 = .ok (.iload_n 2, 1) := by decide +kernel
theorem d_Ca_stalls_46 : decode prog_2_method_2_code 46 = .ok (.iconst 5, 1) := by decide +kernel
theorem d_Ca_stalls_47 : decode prog_2_method_2_code 47 = .ok (.if_icmp .eq 13, 3) := by decide +kernel
theorem d_Ca_stalls_50 : decode prog_2_method_2_code 50 = .ok (.iload_n 2, 1) := by decide +kernel
theorem d_Ca_stalls_51 : decode prog_2_method_2_code 51 = .ok (.bipush 9, 2) := by decide +kernel
theorem d_Ca_stalls_53 : decode prog_2_method_2_code 53 = .ok (.if_icmp .eq 7, 3) := by decide +kernel
theorem d_Ca_stalls_56 : decode prog_2_method_2_code 56 = .ok (.iconst 1, 1) := by decide +kernel
theorem d_Ca_stalls_57 : decode prog_2_method_2_code 57 = .ok (.goto 4, 3) := by decide +kernel
theorem d_Ca_stalls_60 : decode prog_2_method_2_code 60 = .ok (.iconst 0, 1) := by decide +kernel
theorem d_Ca_stalls_61 : decode prog_2_method_2_code 61 = .ok (.ireturn, 1) := by decide +kernel
theorem d_Ca_stalls_62 : decode prog_2_method_2_code 62 = .ok (.iload_n 2, 1) := by decide +kernel
theorem d_Ca_stalls_63 : decode prog_2_method_2_code 63 = .ok (.bipush 7, 2) := by decide +kernel
theorem d_Ca_stalls_65 : decode prog_2_method_2_code 65 = .ok (.if_icmp .eq 13, 3) := by decide +kernel
theorem d_Ca_stalls_68 : decode prog_2_method_2_code 68 = .ok (.iload_n 2, 1) := by decide +kernel
theorem d_Ca_stalls_69 : decode prog_2_method_2_code 69 = .ok (.bipush 8, 2) := by decide +kernel
theorem d_Ca_stalls_71 : decode prog_2_method_2_code 71 = .ok (.if_icmp .eq 7, 3) := by decide +kernel
theorem d_Ca_stalls_74 : decode prog_2_method_2_code 74 = .ok (.iconst 1, 1) := by decide +kernel
theorem d_Ca_stalls_75 : decode prog_2_method_2_code 75 = .ok (.goto 4, 3) := by decide +kernel
theorem d_Ca_stalls_78 : decode prog_2_method_2_code 78 = .ok (.iconst 0, 1) := by decide +kernel
theorem d_Ca_stalls_79 : decode prog_2_method_2_code 79 = .ok (.ireturn, 1) := by decide +kernel
theorem d_Ca_stalls_80 : decode prog_2_method_2_code 80 = .ok (.iconst 0, 1) := by decide +kernel
theorem d_Ca_stalls_81 : decode prog_2_method_2_code 81 = .ok (.ireturn, 1) := by decide +kernel
theorem d_No_stalls_0 : decode prog_9_method_4_code 0 = .ok (.aload_n 1, 1) := by decide +kernel
theorem d_No_stalls_1 : decode prog_9_method_4_code 1 = .ok (.invokevirtual 83, 3) := by decide +kernel
theorem d_No_stalls_4 : decode prog_9_method_4_code 4 = .ok (.ifCond .eq 19, 3) := by decide +kernel
theorem d_No_stalls_7 : decode prog_9_method_4_code 7 = .ok (.aload_n 0, 1) := by decide +kernel
theorem d_No_stalls_8 : decode prog_9_method_4_code 8 = .ok (.getfield 19, 3) := by decide +kernel
theorem d_No_stalls_11 : decode prog_9_method_4_code 11 = .ok (.aload_n 1, 1) := by decide +kernel
theorem d_No_stalls_12 : decode prog_9_method_4_code 12 = .ok (.getfield 76, 3) := by decide +kernel
theorem d_No_stalls_15 : decode prog_9_method_4_code 15 = .ok (.aaload, 1) := by decide +kernel
theorem d_No_stalls_16 : decode prog_9_method_4_code 16 = .ok (.aload_n 1, 1) := by decide +kernel
theorem d_No_stalls_17 : decode prog_9_method_4_code 17 = .ok (.invokevirtual 87, 3) := by decide +kernel
theorem d_No_stalls_20 : decode prog_9_method_4_code 20 = .ok (.goto 11, 3) := by decide +kernel
theorem d_No_stalls_23 : decode prog_9_method_4_code 23 = .ok (.aload_n 0, 1) := by decide +kernel
theorem d_No_stalls_24 : decode prog_9_method_4_code 24 = .ok (.getfield 28, 3) := by decide +kernel
theorem d_No_stalls_27 : decode prog_9_method_4_code 27 = .ok (.aload_n 1, 1) := by decide +kernel
theorem d_No_stalls_28 : decode prog_9_method_4_code 28 = .ok (.invokevirtual 90, 3) := by decide +kernel
theorem d_No_stalls_31 : decode prog_9_method_4_code 31 = .ok (.ireturn, 1) := by decide +kernel
theorem d_No_firstToTake_0 : decode prog_9_method_3_code 0 = .ok (.iconst 0, 1) := by decide +kernel
theorem d_No_firstToTake_1 : decode prog_9_method_3_code 1 = .ok (.istore_n 2, 1) := by decide +kernel
theorem d_No_firstToTake_2 : decode prog_9_method_3_code 2 = .ok (.aload_n 1, 1) := by decide +kernel
theorem d_No_firstToTake_3 : decode prog_9_method_3_code 3 = .ok (.invokevirtual 69, 3) := by decide +kernel
theorem d_No_firstToTake_6 : decode prog_9_method_3_code 6 = .ok (.istore_n 3, 1) := by decide +kernel
theorem d_No_firstToTake_7 : decode prog_9_method_3_code 7 = .ok (.iconst 0, 1) := by decide +kernel
theorem d_No_firstToTake_8 : decode prog_9_method_3_code 8 = .ok (.istore 4, 2) := by decide +kernel
theorem d_No_firstToTake_10 : decode prog_9_method_3_code 10 = .ok (.iload 4, 2) := by decide +kernel
theorem d_No_firstToTake_12 : decode prog_9_method_3_code 12 = .ok (.iload_n 3, 1) := by decide +kernel
theorem d_No_firstToTake_13 : decode prog_9_method_3_code 13 = .ok (.if_icmp .ge 53, 3) := by decide +kernel
theorem d_No_firstToTake_16 : decode prog_9_method_3_code 16 = .ok (.aload_n 1, 1) := by decide +kernel
theorem d_No_firstToTake_17 : decode prog_9_method_3_code 17 = .ok (.iload 4, 2) := by decide +kernel
theorem d_No_firstToTake_19 : decode prog_9_method_3_code 19 = .ok (.invokevirtual 73, 3) := by decide +kernel
theorem d_No_firstToTake_22 : decode prog_9_method_3_code 22 = .ok (.checkcast 63, 3) := by decide +kernel
theorem d_No_firstToTake_25 : decode prog_9_method_3_code 25 = .ok (.astore 5, 2) := by decide +kernel
theorem d_No_firstToTake_27 : decode prog_9_method_3_code 27 = .ok (.iconst 1, 1) := by decide +kernel
theorem d_No_firstToTake_28 : decode prog_9_method_3_code 28 = .ok (.aload 5, 2) := by decide +kernel
theorem d_No_firstToTake_30 : decode prog_9_method_3_code 30 = .ok (.getfield 76, 3) := by decide +kernel
theorem d_No_firstToTake_33 : decode prog_9_method_3_code 33 = .ok (.ishl, 1) := by decide +kernel
theorem d_No_firstToTake_34 : decode prog_9_method_3_code 34 = .ok (.istore 6, 2) := by decide +kernel
theorem d_No_firstToTake_36 : decode prog_9_method_3_code 36 = .ok (.iload_n 2, 1) := by decide +kernel
theorem d_No_firstToTake_37 : decode prog_9_method_3_code 37 = .ok (.iload 6, 2) := by decide +kernel
theorem d_No_firstToTake_39 : decode prog_9_method_3_code 39 = .ok (.iand, 1) := by decide +kernel
theorem d_No_firstToTake_40 : decode prog_9_method_3_code 40 = .ok (.ifCond .ne 15, 3) := by decide +kernel
theorem d_No_firstToTake_43 : decode prog_9_method_3_code 43 = .ok (.aload_n 0, 1) := by decide +kernel
theorem d_No_firstToTake_44 : decode prog_9_method_3_code 44 = .ok (.aload 5, 2) := by decide +kernel
theorem d_No_firstToTake_46 : decode prog_9_method_3_code 46 = .ok (.invokevirtual 79, 3) := by decide +kernel
theorem d_No_firstToTake_49 : decode prog_9_method_3_code 49 = .ok (.ifCond .ne 6, 3) := by decide +kernel
theorem d_No_firstToTake_52 : decode prog_9_method_3_code 52 = .ok (.iload 4, 2) := by decide +kernel
theorem d_No_firstToTake_54 : decode prog_9_method_3_code 54 = .ok (.ireturn, 1) := by decide +kernel
theorem d_No_firstToTake_55 : decode prog_9_method_3_code 55 = .ok (.iload_n 2, 1) := by decide +kernel
theorem d_No_firstToTake_56 : decode prog_9_method_3_code 56 = .ok (.iload 6, 2) := by decide +kernel
theorem d_No_firstToTake_58 : decode prog_9_method_3_code 58 = .ok (.ior, 1) := by decide +kernel
theorem d_No_firstToTake_59 : decode prog_9_method_3_code 59 = .ok (.istore_n 2, 1) := by decide +kernel
theorem d_No_firstToTake_60 : decode prog_9_method_3_code 60 = .ok (.iinc 4 1, 3) := by decide +kernel
theorem d_No_firstToTake_63 : decode prog_9_method_3_code 63 = .ok (.goto (-53), 3) := by decide +kernel
theorem d_No_firstToTake_66 : decode prog_9_method_3_code 66 = .ok (.iconst (-1), 1) := by decide +kernel
theorem d_No_firstToTake_67 : decode prog_9_method_3_code 67 = .ok (.ireturn, 1) := by decide +kernel
theorem d_Pa_init_0 : decode prog_10_method_1_code 0 = .ok (.aload_n 0, 1) := by decide +kernel
theorem d_Pa_init_1 : decode prog_10_method_1_code 1 = .ok (.invokespecial 3, 3) := by decide +kernel
theorem d_Pa_init_4 : decode prog_10_method_1_code 4 = .ok (.aload_n 0, 1) := by decide +kernel
theorem d_Pa_init_5 : decode prog_10_method_1_code 5 = .ok (.iload_n 1, 1) := by decide +kernel
theorem d_Pa_init_6 : decode prog_10_method_1_code 6 = .ok (.putfield 9, 3) := by decide +kernel
theorem d_Pa_init_9 : decode prog_10_method_1_code 9 = .ok (.aload_n 0, 1) := by decide +kernel
theorem d_Pa_init_10 : decode prog_10_method_1_code 10 = .ok (.iload_n 2, 1) := by decide +kernel
theorem d_Pa_init_11 : decode prog_10_method_1_code 11 = .ok (.putfield 15, 3) := by decide +kernel
theorem d_Pa_init_14 : decode prog_10_method_1_code 14 = .ok (.aload_n 0, 1) := by decide +kernel
theorem d_Pa_init_15 : decode prog_10_method_1_code 15 = .ok (.iload_n 3, 1) := by decide +kernel
theorem d_Pa_init_16 : decode prog_10_method_1_code 16 = .ok (.putfield 18, 3) := by decide +kernel
theorem d_Pa_init_19 : decode prog_10_method_1_code 19 = .ok (.aload_n 0, 1) := by decide +kernel
theorem d_Pa_init_20 : decode prog_10_method_1_code 20 = .ok (.iload 4, 2) := by decide +kernel
theorem d_Pa_init_22 : decode prog_10_method_1_code 22 = .ok (.putfield 21, 3) := by decide +kernel
theorem d_Pa_init_25 : decode prog_10_method_1_code 25 = .ok (.aload_n 0, 1) := by decide +kernel
theorem d_Pa_init_26 : decode prog_10_method_1_code 26 = .ok (.iload 5, 2) := by decide +kernel
theorem d_Pa_init_28 : decode prog_10_method_1_code 28 = .ok (.putfield 24, 3) := by decide +kernel
theorem d_Pa_init_31 : decode prog_10_method_1_code 31 = .ok (.aload_n 0, 1) := by decide +kernel
theorem d_Pa_init_32 : decode prog_10_method_1_code 32 = .ok (.iload 6, 2) := by decide +kernel
theorem d_Pa_init_34 : decode prog_10_method_1_code 34 = .ok (.putfield 27, 3) := by decide +kernel
theorem d_Pa_init_37 : decode prog_10_method_1_code 37 = .ok (.iload_n 1, 1) := by decide +kernel
theorem d_Pa_init_38 : decode prog_10_method_1_code 38 = .ok (.iconst 3, 1) := by decide +kernel
theorem d_Pa_init_39 : decode prog_10_method_1_code 39 = .ok (.if_icmp .eq 15, 3) := by decide +kernel
theorem d_Pa_init_42 : decode prog_10_method_1_code 42 = .ok (.iload_n 1, 1) := by decide +kernel
theorem d_Pa_init_43 : decode prog_10_method_1_code 43 = .ok (.bipush 8, 2) := by decide +kernel
theorem d_Pa_init_45 : decode prog_10_method_1_code 45 = .ok (.if_icmp .eq 9, 3) := by decide +kernel
theorem d_Pa_init_48 : decode prog_10_method_1_code 48 = .ok (.iload_n 1, 1) := by decide +kernel
theorem d_Pa_init_49 : decode prog_10_method_1_code 49 = .ok (.bipush 10, 2) := by decide +kernel
theorem d_Pa_init_51 : decode prog_10_method_1_code 51 = .ok (.if_icmp .ne 7, 3) := by decide +kernel
theorem d_Pa_init_54 : decode prog_10_method_1_code 54 = .ok (.iconst 1, 1) := by decide +kernel
theorem d_Pa_init_55 : decode prog_10_method_1_code 55 = .ok (.goto 4, 3) := by decide +kernel
theorem d_Pa_init_58 : decode prog_10_method_1_code 58 = .ok (.iconst 0, 1) := by decide +kernel
theorem d_Pa_init_59 : decode prog_10_method_1_code 59 = .ok (.istore 8, 2) := by decide +kernel
theorem d_Pa_init_61 : decode prog_10_method_1_code 61 = .ok (.aload_n 0, 1) := by decide +kernel
theorem d_Pa_init_62 : decode prog_10_method_1_code 62 = .ok (.iload 8, 2) := by decide +kernel
theorem d_Pa_init_64 : decode prog_10_method_1_code 64 = .ok (.ifCond .eq 8, 3) := by decide +kernel
theorem d_Pa_init_67 : decode prog_10_method_1_code 67 = .ok (.iload 7, 2) := by decide +kernel
theorem d_Pa_init_69 : decode prog_10_method_1_code 69 = .ok (.goto 4, 3) := by decide +kernel
theorem d_Pa_init_72 : decode prog_10_method_1_code 72 = .ok (.iconst 1, 1) := by decide +kernel
theorem d_Pa_init_73 : decode prog_10_method_1_code 73 = .ok (.putfield 30, 3) := by decide +kernel
theorem d_Pa_init_76 : decode prog_10_method_1_code 76 = .ok (.return_, 1) := by decide +kernel
theorem d_Pa_channel_0 : decode prog_10_method_2_code 0 = .ok (.aload_n 0, 1) := by decide +kernel
theorem d_Pa_channel_1 : decode prog_10_method_2_code 1 = .ok (.getfield 9, 3) := by decide +kernel
theorem d_Pa_channel_4 : decode prog_10_method_2_code 4 = .ok (.iconst 3, 1) := by decide +kernel
theorem d_Pa_channel_5 : decode prog_10_method_2_code 5 = .ok (.if_icmp .gt 5, 3) := by decide +kernel
theorem d_Pa_channel_8 : decode prog_10_method_2_code 8 = .ok (.iconst 0, 1) := by decide +kernel
theorem d_Pa_channel_9 : decode prog_10_method_2_code 9 = .ok (.ireturn, 1) := by decide +kernel
theorem d_Pa_channel_10 : decode prog_10_method_2_code 10 = .ok (.aload_n 0, 1) := by decide +kernel
theorem d_Pa_channel_11 : decode prog_10_method_2_code 11 = .ok (.getfield 9, 3) := by decide +kernel
theorem d_Pa_channel_14 : decode prog_10_method_2_code 14 = .ok (.bipush 7, 2) := by decide +kernel
theorem d_Pa_channel_16 : decode prog_10_method_2_code 16 = .ok (.if_icmp .gt 7, 3) := by decide +kernel
theorem d_Pa_channel_19 : decode prog_10_method_2_code 19 = .ok (.iconst 1, 1) := by decide +kernel
theorem d_Pa_channel_20 : decode prog_10_method_2_code 20 = .ok (.goto 4, 3) := by decide +kernel
theorem d_Pa_channel_23 : decode prog_10_method_2_code 23 = .ok (.iconst 2, 1) := by decide +kernel
theorem d_Pa_channel_24 : decode prog_10_method_2_code 24 = .ok (.ireturn, 1) := by decide +kernel
theorem d_Me_send_0 : decode prog_8_method_3_code 0 = .ok (.new 24, 3) := by decide +kernel
theorem d_Me_send_3 : decode prog_8_method_3_code 3 = .ok (.dup, 1) := by decide +kernel
theorem d_Me_send_4 : decode prog_8_method_3_code 4 = .ok (.iload_n 2, 1) := by decide +kernel
theorem d_Me_send_5 : decode prog_8_method_3_code 5 = .ok (.iload_n 3, 1) := by decide +kernel
theorem d_Me_send_6 : decode prog_8_method_3_code 6 = .ok (.iload 4, 2) := by decide +kernel
theorem d_Me_send_8 : decode prog_8_method_3_code 8 = .ok (.iload 5, 2) := by decide +kernel
theorem d_Me_send_10 : decode prog_8_method_3_code 10 = .ok (.iload 6, 2) := by decide +kernel
theorem d_Me_send_12 : decode prog_8_method_3_code 12 = .ok (.iload 7, 2) := by decide +kernel
theorem d_Me_send_14 : decode prog_8_method_3_code 14 = .ok (.aload_n 0, 1) := by decide +kernel
theorem d_Me_send_15 : decode prog_8_method_3_code 15 = .ok (.getfield 17, 3) := by decide +kernel
theorem d_Me_send_18 : decode prog_8_method_3_code 18 = .ok (.invokespecial 26, 3) := by decide +kernel
theorem d_Me_send_21 : decode prog_8_method_3_code 21 = .ok (.astore 8, 2) := by decide +kernel
theorem d_Me_send_23 : decode prog_8_method_3_code 23 = .ok (.aload_n 0, 1) := by decide +kernel
theorem d_Me_send_24 : decode prog_8_method_3_code 24 = .ok (.iload_n 1, 1) := by decide +kernel
theorem d_Me_send_25 : decode prog_8_method_3_code 25 = .ok (.aload 8, 2) := by decide +kernel
theorem d_Me_send_27 : decode prog_8_method_3_code 27 = .ok (.invokevirtual 29, 3) := by decide +kernel
theorem d_Me_send_30 : decode prog_8_method_3_code 30 = .ok (.invokevirtual 33, 3) := by decide +kernel
theorem d_Me_send_33 : decode prog_8_method_3_code 33 = .ok (.getfield 37, 3) := by decide +kernel
theorem d_Me_send_36 : decode prog_8_method_3_code 36 = .ok (.aload 8, 2) := by decide +kernel
theorem d_Me_send_38 : decode prog_8_method_3_code 38 = .ok (.invokevirtual 41, 3) := by decide +kernel
theorem d_Me_send_41 : decode prog_8_method_3_code 41 = .ok (.pop, 1) := by decide +kernel
theorem d_Me_send_42 : decode prog_8_method_3_code 42 = .ok (.aload_n 0, 1) := by decide +kernel
theorem d_Me_send_43 : decode prog_8_method_3_code 43 = .ok (.dup, 1) := by decide +kernel
theorem d_Me_send_44 : decode prog_8_method_3_code 44 = .ok (.getfield 47, 3) := by decide +kernel
theorem d_Me_send_47 : decode prog_8_method_3_code 47 = .ok (.iconst 1, 1) := by decide +kernel
theorem d_Me_send_48 : decode prog_8_method_3_code 48 = .ok (.iadd, 1) := by decide +kernel
theorem d_Me_send_49 : decode prog_8_method_3_code 49 = .ok (.putfield 47, 3) := by decide +kernel
theorem d_Me_send_52 : decode prog_8_method_3_code 52 = .ok (.return_, 1) := by decide +kernel
theorem d_Ho_takeGets_0 : decode prog_6_method_4_code 0 = .ok (.aload_n 0, 1) := by decide +kernel
theorem d_Ho_takeGets_1 : decode prog_6_method_4_code 1 = .ok (.getfield 11, 3) := by decide +kernel
theorem d_Ho_takeGets_4 : decode prog_6_method_4_code 4 = .ok (.iconst 2, 1) := by decide +kernel
theorem d_Ho_takeGets_5 : decode prog_6_method_4_code 5 = .ok (.if_icmp .ne 58, 3) := by decide +kernel
theorem d_Ho_takeGets_8 : decode prog_6_method_4_code 8 = .ok (.aload_n 0, 1) := by decide +kernel
theorem d_Ho_takeGets_9 : decode prog_6_method_4_code 9 = .ok (.getfield 28, 3) := by decide +kernel
theorem d_Ho_takeGets_12 : decode prog_6_method_4_code 12 = .ok (.aload_n 0, 1) := by decide +kernel
theorem d_Ho_takeGets_13 : decode prog_6_method_4_code 13 = .ok (.getfield 25, 3) := by decide +kernel
theorem d_Ho_takeGets_16 : decode prog_6_method_4_code 16 = .ok (.iconst 4, 1) := by decide +kernel
theorem d_Ho_takeGets_17 : decode prog_6_method_4_code 17 = .ok (.aload_n 0, 1) := by decide +kernel
theorem d_Ho_takeGets_18 : decode prog_6_method_4_code 18 = .ok (.getfield 18, 3) := by decide +kernel
theorem d_Ho_takeGets_21 : decode prog_6_method_4_code 21 = .ok (.aload_n 0, 1) := by decide +kernel
theorem d_Ho_takeGets_22 : decode prog_6_method_4_code 22 = .ok (.getfield 15, 3) := by decide +kernel
theorem d_Ho_takeGets_25 : decode prog_6_method_4_code 25 = .ok (.iload_n 1, 1) := by decide +kernel
theorem d_Ho_takeGets_26 : decode prog_6_method_4_code 26 = .ok (.iconst 0, 1) := by decide +kernel
theorem d_Ho_takeGets_27 : decode prog_6_method_4_code 27 = .ok (.iconst 0, 1) := by decide +kernel
theorem d_Ho_takeGets_28 : decode prog_6_method_4_code 28 = .ok (.invokevirtual 58, 3) := by decide +kernel
theorem d_Ho_takeGets_31 : decode prog_6_method_4_code 31 = .ok (.aload_n 0, 1) := by decide +kernel
theorem d_Ho_takeGets_32 : decode prog_6_method_4_code 32 = .ok (.dup, 1) := by decide +kernel
theorem d_Ho_takeGets_33 : decode prog_6_method_4_code 33 = .ok (.getfield 64, 3) := by decide +kernel
theorem d_Ho_takeGets_36 : decode prog_6_method_4_code 36 = .ok (.iconst 1, 1) := by decide +kernel
theorem d_Ho_takeGets_37 : decode prog_6_method_4_code 37 = .ok (.aload_n 0, 1) := by decide +kernel
theorem d_Ho_takeGets_38 : decode prog_6_method_4_code 38 = .ok (.getfield 15, 3) := by decide +kernel
theorem d_Ho_takeGets_41 : decode prog_6_method_4_code 41 = .ok (.ishl, 1) := by decide +kernel
theorem d_Ho_takeGets_42 : decode prog_6_method_4_code 42 = .ok (.iconst 1, 1) := by decide +kernel
theorem d_Ho_takeGets_43 : decode prog_6_method_4_code 43 = .ok (.iload_n 1, 1) := by decide +kernel
theorem d_Ho_takeGets_44 : decode prog_6_method_4_code 44 = .ok (.ishl, 1) := by decide +kernel
theorem d_Ho_takeGets_45 : decode prog_6_method_4_code 45 = .ok (.ior, 1) := by decide +kernel
theorem d_Ho_takeGets_46 : decode prog_6_method_4_code 46 = .ok (.ior, 1) := by decide +kernel
theorem d_Ho_takeGets_47 : decode prog_6_method_4_code 47 = .ok (.putfield 64, 3) := by decide +kernel
theorem d_Ho_takeGets_50 : decode prog_6_method_4_code 50 = .ok (.aload_n 0, 1) := by decide +kernel
theorem d_Ho_takeGets_51 : decode prog_6_method_4_code 51 = .ok (.iconst (-1), 1) := by decide +kernel
theorem d_Ho_takeGets_52 : decode prog_6_method_4_code 52 = .ok (.putfield 15, 3) := by decide +kernel
theorem d_Ho_takeGets_55 : decode prog_6_method_4_code 55 = .ok (.aload_n 0, 1) := by decide +kernel
theorem d_Ho_takeGets_56 : decode prog_6_method_4_code 56 = .ok (.iconst 3, 1) := by decide +kernel
theorem d_Ho_takeGets_57 : decode prog_6_method_4_code 57 = .ok (.putfield 11, 3) := by decide +kernel
theorem d_Ho_takeGets_60 : decode prog_6_method_4_code 60 = .ok (.goto 44, 3) := by decide +kernel
theorem d_Ho_takeGets_63 : decode prog_6_method_4_code 63 = .ok (.aload_n 0, 1) := by decide +kernel
theorem d_Ho_takeGets_64 : decode prog_6_method_4_code 64 = .ok (.getfield 28, 3) := by decide +kernel
theorem d_Ho_takeGets_67 : decode prog_6_method_4_code 67 = .ok (.aload_n 0, 1) := by decide +kernel
theorem d_Ho_takeGets_68 : decode prog_6_method_4_code 68 = .ok (.getfield 25, 3) := by decide +kernel
theorem d_Ho_takeGets_71 : decode prog_6_method_4_code 71 = .ok (.bipush 8, 2) := by decide +kernel
theorem d_Ho_takeGets_73 : decode prog_6_method_4_code 73 = .ok (.aload_n 0, 1) := by decide +kernel
theorem d_Ho_takeGets_74 : decode prog_6_method_4_code 74 = .ok (.getfield 18, 3) := by decide +kernel
theorem d_Ho_takeGets_77 : decode prog_6_method_4_code 77 = .ok (.iload_n 1, 1) := by decide +kernel
theorem d_Ho_takeGets_78 : decode prog_6_method_4_code 78 = .ok (.iload_n 1, 1) := by decide +kernel
theorem d_Ho_takeGets_79 : decode prog_6_method_4_code 79 = .ok (.aload_n 0, 1) := by decide +kernel
theorem d_Ho_takeGets_80 : decode prog_6_method_4_code 80 = .ok (.getfield 57, 3) := by decide +kernel
theorem d_Ho_takeGets_83 : decode prog_6_method_4_code 83 = .ok (.iconst 0, 1) := by decide +kernel
theorem d_Ho_takeGets_84 : decode prog_6_method_4_code 84 = .ok (.invokevirtual 58, 3) := by decide +kernel
theorem d_Ho_takeGets_87 : decode prog_6_method_4_code 87 = .ok (.aload_n 0, 1) := by decide +kernel
theorem d_Ho_takeGets_88 : decode prog_6_method_4_code 88 = .ok (.dup, 1) := by decide +kernel
theorem d_Ho_takeGets_89 : decode prog_6_method_4_code 89 = .ok (.getfield 64, 3) := by decide +kernel
theorem d_Ho_takeGets_92 : decode prog_6_method_4_code 92 = .ok (.iconst 1, 1) := by decide +kernel
theorem d_Ho_takeGets_93 : decode prog_6_method_4_code 93 = .ok (.iload_n 1, 1) := by decide +kernel
theorem d_Ho_takeGets_94 : decode prog_6_method_4_code 94 = .ok (.ishl, 1) := by decide +kernel
theorem d_Ho_takeGets_95 : decode prog_6_method_4_code 95 = .ok (.ior, 1) := by decide +kernel
theorem d_Ho_takeGets_96 : decode prog_6_method_4_code 96 = .ok (.putfield 64, 3) := by decide +kernel
theorem d_Ho_takeGets_99 : decode prog_6_method_4_code 99 = .ok (.aload_n 0, 1) := by decide +kernel
theorem d_Ho_takeGets_100 : decode prog_6_method_4_code 100 = .ok (.iconst 1, 1) := by decide +kernel
theorem d_Ho_takeGets_101 : decode prog_6_method_4_code 101 = .ok (.putfield 11, 3) := by decide +kernel
theorem d_Ho_takeGets_104 : decode prog_6_method_4_code 104 = .ok (.return_, 1) := by decide +kernel
theorem d_In_bitCount_0 : decode prog_15_method_49_code 0 = .ok (.iload_n 0, 1) := by decide +kernel
theorem d_In_bitCount_1 : decode prog_15_method_49_code 1 = .ok (.iload_n 0, 1) := by decide +kernel
theorem d_In_bitCount_2 : decode prog_15_method_49_code 2 = .ok (.iconst 1, 1) := by decide +kernel
theorem d_In_bitCount_3 : decode prog_15_method_49_code 3 = .ok (.iushr, 1) := by decide +kernel
theorem d_In_bitCount_4 : decode prog_15_method_49_code 4 = .ok (.ldc_w 265, 3) := by decide +kernel
theorem d_In_bitCount_7 : decode prog_15_method_49_code 7 = .ok (.iand, 1) := by decide +kernel
theorem d_In_bitCount_8 : decode prog_15_method_49_code 8 = .ok (.isub, 1) := by decide +kernel
theorem d_In_bitCount_9 : decode prog_15_method_49_code 9 = .ok (.istore_n 0, 1) := by decide +kernel
theorem d_In_bitCount_10 : decode prog_15_method_49_code 10 = .ok (.iload_n 0, 1) := by decide +kernel
theorem d_In_bitCount_11 : decode prog_15_method_49_code 11 = .ok (.ldc_w 266, 3) := by decide +kernel
theorem d_In_bitCount_14 : decode prog_15_method_49_code 14 = .ok (.iand, 1) := by decide +kernel
theorem d_In_bitCount_15 : decode prog_15_method_49_code 15 = .ok (.iload_n 0, 1) := by decide +kernel
theorem d_In_bitCount_16 : decode prog_15_method_49_code 16 = .ok (.iconst 2, 1) := by decide +kernel
theorem d_In_bitCount_17 : decode prog_15_method_49_code 17 = .ok (.iushr, 1) := by decide +kernel
theorem d_In_bitCount_18 : decode prog_15_method_49_code 18 = .ok (.ldc_w 266, 3) := by decide +kernel
theorem d_In_bitCount_21 : decode prog_15_method_49_code 21 = .ok (.iand, 1) := by decide +kernel
theorem d_In_bitCount_22 : decode prog_15_method_49_code 22 = .ok (.iadd, 1) := by decide +kernel
theorem d_In_bitCount_23 : decode prog_15_method_49_code 23 = .ok (.istore_n 0, 1) := by decide +kernel
theorem d_In_bitCount_24 : decode prog_15_method_49_code 24 = .ok (.iload_n 0, 1) := by decide +kernel
theorem d_In_bitCount_25 : decode prog_15_method_49_code 25 = .ok (.iload_n 0, 1) := by decide +kernel
theorem d_In_bitCount_26 : decode prog_15_method_49_code 26 = .ok (.iconst 4, 1) := by decide +kernel
theorem d_In_bitCount_27 : decode prog_15_method_49_code 27 = .ok (.iushr, 1) := by decide +kernel
theorem d_In_bitCount_28 : decode prog_15_method_49_code 28 = .ok (.iadd, 1) := by decide +kernel
theorem d_In_bitCount_29 : decode prog_15_method_49_code 29 = .ok (.ldc_w 267, 3) := by decide +kernel
theorem d_In_bitCount_32 : decode prog_15_method_49_code 32 = .ok (.iand, 1) := by decide +kernel
theorem d_In_bitCount_33 : decode prog_15_method_49_code 33 = .ok (.istore_n 0, 1) := by decide +kernel
theorem d_In_bitCount_34 : decode prog_15_method_49_code 34 = .ok (.iload_n 0, 1) := by decide +kernel
theorem d_In_bitCount_35 : decode prog_15_method_49_code 35 = .ok (.iload_n 0, 1) := by decide +kernel
theorem d_In_bitCount_36 : decode prog_15_method_49_code 36 = .ok (.bipush 8, 2) := by decide +kernel
theorem d_In_bitCount_38 : decode prog_15_method_49_code 38 = .ok (.iushr, 1) := by decide +kernel
theorem d_In_bitCount_39 : decode prog_15_method_49_code 39 = .ok (.iadd, 1) := by decide +kernel
theorem d_In_bitCount_40 : decode prog_15_method_49_code 40 = .ok (.istore_n 0, 1) := by decide +kernel
theorem d_In_bitCount_41 : decode prog_15_method_49_code 41 = .ok (.iload_n 0, 1) := by decide +kernel
theorem d_In_bitCount_42 : decode prog_15_method_49_code 42 = .ok (.iload_n 0, 1) := by decide +kernel
theorem d_In_bitCount_43 : decode prog_15_method_49_code 43 = .ok (.bipush 16, 2) := by decide +kernel
theorem d_In_bitCount_45 : decode prog_15_method_49_code 45 = .ok (.iushr, 1) := by decide +kernel
theorem d_In_bitCount_46 : decode prog_15_method_49_code 46 = .ok (.iadd, 1) := by decide +kernel
theorem d_In_bitCount_47 : decode prog_15_method_49_code 47 = .ok (.istore_n 0, 1) := by decide +kernel
theorem d_In_bitCount_48 : decode prog_15_method_49_code 48 = .ok (.iload_n 0, 1) := by decide +kernel
theorem d_In_bitCount_49 : decode prog_15_method_49_code 49 = .ok (.bipush 63, 2) := by decide +kernel
theorem d_In_bitCount_51 : decode prog_15_method_49_code 51 = .ok (.iand, 1) := by decide +kernel
theorem d_In_bitCount_52 : decode prog_15_method_49_code 52 = .ok (.ireturn, 1) := by decide +kernel
theorem d_Ho_takeGetm_0 : decode prog_6_method_5_code 0 = .ok (.aload_n 0, 1) := by decide +kernel
theorem d_Ho_takeGetm_1 : decode prog_6_method_5_code 1 = .ok (.getfield 11, 3) := by decide +kernel
theorem d_Ho_takeGetm_4 : decode prog_6_method_5_code 4 = .ok (.iconst 2, 1) := by decide +kernel
theorem d_Ho_takeGetm_5 : decode prog_6_method_5_code 5 = .ok (.if_icmp .ne 29, 3) := by decide +kernel
theorem d_Ho_takeGetm_8 : decode prog_6_method_5_code 8 = .ok (.aload_n 0, 1) := by decide +kernel
theorem d_Ho_takeGetm_9 : decode prog_6_method_5_code 9 = .ok (.getfield 28, 3) := by decide +kernel
theorem d_Ho_takeGetm_12 : decode prog_6_method_5_code 12 = .ok (.aload_n 0, 1) := by decide +kernel
theorem d_Ho_takeGetm_13 : decode prog_6_method_5_code 13 = .ok (.getfield 25, 3) := by decide +kernel
theorem d_Ho_takeGetm_16 : decode prog_6_method_5_code 16 = .ok (.iconst 5, 1) := by decide +kernel
theorem d_Ho_takeGetm_17 : decode prog_6_method_5_code 17 = .ok (.aload_n 0, 1) := by decide +kernel
theorem d_Ho_takeGetm_18 : decode prog_6_method_5_code 18 = .ok (.getfield 18, 3) := by decide +kernel
theorem d_Ho_takeGetm_21 : decode prog_6_method_5_code 21 = .ok (.aload_n 0, 1) := by decide +kernel
theorem d_Ho_takeGetm_22 : decode prog_6_method_5_code 22 = .ok (.getfield 15, 3) := by decide +kernel
theorem d_Ho_takeGetm_25 : decode prog_6_method_5_code 25 = .ok (.iload_n 1, 1) := by decide +kernel
theorem d_Ho_takeGetm_26 : decode prog_6_method_5_code 26 = .ok (.iconst 0, 1) := by decide +kernel
theorem d_Ho_takeGetm_27 : decode prog_6_method_5_code 27 = .ok (.iconst 0, 1) := by decide +kernel
theorem d_Ho_takeGetm_28 : decode prog_6_method_5_code 28 = .ok (.invokevirtual 58, 3) := by decide +kernel
theorem d_Ho_takeGetm_31 : decode prog_6_method_5_code 31 = .ok (.goto 94, 3) := by decide +kernel
theorem d_Ho_takeGetm_34 : decode prog_6_method_5_code 34 = .ok (.aload_n 0, 1) := by decide +kernel
theorem d_Ho_takeGetm_35 : decode prog_6_method_5_code 35 = .ok (.getfield 64, 3) := by decide +kernel
theorem d_Ho_takeGetm_38 : decode prog_6_method_5_code 38 = .ok (.iconst 1, 1) := by decide +kernel
theorem d_Ho_takeGetm_39 : decode prog_6_method_5_code 39 = .ok (.iload_n 1, 1) := by decide +kernel
theorem d_Ho_takeGetm_40 : decode prog_6_method_5_code 40 = .ok (.ishl, 1) := by decide +kernel
theorem d_Ho_takeGetm_41 : decode prog_6_method_5_code 41 = .ok (.iconst (-1), 1) := by decide +kernel
theorem d_Ho_takeGetm_42 : decode prog_6_method_5_code 42 = .ok (.ixor, 1) := by decide +kernel
theorem d_Ho_takeGetm_43 : decode prog_6_method_5_code 43 = .ok (.iand, 1) := by decide +kernel
theorem d_Ho_takeGetm_44 : decode prog_6_method_5_code 44 = .ok (.istore_n 2, 1) := by decide +kernel
theorem d_Ho_takeGetm_45 : decode prog_6_method_5_code 45 = .ok (.aload_n 0, 1) := by decide +kernel
theorem d_Ho_takeGetm_46 : decode prog_6_method_5_code 46 = .ok (.getfield 28, 3) := by decide +kernel
theorem d_Ho_takeGetm_49 : decode prog_6_method_5_code 49 = .ok (.aload_n 0, 1) := by decide +kernel
theorem d_Ho_takeGetm_50 : decode prog_6_method_5_code 50 = .ok (.getfield 25, 3) := by decide +kernel
theorem d_Ho_takeGetm_53 : decode prog_6_method_5_code 53 = .ok (.bipush 8, 2) := by decide +kernel
theorem d_Ho_takeGetm_55 : decode prog_6_method_5_code 55 = .ok (.aload_n 0, 1) := by decide +kernel
theorem d_Ho_takeGetm_56 : decode prog_6_method_5_code 56 = .ok (.getfield 18, 3) := by decide +kernel
theorem d_Ho_takeGetm_59 : decode prog_6_method_5_code 59 = .ok (.iload_n 1, 1) := by decide +kernel
theorem d_Ho_takeGetm_60 : decode prog_6_method_5_code 60 = .ok (.iload_n 1, 1) := by decide +kernel
theorem d_Ho_takeGetm_61 : decode prog_6_method_5_code 61 = .ok (.aload_n 0, 1) := by decide +kernel
theorem d_Ho_takeGetm_62 : decode prog_6_method_5_code 62 = .ok (.getfield 57, 3) := by decide +kernel
theorem d_Ho_takeGetm_65 : decode prog_6_method_5_code 65 = .ok (.iload_n 2, 1) := by decide +kernel
theorem d_Ho_takeGetm_66 : decode prog_6_method_5_code 66 = .ok (.invokestatic 67, 3) := by decide +kernel
theorem d_Ho_takeGetm_69 : decode prog_6_method_5_code 69 = .ok (.invokevirtual 58, 3) := by decide +kernel
theorem d_Ho_takeGetm_72 : decode prog_6_method_5_code 72 = .ok (.iconst 0, 1) := by decide +kernel
theorem d_Ho_takeGetm_73 : decode prog_6_method_5_code 73 = .ok (.istore_n 3, 1) := by decide +kernel
theorem d_Ho_takeGetm_74 : decode prog_6_method_5_code 74 = .ok (.iload_n 3, 1) := by decide +kernel
theorem d_Ho_takeGetm_75 : decode prog_6_method_5_code 75 = .ok (.bipush 6, 2) := by decide +kernel
theorem d_Ho_takeGetm_77 : decode prog_6_method_5_code 77 = .ok (.if_icmp .ge 38, 3) := by decide +kernel
theorem d_Ho_takeGetm_80 : decode prog_6_method_5_code 80 = .ok (.iload_n 2, 1) := by decide +kernel
theorem d_Ho_takeGetm_81 : decode prog_6_method_5_code 81 = .ok (.iconst 1, 1) := by decide +kernel
theorem d_Ho_takeGetm_82 : decode prog_6_method_5_code 82 = .ok (.iload_n 3, 1) := by decide +kernel
theorem d_Ho_takeGetm_83 : decode prog_6_method_5_code 83 = .ok (.ishl, 1) := by decide +kernel
theorem d_Ho_takeGetm_84 : decode prog_6_method_5_code 84 = .ok (.iand, 1) := by decide +kernel
theorem d_Ho_takeGetm_85 : decode prog_6_method_5_code 85 = .ok (.ifCond .eq 24, 3) := by decide +kernel
theorem d_Ho_takeGetm_88 : decode prog_6_method_5_code 88 = .ok (.aload_n 0, 1) := by decide +kernel
theorem d_Ho_takeGetm_89 : decode prog_6_method_5_code 89 = .ok (.getfield 28, 3) := by decide +kernel
theorem d_Ho_takeGetm_92 : decode prog_6_method_5_code 92 = .ok (.aload_n 0, 1) := by decide +kernel
theorem d_Ho_takeGetm_93 : decode prog_6_method_5_code 93 = .ok (.getfield 25, 3) := by decide +kernel
theorem d_Ho_takeGetm_96 : decode prog_6_method_5_code 96 = .ok (.bipush 6, 2) := by decide +kernel
theorem d_Ho_takeGetm_98 : decode prog_6_method_5_code 98 = .ok (.aload_n 0, 1) := by decide +kernel
theorem d_Ho_takeGetm_99 : decode prog_6_method_5_code 99 = .ok (.getfield 18, 3) := by decide +kernel
theorem d_Ho_takeGetm_102 : decode prog_6_method_5_code 102 = .ok (.iload_n 3, 1) := by decide +kernel
theorem d_Ho_takeGetm_103 : decode prog_6_method_5_code 103 = .ok (.iload_n 1, 1) := by decide +kernel
theorem d_Ho_takeGetm_104 : decode prog_6_method_5_code 104 = .ok (.iconst 0, 1) := by decide +kernel
theorem d_Ho_takeGetm_105 : decode prog_6_method_5_code 105 = .ok (.iconst 0, 1) := by decide +kernel
theorem d_Ho_takeGetm_106 : decode prog_6_method_5_code 106 = .ok (.invokevirtual 58, 3) := by decide +kernel
theorem d_Ho_takeGetm_109 : decode prog_6_method_5_code 109 = .ok (.iinc 3 1, 3) := by decide +kernel
theorem d_Ho_takeGetm_112 : decode prog_6_method_5_code 112 = .ok (.goto (-38), 3) := by decide +kernel
theorem d_Ho_takeGetm_115 : decode prog_6_method_5_code 115 = .ok (.aload_n 0, 1) := by decide +kernel
theorem d_Ho_takeGetm_116 : decode prog_6_method_5_code 116 = .ok (.iconst 0, 1) := by decide +kernel
theorem d_Ho_takeGetm_117 : decode prog_6_method_5_code 117 = .ok (.putfield 64, 3) := by decide +kernel
theorem d_Ho_takeGetm_120 : decode prog_6_method_5_code 120 = .ok (.aload_n 0, 1) := by decide +kernel
theorem d_Ho_takeGetm_121 : decode prog_6_method_5_code 121 = .ok (.iconst 2, 1) := by decide +kernel
theorem d_Ho_takeGetm_122 : decode prog_6_method_5_code 122 = .ok (.putfield 11, 3) := by decide +kernel
theorem d_Ho_takeGetm_125 : decode prog_6_method_5_code 125 = .ok (.aload_n 0, 1) := by decide +kernel
theorem d_Ho_takeGetm_126 : decode prog_6_method_5_code 126 = .ok (.iload_n 1, 1) := by decide +kernel
theorem d_Ho_takeGetm_127 : decode prog_6_method_5_code 127 = .ok (.putfield 15, 3) := by decide +kernel
theorem d_Ho_takeGetm_130 : decode prog_6_method_5_code 130 = .ok (.return_, 1) := by decide +kernel
theorem d_Ho_dropSharer_0 : decode prog_6_method_8_code 0 = .ok (.aload_n 0, 1) := by decide +kernel
theorem d_Ho_dropSharer_1 : decode prog_6_method_8_code 1 = .ok (.dup, 1) := by decide +kernel
theorem d_Ho_dropSharer_2 : decode prog_6_method_8_code 2 = .ok (.getfield 64, 3) := by decide +kernel
theorem d_Ho_dropSharer_5 : decode prog_6_method_8_code 5 = .ok (.iconst 1, 1) := by decide +kernel
theorem d_Ho_dropSharer_6 : decode prog_6_method_8_code 6 = .ok (.iload_n 1, 1) := by decide +kernel
theorem d_Ho_dropSharer_7 : decode prog_6_method_8_code 7 = .ok (.ishl, 1) := by decide +kernel
theorem d_Ho_dropSharer_8 : decode prog_6_method_8_code 8 = .ok (.iconst (-1), 1) := by decide +kernel
theorem d_Ho_dropSharer_9 : decode prog_6_method_8_code 9 = .ok (.ixor, 1) := by decide +kernel
theorem d_Ho_dropSharer_10 : decode prog_6_method_8_code 10 = .ok (.iand, 1) := by decide +kernel
theorem d_Ho_dropSharer_11 : decode prog_6_method_8_code 11 = .ok (.putfield 64, 3) := by decide +kernel
theorem d_Ho_dropSharer_14 : decode prog_6_method_8_code 14 = .ok (.aload_n 0, 1) := by decide +kernel
theorem d_Ho_dropSharer_15 : decode prog_6_method_8_code 15 = .ok (.getfield 11, 3) := by decide +kernel
theorem d_Ho_dropSharer_18 : decode prog_6_method_8_code 18 = .ok (.iconst 1, 1) := by decide +kernel
theorem d_Ho_dropSharer_19 : decode prog_6_method_8_code 19 = .ok (.if_icmp .ne 15, 3) := by decide +kernel
theorem d_Ho_dropSharer_22 : decode prog_6_method_8_code 22 = .ok (.aload_n 0, 1) := by decide +kernel
theorem d_Ho_dropSharer_23 : decode prog_6_method_8_code 23 = .ok (.getfield 64, 3) := by decide +kernel
theorem d_Ho_dropSharer_26 : decode prog_6_method_8_code 26 = .ok (.ifCond .ne 8, 3) := by decide +kernel
theorem d_Ho_dropSharer_29 : decode prog_6_method_8_code 29 = .ok (.aload_n 0, 1) := by decide +kernel
theorem d_Ho_dropSharer_30 : decode prog_6_method_8_code 30 = .ok (.iconst 0, 1) := by decide +kernel
theorem d_Ho_dropSharer_31 : decode prog_6_method_8_code 31 = .ok (.putfield 11, 3) := by decide +kernel
theorem d_Ho_dropSharer_34 : decode prog_6_method_8_code 34 = .ok (.return_, 1) := by decide +kernel
theorem d_Ho_takePuts_0 : decode prog_6_method_6_code 0 = .ok (.aload_n 0, 1) := by decide +kernel
theorem d_Ho_takePuts_1 : decode prog_6_method_6_code 1 = .ok (.iload_n 1, 1) := by decide +kernel
theorem d_Ho_takePuts_2 : decode prog_6_method_6_code 2 = .ok (.invokevirtual 72, 3) := by decide +kernel
theorem d_Ho_takePuts_5 : decode prog_6_method_6_code 5 = .ok (.aload_n 0, 1) := by decide +kernel
theorem d_Ho_takePuts_6 : decode prog_6_method_6_code 6 = .ok (.getfield 28, 3) := by decide +kernel
theorem d_Ho_takePuts_9 : decode prog_6_method_6_code 9 = .ok (.aload_n 0, 1) := by decide +kernel
theorem d_Ho_takePuts_10 : decode prog_6_method_6_code 10 = .ok (.getfield 25, 3) := by decide +kernel
theorem d_Ho_takePuts_13 : decode prog_6_method_6_code 13 = .ok (.bipush 7, 2) := by decide +kernel
theorem d_Ho_takePuts_15 : decode prog_6_method_6_code 15 = .ok (.aload_n 0, 1) := by decide +kernel
theorem d_Ho_takePuts_16 : decode prog_6_method_6_code 16 = .ok (.getfield 18, 3) := by decide +kernel
theorem d_Ho_takePuts_19 : decode prog_6_method_6_code 19 = .ok (.iload_n 1, 1) := by decide +kernel
theorem d_Ho_takePuts_20 : decode prog_6_method_6_code 20 = .ok (.iload_n 1, 1) := by decide +kernel
theorem d_Ho_takePuts_21 : decode prog_6_method_6_code 21 = .ok (.iconst 0, 1) := by decide +kernel
theorem d_Ho_takePuts_22 : decode prog_6_method_6_code 22 = .ok (.iconst 0, 1) := by decide +kernel
theorem d_Ho_takePuts_23 : decode prog_6_method_6_code 23 = .ok (.invokevirtual 58, 3) := by decide +kernel
theorem d_Ho_takePuts_26 : decode prog_6_method_6_code 26 = .ok (.return_, 1) := by decide +kernel
theorem d_Ho_takePutm_0 : decode prog_6_method_7_code 0 = .ok (.aload_n 0, 1) := by decide +kernel
theorem d_Ho_takePutm_1 : decode prog_6_method_7_code 1 = .ok (.getfield 11, 3) := by decide +kernel
theorem d_Ho_takePutm_4 : decode prog_6_method_7_code 4 = .ok (.iconst 2, 1) := by decide +kernel
theorem d_Ho_takePutm_5 : decode prog_6_method_7_code 5 = .ok (.if_icmp .ne 29, 3) := by decide +kernel
theorem d_Ho_takePutm_8 : decode prog_6_method_7_code 8 = .ok (.aload_n 0, 1) := by decide +kernel
theorem d_Ho_takePutm_9 : decode prog_6_method_7_code 9 = .ok (.getfield 15, 3) := by decide +kernel
theorem d_Ho_takePutm_12 : decode prog_6_method_7_code 12 = .ok (.iload_n 1, 1) := by decide +kernel
theorem d_Ho_takePutm_13 : decode prog_6_method_7_code 13 = .ok (.if_icmp .ne 21, 3) := by decide +kernel
theorem d_Ho_takePutm_16 : decode prog_6_method_7_code 16 = .ok (.aload_n 0, 1) := by decide +kernel
theorem d_Ho_takePutm_17 : decode prog_6_method_7_code 17 = .ok (.iload_n 2, 1) := by decide +kernel
theorem d_Ho_takePutm_18 : decode prog_6_method_7_code 18 = .ok (.putfield 57, 3) := by decide +kernel
theorem d_Ho_takePutm_21 : decode prog_6_method_7_code 21 = .ok (.aload_n 0, 1) := by decide +kernel
theorem d_Ho_takePutm_22 : decode prog_6_method_7_code 22 = .ok (.iconst (-1), 1) := by decide +kernel
theorem d_Ho_takePutm_23 : decode prog_6_method_7_code 23 = .ok (.putfield 15, 3) := by decide +kernel
theorem d_Ho_takePutm_26 : decode prog_6_method_7_code 26 = .ok (.aload_n 0, 1) := by decide +kernel
theorem d_Ho_takePutm_27 : decode prog_6_method_7_code 27 = .ok (.iconst 0, 1) := by decide +kernel
theorem d_Ho_takePutm_28 : decode prog_6_method_7_code 28 = .ok (.putfield 11, 3) := by decide +kernel
theorem d_Ho_takePutm_31 : decode prog_6_method_7_code 31 = .ok (.goto 8, 3) := by decide +kernel
theorem d_Ho_takePutm_34 : decode prog_6_method_7_code 34 = .ok (.aload_n 0, 1) := by decide +kernel
theorem d_Ho_takePutm_35 : decode prog_6_method_7_code 35 = .ok (.iload_n 1, 1) := by decide +kernel
theorem d_Ho_takePutm_36 : decode prog_6_method_7_code 36 = .ok (.invokevirtual 72, 3) := by decide +kernel
theorem d_Ho_takePutm_39 : decode prog_6_method_7_code 39 = .ok (.aload_n 0, 1) := by decide +kernel
theorem d_Ho_takePutm_40 : decode prog_6_method_7_code 40 = .ok (.getfield 28, 3) := by decide +kernel
theorem d_Ho_takePutm_43 : decode prog_6_method_7_code 43 = .ok (.aload_n 0, 1) := by decide +kernel
theorem d_Ho_takePutm_44 : decode prog_6_method_7_code 44 = .ok (.getfield 25, 3) := by decide +kernel
theorem d_Ho_takePutm_47 : decode prog_6_method_7_code 47 = .ok (.bipush 7, 2) := by decide +kernel
theorem d_Ho_takePutm_49 : decode prog_6_method_7_code 49 = .ok (.aload_n 0, 1) := by decide +kernel
theorem d_Ho_takePutm_50 : decode prog_6_method_7_code 50 = .ok (.getfield 18, 3) := by decide +kernel
theorem d_Ho_takePutm_53 : decode prog_6_method_7_code 53 = .ok (.iload_n 1, 1) := by decide +kernel
theorem d_Ho_takePutm_54 : decode prog_6_method_7_code 54 = .ok (.iload_n 1, 1) := by decide +kernel
theorem d_Ho_takePutm_55 : decode prog_6_method_7_code 55 = .ok (.iconst 0, 1) := by decide +kernel
theorem d_Ho_takePutm_56 : decode prog_6_method_7_code 56 = .ok (.iconst 0, 1) := by decide +kernel
theorem d_Ho_takePutm_57 : decode prog_6_method_7_code 57 = .ok (.invokevirtual 58, 3) := by decide +kernel
theorem d_Ho_takePutm_60 : decode prog_6_method_7_code 60 = .ok (.return_, 1) := by decide +kernel
theorem d_Ho_take_0 : decode prog_6_method_3_code 0 = .ok (.aload_n 1, 1) := by decide +kernel
theorem d_Ho_take_1 : decode prog_6_method_3_code 1 = .ok (.getfield 32, 3) := by decide +kernel
theorem d_Ho_take_4 : decode prog_6_method_3_code 4 = .ok (.tableswitch 139 0 10 #[60, 71, 82, 93, 139, 139, 139, 139, 139, 139, 108], 60) := by decide +kernel
theorem d_Ho_take_64 : decode prog_6_method_3_code 64 = .ok (.aload_n 0, 1) := by decide +kernel
theorem d_Ho_take_65 : decode prog_6_method_3_code 65 = .ok (.aload_n 1, 1) := by decide +kernel
theorem d_Ho_take_66 : decode prog_6_method_3_code 66 = .ok (.getfield 37, 3) := by decide +kernel
theorem d_Ho_take_69 : decode prog_6_method_3_code 69 = .ok (.invokevirtual 40, 3) := by decide +kernel
theorem d_Ho_take_72 : decode prog_6_method_3_code 72 = .ok (.goto 71, 3) := by decide +kernel
theorem d_Ho_take_75 : decode prog_6_method_3_code 75 = .ok (.aload_n 0, 1) := by decide +kernel
theorem d_Ho_take_76 : decode prog_6_method_3_code 76 = .ok (.aload_n 1, 1) := by decide +kernel
theorem d_Ho_take_77 : decode prog_6_method_3_code 77 = .ok (.getfield 37, 3) := by decide +kernel
theorem d_Ho_take_80 : decode prog_6_method_3_code 80 = .ok (.invokevirtual 44, 3) := by decide +kernel
theorem d_Ho_take_83 : decode prog_6_method_3_code 83 = .ok (.goto 60, 3) := by decide +kernel
theorem d_Ho_take_86 : decode prog_6_method_3_code 86 = .ok (.aload_n 0, 1) := by decide +kernel
theorem d_Ho_take_87 : decode prog_6_method_3_code 87 = .ok (.aload_n 1, 1) := by decide +kernel
theorem d_Ho_take_88 : decode prog_6_method_3_code 88 = .ok (.getfield 37, 3) := by decide +kernel
theorem d_Ho_take_91 : decode prog_6_method_3_code 91 = .ok (.invokevirtual 47, 3) := by decide +kernel
theorem d_Ho_take_94 : decode prog_6_method_3_code 94 = .ok (.goto 49, 3) := by decide +kernel
theorem d_Ho_take_97 : decode prog_6_method_3_code 97 = .ok (.aload_n 0, 1) := by decide +kernel
theorem d_Ho_take_98 : decode prog_6_method_3_code 98 = .ok (.aload_n 1, 1) := by decide +kernel
theorem d_Ho_take_99 : decode prog_6_method_3_code 99 = .ok (.getfield 37, 3) := by decide +kernel
theorem d_Ho_take_102 : decode prog_6_method_3_code 102 = .ok (.aload_n 1, 1) := by decide +kernel
theorem d_Ho_take_103 : decode prog_6_method_3_code 103 = .ok (.getfield 50, 3) := by decide +kernel
theorem d_Ho_take_106 : decode prog_6_method_3_code 106 = .ok (.invokevirtual 53, 3) := by decide +kernel
theorem d_Ho_take_109 : decode prog_6_method_3_code 109 = .ok (.goto 34, 3) := by decide +kernel
theorem d_Ho_take_112 : decode prog_6_method_3_code 112 = .ok (.aload_n 0, 1) := by decide +kernel
theorem d_Ho_take_113 : decode prog_6_method_3_code 113 = .ok (.aload_n 1, 1) := by decide +kernel
theorem d_Ho_take_114 : decode prog_6_method_3_code 114 = .ok (.getfield 50, 3) := by decide +kernel
theorem d_Ho_take_117 : decode prog_6_method_3_code 117 = .ok (.putfield 57, 3) := by decide +kernel
theorem d_Ho_take_120 : decode prog_6_method_3_code 120 = .ok (.aload_n 0, 1) := by decide +kernel
theorem d_Ho_take_121 : decode prog_6_method_3_code 121 = .ok (.aload_n 0, 1) := by decide +kernel
theorem d_Ho_take_122 : decode prog_6_method_3_code 122 = .ok (.getfield 11, 3) := by decide +kernel
theorem d_Ho_take_125 : decode prog_6_method_3_code 125 = .ok (.iconst 3, 1) := by decide +kernel
theorem d_Ho_take_126 : decode prog_6_method_3_code 126 = .ok (.if_icmp .ne 7, 3) := by decide +kernel
theorem d_Ho_take_129 : decode prog_6_method_3_code 129 = .ok (.iconst 1, 1) := by decide +kernel
theorem d_Ho_take_130 : decode prog_6_method_3_code 130 = .ok (.goto 7, 3) := by decide +kernel
theorem d_Ho_take_133 : decode prog_6_method_3_code 133 = .ok (.aload_n 0, 1) := by decide +kernel
theorem d_Ho_take_134 : decode prog_6_method_3_code 134 = .ok (.getfield 11, 3) := by decide +kernel
theorem d_Ho_take_137 : decode prog_6_method_3_code 137 = .ok (.putfield 11, 3) := by decide +kernel
theorem d_Ho_take_140 : decode prog_6_method_3_code 140 = .ok (.goto 3, 3) := by decide +kernel
theorem d_Ho_take_143 : decode prog_6_method_3_code 143 = .ok (.return_, 1) := by decide +kernel
theorem d_Ca_takeData_0 : decode prog_2_method_4_code 0 = .ok (.aload_n 1, 1) := by decide +kernel
theorem d_Ca_takeData_1 : decode prog_2_method_4_code 1 = .ok (.getfield 32, 3) := by decide +kernel
theorem d_Ca_takeData_4 : decode prog_2_method_4_code 4 = .ok (.istore_n 2, 1) := by decide +kernel
theorem d_Ca_takeData_5 : decode prog_2_method_4_code 5 = .ok (.aload_n 0, 1) := by decide +kernel
theorem d_Ca_takeData_6 : decode prog_2_method_4_code 6 = .ok (.getfield 18, 3) := by decide +kernel
theorem d_Ca_takeData_9 : decode prog_2_method_4_code 9 = .ok (.iload_n 2, 1) := by decide +kernel
theorem d_Ca_takeData_10 : decode prog_2_method_4_code 10 = .ok (.dup2, 1) := by decide +kernel
theorem d_Ca_takeData_11 : decode prog_2_method_4_code 11 = .ok (.iaload, 1) := by decide +kernel
theorem d_Ca_takeData_12 : decode prog_2_method_4_code 12 = .ok (.aload_n 1, 1) := by decide +kernel
theorem d_Ca_takeData_13 : decode prog_2_method_4_code 13 = .ok (.getfield 67, 3) := by decide +kernel
theorem d_Ca_takeData_16 : decode prog_2_method_4_code 16 = .ok (.iadd, 1) := by decide +kernel
theorem d_Ca_takeData_17 : decode prog_2_method_4_code 17 = .ok (.iastore, 1) := by decide +kernel
theorem d_Ca_takeData_18 : decode prog_2_method_4_code 18 = .ok (.aload_n 0, 1) := by decide +kernel
theorem d_Ca_takeData_19 : decode prog_2_method_4_code 19 = .ok (.getfield 15, 3) := by decide +kernel
theorem d_Ca_takeData_22 : decode prog_2_method_4_code 22 = .ok (.iload_n 2, 1) := by decide +kernel
theorem d_Ca_takeData_23 : decode prog_2_method_4_code 23 = .ok (.aload_n 1, 1) := by decide +kernel
theorem d_Ca_takeData_24 : decode prog_2_method_4_code 24 = .ok (.getfield 70, 3) := by decide +kernel
theorem d_Ca_takeData_27 : decode prog_2_method_4_code 27 = .ok (.iastore, 1) := by decide +kernel
theorem d_Ca_takeData_28 : decode prog_2_method_4_code 28 = .ok (.aload_n 0, 1) := by decide +kernel
theorem d_Ca_takeData_29 : decode prog_2_method_4_code 29 = .ok (.getfield 18, 3) := by decide +kernel
theorem d_Ca_takeData_32 : decode prog_2_method_4_code 32 = .ok (.iload_n 2, 1) := by decide +kernel
theorem d_Ca_takeData_33 : decode prog_2_method_4_code 33 = .ok (.iaload, 1) := by decide +kernel
theorem d_Ca_takeData_34 : decode prog_2_method_4_code 34 = .ok (.ifCond .ne 7, 3) := by decide +kernel
theorem d_Ca_takeData_37 : decode prog_2_method_4_code 37 = .ok (.iconst 1, 1) := by decide +kernel
theorem d_Ca_takeData_38 : decode prog_2_method_4_code 38 = .ok (.goto 4, 3) := by decide +kernel
theorem d_Ca_takeData_41 : decode prog_2_method_4_code 41 = .ok (.iconst 0, 1) := by decide +kernel
theorem d_Ca_takeData_42 : decode prog_2_method_4_code 42 = .ok (.istore_n 3, 1) := by decide +kernel
theorem d_Ca_takeData_43 : decode prog_2_method_4_code 43 = .ok (.aload_n 0, 1) := by decide +kernel
theorem d_Ca_takeData_44 : decode prog_2_method_4_code 44 = .ok (.getfield 9, 3) := by decide +kernel
theorem d_Ca_takeData_47 : decode prog_2_method_4_code 47 = .ok (.iload_n 2, 1) := by decide +kernel
theorem d_Ca_takeData_48 : decode prog_2_method_4_code 48 = .ok (.iaload, 1) := by decide +kernel
theorem d_Ca_takeData_49 : decode prog_2_method_4_code 49 = .ok (.tableswitch 81 1 5 #[35, 44, 81, 81, 62], 35) := by decide +kernel
theorem d_Ca_takeData_84 : decode prog_2_method_4_code 84 = .ok (.aload_n 0, 1) := by decide +kernel
theorem d_Ca_takeData_85 : decode prog_2_method_4_code 85 = .ok (.getfield 9, 3) := by decide +kernel
theorem d_Ca_takeData_88 : decode prog_2_method_4_code 88 = .ok (.iload_n 2, 1) := by decide +kernel
theorem d_Ca_takeData_89 : decode prog_2_method_4_code 89 = .ok (.iconst 4, 1) := by decide +kernel
theorem d_Ca_takeData_90 : decode prog_2_method_4_code 90 = .ok (.iastore, 1) := by decide +kernel
theorem d_Ca_takeData_91 : decode prog_2_method_4_code 91 = .ok (.iconst 1, 1) := by decide +kernel
theorem d_Ca_takeData_92 : decode prog_2_method_4_code 92 = .ok (.ireturn, 1) := by decide +kernel
theorem d_Ca_takeData_93 : decode prog_2_method_4_code 93 = .ok (.aload_n 0, 1) := by decide +kernel
theorem d_Ca_takeData_94 : decode prog_2_method_4_code 94 = .ok (.getfield 9, 3) := by decide +kernel
theorem d_Ca_takeData_97 : decode prog_2_method_4_code 97 = .ok (.iload_n 2, 1) := by decide +kernel
theorem d_Ca_takeData_98 : decode prog_2_method_4_code 98 = .ok (.iload_n 3, 1) := by decide +kernel
theorem d_Ca_takeData_99 : decode prog_2_method_4_code 99 = .ok (.ifCond .eq 8, 3) := by decide +kernel
theorem d_Ca_takeData_102 : decode prog_2_method_4_code 102 = .ok (.bipush 7, 2) := by decide +kernel
theorem d_Ca_takeData_104 : decode prog_2_method_4_code 104 = .ok (.goto 4, 3) := by decide +kernel
theorem d_Ca_takeData_107 : decode prog_2_method_4_code 107 = .ok (.iconst 3, 1) := by decide +kernel
theorem d_Ca_takeData_108 : decode prog_2_method_4_code 108 = .ok (.iastore, 1) := by decide +kernel
theorem d_Ca_takeData_109 : decode prog_2_method_4_code 109 = .ok (.iload_n 3, 1) := by decide +kernel
theorem d_Ca_takeData_110 : decode prog_2_method_4_code 110 = .ok (.ireturn, 1) := by decide +kernel
theorem d_Ca_takeData_111 : decode prog_2_method_4_code 111 = .ok (.aload_n 0, 1) := by decide +kernel
theorem d_Ca_takeData_112 : decode prog_2_method_4_code 112 = .ok (.getfield 9, 3) := by decide +kernel
theorem d_Ca_takeData_115 : decode prog_2_method_4_code 115 = .ok (.iload_n 2, 1) := by decide +kernel
theorem d_Ca_takeData_116 : decode prog_2_method_4_code 116 = .ok (.iload_n 3, 1) := by decide +kernel
theorem d_Ca_takeData_117 : decode prog_2_method_4_code 117 = .ok (.ifCond .eq 8, 3) := by decide +kernel
theorem d_Ca_takeData_120 : decode prog_2_method_4_code 120 = .ok (.bipush 7, 2) := by decide +kernel
theorem d_Ca_takeData_122 : decode prog_2_method_4_code 122 = .ok (.goto 5, 3) := by decide +kernel
theorem d_Ca_takeData_125 : decode prog_2_method_4_code 125 = .ok (.bipush 6, 2) := by decide +kernel
theorem d_Ca_takeData_127 : decode prog_2_method_4_code 127 = .ok (.iastore, 1) := by decide +kernel
theorem d_Ca_takeData_128 : decode prog_2_method_4_code 128 = .ok (.iload_n 3, 1) := by decide +kernel
theorem d_Ca_takeData_129 : decode prog_2_method_4_code 129 = .ok (.ireturn, 1) := by decide +kernel
theorem d_Ca_takeData_130 : decode prog_2_method_4_code 130 = .ok (.iconst 0, 1) := by decide +kernel
theorem d_Ca_takeData_131 : decode prog_2_method_4_code 131 = .ok (.ireturn, 1) := by decide +kernel
theorem d_Ca_takeAck_0 : decode prog_2_method_5_code 0 = .ok (.aload_n 0, 1) := by decide +kernel
theorem d_Ca_takeAck_1 : decode prog_2_method_5_code 1 = .ok (.getfield 18, 3) := by decide +kernel
theorem d_Ca_takeAck_4 : decode prog_2_method_5_code 4 = .ok (.iload_n 1, 1) := by decide +kernel
theorem d_Ca_takeAck_5 : decode prog_2_method_5_code 5 = .ok (.dup2, 1) := by decide +kernel
theorem d_Ca_takeAck_6 : decode prog_2_method_5_code 6 = .ok (.iaload, 1) := by decide +kernel
theorem d_Ca_takeAck_7 : decode prog_2_method_5_code 7 = .ok (.iconst 1, 1) := by decide +kernel
theorem d_Ca_takeAck_8 : decode prog_2_method_5_code 8 = .ok (.isub, 1) := by decide +kernel
theorem d_Ca_takeAck_9 : decode prog_2_method_5_code 9 = .ok (.iastore, 1) := by decide +kernel
theorem d_Ca_takeAck_10 : decode prog_2_method_5_code 10 = .ok (.aload_n 0, 1) := by decide +kernel
theorem d_Ca_takeAck_11 : decode prog_2_method_5_code 11 = .ok (.getfield 9, 3) := by decide +kernel
theorem d_Ca_takeAck_14 : decode prog_2_method_5_code 14 = .ok (.iload_n 1, 1) := by decide +kernel
theorem d_Ca_takeAck_15 : decode prog_2_method_5_code 15 = .ok (.iaload, 1) := by decide +kernel
theorem d_Ca_takeAck_16 : decode prog_2_method_5_code 16 = .ok (.iconst 3, 1) := by decide +kernel
theorem d_Ca_takeAck_17 : decode prog_2_method_5_code 17 = .ok (.if_icmp .eq 14, 3) := by decide +kernel
theorem d_Ca_takeAck_20 : decode prog_2_method_5_code 20 = .ok (.aload_n 0, 1) := by decide +kernel
theorem d_Ca_takeAck_21 : decode prog_2_method_5_code 21 = .ok (.getfield 9, 3) := by decide +kernel
theorem d_Ca_takeAck_24 : decode prog_2_method_5_code 24 = .ok (.iload_n 1, 1) := by decide +kernel
theorem d_Ca_takeAck_25 : decode prog_2_method_5_code 25 = .ok (.iaload, 1) := by decide +kernel
theorem d_Ca_takeAck_26 : decode prog_2_method_5_code 26 = .ok (.bipush 6, 2) := by decide +kernel
theorem d_Ca_takeAck_28 : decode prog_2_method_5_code 28 = .ok (.if_icmp .ne 7, 3) := by decide +kernel
theorem d_Ca_takeAck_31 : decode prog_2_method_5_code 31 = .ok (.iconst 1, 1) := by decide +kernel
theorem d_Ca_takeAck_32 : decode prog_2_method_5_code 32 = .ok (.goto 4, 3) := by decide +kernel
theorem d_Ca_takeAck_35 : decode prog_2_method_5_code 35 = .ok (.iconst 0, 1) := by decide +kernel
theorem d_Ca_takeAck_36 : decode prog_2_method_5_code 36 = .ok (.istore_n 2, 1) := by decide +kernel
theorem d_Ca_takeAck_37 : decode prog_2_method_5_code 37 = .ok (.iload_n 2, 1) := by decide +kernel
theorem d_Ca_takeAck_38 : decode prog_2_method_5_code 38 = .ok (.ifCond .eq 12, 3) := by decide +kernel
theorem d_Ca_takeAck_41 : decode prog_2_method_5_code 41 = .ok (.aload_n 0, 1) := by decide +kernel
theorem d_Ca_takeAck_42 : decode prog_2_method_5_code 42 = .ok (.getfield 18, 3) := by decide +kernel
theorem d_Ca_takeAck_45 : decode prog_2_method_5_code 45 = .ok (.iload_n 1, 1) := by decide +kernel
theorem d_Ca_takeAck_46 : decode prog_2_method_5_code 46 = .ok (.iaload, 1) := by decide +kernel
theorem d_Ca_takeAck_47 : decode prog_2_method_5_code 47 = .ok (.ifCond .eq 5, 3) := by decide +kernel
theorem d_Ca_takeAck_50 : decode prog_2_method_5_code 50 = .ok (.iconst 0, 1) := by decide +kernel
theorem d_Ca_takeAck_51 : decode prog_2_method_5_code 51 = .ok (.ireturn, 1) := by decide +kernel
theorem d_Ca_takeAck_52 : decode prog_2_method_5_code 52 = .ok (.aload_n 0, 1) := by decide +kernel
theorem d_Ca_takeAck_53 : decode prog_2_method_5_code 53 = .ok (.getfield 9, 3) := by decide +kernel
theorem d_Ca_takeAck_56 : decode prog_2_method_5_code 56 = .ok (.iload_n 1, 1) := by decide +kernel
theorem d_Ca_takeAck_57 : decode prog_2_method_5_code 57 = .ok (.bipush 7, 2) := by decide +kernel
theorem d_Ca_takeAck_59 : decode prog_2_method_5_code 59 = .ok (.iastore, 1) := by decide +kernel
theorem d_Ca_takeAck_60 : decode prog_2_method_5_code 60 = .ok (.iconst 1, 1) := by decide +kernel
theorem d_Ca_takeAck_61 : decode prog_2_method_5_code 61 = .ok (.ireturn, 1) := by decide +kernel
theorem d_Ca_become_0 : decode prog_2_method_7_code 0 = .ok (.aload_n 0, 1) := by decide +kernel
theorem d_Ca_become_1 : decode prog_2_method_7_code 1 = .ok (.getfield 9, 3) := by decide +kernel
theorem d_Ca_become_4 : decode prog_2_method_7_code 4 = .ok (.iload_n 1, 1) := by decide +kernel
theorem d_Ca_become_5 : decode prog_2_method_7_code 5 = .ok (.iload_n 2, 1) := by decide +kernel
theorem d_Ca_become_6 : decode prog_2_method_7_code 6 = .ok (.iastore, 1) := by decide +kernel
theorem d_Ca_become_7 : decode prog_2_method_7_code 7 = .ok (.iload_n 2, 1) := by decide +kernel
theorem d_Ca_become_8 : decode prog_2_method_7_code 8 = .ok (.ifCond .ne 10, 3) := by decide +kernel
theorem d_Ca_become_11 : decode prog_2_method_7_code 11 = .ok (.aload_n 0, 1) := by decide +kernel
theorem d_Ca_become_12 : decode prog_2_method_7_code 12 = .ok (.getfield 15, 3) := by decide +kernel
theorem d_Ca_become_15 : decode prog_2_method_7_code 15 = .ok (.iload_n 1, 1) := by decide +kernel
theorem d_Ca_become_16 : decode prog_2_method_7_code 16 = .ok (.iconst 0, 1) := by decide +kernel
theorem d_Ca_become_17 : decode prog_2_method_7_code 17 = .ok (.iastore, 1) := by decide +kernel
theorem d_Ca_become_18 : decode prog_2_method_7_code 18 = .ok (.return_, 1) := by decide +kernel
theorem d_Ca_takeInv_0 : decode prog_2_method_6_code 0 = .ok (.aload_n 1, 1) := by decide +kernel
theorem d_Ca_takeInv_1 : decode prog_2_method_6_code 1 = .ok (.getfield 32, 3) := by decide +kernel
theorem d_Ca_takeInv_4 : decode prog_2_method_6_code 4 = .ok (.istore_n 2, 1) := by decide +kernel
theorem d_Ca_takeInv_5 : decode prog_2_method_6_code 5 = .ok (.aload_n 0, 1) := by decide +kernel
theorem d_Ca_takeInv_6 : decode prog_2_method_6_code 6 = .ok (.getfield 9, 3) := by decide +kernel
theorem d_Ca_takeInv_9 : decode prog_2_method_6_code 9 = .ok (.iload_n 2, 1) := by decide +kernel
theorem d_Ca_takeInv_10 : decode prog_2_method_6_code 10 = .ok (.iaload, 1) := by decide +kernel
theorem d_Ca_takeInv_11 : decode prog_2_method_6_code 11 = .ok (.iconst 4, 1) := by decide +kernel
theorem d_Ca_takeInv_12 : decode prog_2_method_6_code 12 = .ok (.if_icmp .ne 12, 3) := by decide +kernel
theorem d_Ca_takeInv_15 : decode prog_2_method_6_code 15 = .ok (.aload_n 0, 1) := by decide +kernel
theorem d_Ca_takeInv_16 : decode prog_2_method_6_code 16 = .ok (.iload_n 2, 1) := by decide +kernel
theorem d_Ca_takeInv_17 : decode prog_2_method_6_code 17 = .ok (.iconst 0, 1) := by decide +kernel
theorem d_Ca_takeInv_18 : decode prog_2_method_6_code 18 = .ok (.invokevirtual 52, 3) := by decide +kernel
theorem d_Ca_takeInv_21 : decode prog_2_method_6_code 21 = .ok (.goto 24, 3) := by decide +kernel
theorem d_Ca_takeInv_24 : decode prog_2_method_6_code 24 = .ok (.aload_n 0, 1) := by decide +kernel
theorem d_Ca_takeInv_25 : decode prog_2_method_6_code 25 = .ok (.iload_n 2, 1) := by decide +kernel
theorem d_Ca_takeInv_26 : decode prog_2_method_6_code 26 = .ok (.aload_n 0, 1) := by decide +kernel
theorem d_Ca_takeInv_27 : decode prog_2_method_6_code 27 = .ok (.getfield 9, 3) := by decide +kernel
theorem d_Ca_takeInv_30 : decode prog_2_method_6_code 30 = .ok (.iload_n 2, 1) := by decide +kernel
theorem d_Ca_takeInv_31 : decode prog_2_method_6_code 31 = .ok (.iaload, 1) := by decide +kernel
theorem d_Ca_takeInv_32 : decode prog_2_method_6_code 32 = .ok (.iconst 5, 1) := by decide +kernel
theorem d_Ca_takeInv_33 : decode prog_2_method_6_code 33 = .ok (.if_icmp .ne 7, 3) := by decide +kernel
theorem d_Ca_takeInv_36 : decode prog_2_method_6_code 36 = .ok (.iconst 2, 1) := by decide +kernel
theorem d_Ca_takeInv_37 : decode prog_2_method_6_code 37 = .ok (.goto 5, 3) := by decide +kernel
theorem d_Ca_takeInv_40 : decode prog_2_method_6_code 40 = .ok (.bipush 10, 2) := by decide +kernel
theorem d_Ca_takeInv_42 : decode prog_2_method_6_code 42 = .ok (.invokevirtual 52, 3) := by decide +kernel
theorem d_Ca_takeInv_45 : decode prog_2_method_6_code 45 = .ok (.aload_n 0, 1) := by decide +kernel
theorem d_Ca_takeInv_46 : decode prog_2_method_6_code 46 = .ok (.getfield 28, 3) := by decide +kernel
theorem d_Ca_takeInv_49 : decode prog_2_method_6_code 49 = .ok (.aload_n 0, 1) := by decide +kernel
theorem d_Ca_takeInv_50 : decode prog_2_method_6_code 50 = .ok (.getfield 24, 3) := by decide +kernel
theorem d_Ca_takeInv_53 : decode prog_2_method_6_code 53 = .ok (.bipush 9, 2) := by decide +kernel
theorem d_Ca_takeInv_55 : decode prog_2_method_6_code 55 = .ok (.iload_n 2, 1) := by decide +kernel
theorem d_Ca_takeInv_56 : decode prog_2_method_6_code 56 = .ok (.aload_n 1, 1) := by decide +kernel
theorem d_Ca_takeInv_57 : decode prog_2_method_6_code 57 = .ok (.getfield 56, 3) := by decide +kernel
theorem d_Ca_takeInv_60 : decode prog_2_method_6_code 60 = .ok (.aload_n 1, 1) := by decide +kernel
theorem d_Ca_takeInv_61 : decode prog_2_method_6_code 61 = .ok (.getfield 56, 3) := by decide +kernel
theorem d_Ca_takeInv_64 : decode prog_2_method_6_code 64 = .ok (.iconst 0, 1) := by decide +kernel
theorem d_Ca_takeInv_65 : decode prog_2_method_6_code 65 = .ok (.iconst 0, 1) := by decide +kernel
theorem d_Ca_takeInv_66 : decode prog_2_method_6_code 66 = .ok (.invokevirtual 73, 3) := by decide +kernel
theorem d_Ca_takeInv_69 : decode prog_2_method_6_code 69 = .ok (.return_, 1) := by decide +kernel
theorem d_Ca_giveData_0 : decode prog_2_method_8_code 0 = .ok (.aload_n 0, 1) := by decide +kernel
theorem d_Ca_giveData_1 : decode prog_2_method_8_code 1 = .ok (.getfield 28, 3) := by decide +kernel
theorem d_Ca_giveData_4 : decode prog_2_method_8_code 4 = .ok (.aload_n 0, 1) := by decide +kernel
theorem d_Ca_giveData_5 : decode prog_2_method_8_code 5 = .ok (.getfield 24, 3) := by decide +kernel
theorem d_Ca_giveData_8 : decode prog_2_method_8_code 8 = .ok (.iload_n 1, 1) := by decide +kernel
theorem d_Ca_giveData_9 : decode prog_2_method_8_code 9 = .ok (.iload_n 2, 1) := by decide +kernel
theorem d_Ca_giveData_10 : decode prog_2_method_8_code 10 = .ok (.iload_n 3, 1) := by decide +kernel
theorem d_Ca_giveData_11 : decode prog_2_method_8_code 11 = .ok (.iload_n 3, 1) := by decide +kernel
theorem d_Ca_giveData_12 : decode prog_2_method_8_code 12 = .ok (.aload_n 0, 1) := by decide +kernel
theorem d_Ca_giveData_13 : decode prog_2_method_8_code 13 = .ok (.getfield 15, 3) := by decide +kernel
theorem d_Ca_giveData_16 : decode prog_2_method_8_code 16 = .ok (.iload_n 2, 1) := by decide +kernel
theorem d_Ca_giveData_17 : decode prog_2_method_8_code 17 = .ok (.iaload, 1) := by decide +kernel
theorem d_Ca_giveData_18 : decode prog_2_method_8_code 18 = .ok (.iconst 0, 1) := by decide +kernel
theorem d_Ca_giveData_19 : decode prog_2_method_8_code 19 = .ok (.invokevirtual 73, 3) := by decide +kernel
theorem d_Ca_giveData_22 : decode prog_2_method_8_code 22 = .ok (.return_, 1) := by decide +kernel
theorem d_Ca_take_0 : decode prog_2_method_3_code 0 = .ok (.aload_n 1, 1) := by decide +kernel
theorem d_Ca_take_1 : decode prog_2_method_3_code 1 = .ok (.getfield 32, 3) := by decide +kernel
theorem d_Ca_take_4 : decode prog_2_method_3_code 4 = .ok (.istore_n 2, 1) := by decide +kernel
theorem d_Ca_take_5 : decode prog_2_method_3_code 5 = .ok (.aload_n 1, 1) := by decide +kernel
theorem d_Ca_take_6 : decode prog_2_method_3_code 6 = .ok (.getfield 37, 3) := by decide +kernel
theorem d_Ca_take_9 : decode prog_2_method_3_code 9 = .ok (.tableswitch 147 4 9 #[58, 104, 51, 139, 39, 45], 39) := by decide +kernel
theorem d_Ca_take_48 : decode prog_2_method_3_code 48 = .ok (.aload_n 0, 1) := by decide +kernel
theorem d_Ca_take_49 : decode prog_2_method_3_code 49 = .ok (.aload_n 1, 1) := by decide +kernel
theorem d_Ca_take_50 : decode prog_2_method_3_code 50 = .ok (.invokevirtual 40, 3) := by decide +kernel
theorem d_Ca_take_53 : decode prog_2_method_3_code 53 = .ok (.ireturn, 1) := by decide +kernel
theorem d_Ca_take_54 : decode prog_2_method_3_code 54 = .ok (.aload_n 0, 1) := by decide +kernel
theorem d_Ca_take_55 : decode prog_2_method_3_code 55 = .ok (.iload_n 2, 1) := by decide +kernel
theorem d_Ca_take_56 : decode prog_2_method_3_code 56 = .ok (.invokevirtual 44, 3) := by decide +kernel
theorem d_Ca_take_59 : decode prog_2_method_3_code 59 = .ok (.ireturn, 1) := by decide +kernel
theorem d_Ca_take_60 : decode prog_2_method_3_code 60 = .ok (.aload_n 0, 1) := by decide +kernel
theorem d_Ca_take_61 : decode prog_2_method_3_code 61 = .ok (.aload_n 1, 1) := by decide +kernel
theorem d_Ca_take_62 : decode prog_2_method_3_code 62 = .ok (.invokevirtual 48, 3) := by decide +kernel
theorem d_Ca_take_65 : decode prog_2_method_3_code 65 = .ok (.iconst 0, 1) := by decide +kernel
theorem d_Ca_take_66 : decode prog_2_method_3_code 66 = .ok (.ireturn, 1) := by decide +kernel
theorem d_Ca_take_67 : decode prog_2_method_3_code 67 = .ok (.aload_n 0, 1) := by decide +kernel
theorem d_Ca_take_68 : decode prog_2_method_3_code 68 = .ok (.iload_n 2, 1) := by decide +kernel
theorem d_Ca_take_69 : decode prog_2_method_3_code 69 = .ok (.aload_n 0, 1) := by decide +kernel
theorem d_Ca_take_70 : decode prog_2_method_3_code 70 = .ok (.getfield 9, 3) := by decide +kernel
theorem d_Ca_take_73 : decode prog_2_method_3_code 73 = .ok (.iload_n 2, 1) := by decide +kernel
theorem d_Ca_take_74 : decode prog_2_method_3_code 74 = .ok (.iaload, 1) := by decide +kernel
theorem d_Ca_take_75 : decode prog_2_method_3_code 75 = .ok (.bipush 7, 2) := by decide +kernel
theorem d_Ca_take_77 : decode prog_2_method_3_code 77 = .ok (.if_icmp .ne 7, 3) := by decide +kernel
theorem d_Ca_take_80 : decode prog_2_method_3_code 80 = .ok (.iconst 4, 1) := by decide +kernel
theorem d_Ca_take_81 : decode prog_2_method_3_code 81 = .ok (.goto 5, 3) := by decide +kernel
theorem d_Ca_take_84 : decode prog_2_method_3_code 84 = .ok (.bipush 9, 2) := by decide +kernel
theorem d_Ca_take_86 : decode prog_2_method_3_code 86 = .ok (.invokevirtual 52, 3) := by decide +kernel
theorem d_Ca_take_89 : decode prog_2_method_3_code 89 = .ok (.aload_n 0, 1) := by decide +kernel
theorem d_Ca_take_90 : decode prog_2_method_3_code 90 = .ok (.bipush 8, 2) := by decide +kernel
theorem d_Ca_take_92 : decode prog_2_method_3_code 92 = .ok (.iload_n 2, 1) := by decide +kernel
theorem d_Ca_take_93 : decode prog_2_method_3_code 93 = .ok (.aload_n 1, 1) := by decide +kernel
theorem d_Ca_take_94 : decode prog_2_method_3_code 94 = .ok (.getfield 56, 3) := by decide +kernel
theorem d_Ca_take_97 : decode prog_2_method_3_code 97 = .ok (.invokevirtual 59, 3) := by decide +kernel
theorem d_Ca_take_100 : decode prog_2_method_3_code 100 = .ok (.aload_n 0, 1) := by decide +kernel
theorem d_Ca_take_101 : decode prog_2_method_3_code 101 = .ok (.bipush 10, 2) := by decide +kernel
theorem d_Ca_take_103 : decode prog_2_method_3_code 103 = .ok (.iload_n 2, 1) := by decide +kernel
theorem d_Ca_take_104 : decode prog_2_method_3_code 104 = .ok (.iload_n 2, 1) := by decide +kernel
theorem d_Ca_take_105 : decode prog_2_method_3_code 105 = .ok (.invokestatic 63, 3) := by decide +kernel
theorem d_Ca_take_108 : decode prog_2_method_3_code 108 = .ok (.invokevirtual 59, 3) := by decide +kernel
theorem d_Ca_take_111 : decode prog_2_method_3_code 111 = .ok (.iconst 0, 1) := by decide +kernel
theorem d_Ca_take_112 : decode prog_2_method_3_code 112 = .ok (.ireturn, 1) := by decide +kernel
theorem d_Ca_take_113 : decode prog_2_method_3_code 113 = .ok (.aload_n 0, 1) := by decide +kernel
theorem d_Ca_take_114 : decode prog_2_method_3_code 114 = .ok (.bipush 8, 2) := by decide +kernel
theorem d_Ca_take_116 : decode prog_2_method_3_code 116 = .ok (.iload_n 2, 1) := by decide +kernel
theorem d_Ca_take_117 : decode prog_2_method_3_code 117 = .ok (.aload_n 1, 1) := by decide +kernel
theorem d_Ca_take_118 : decode prog_2_method_3_code 118 = .ok (.getfield 56, 3) := by decide +kernel
theorem d_Ca_take_121 : decode prog_2_method_3_code 121 = .ok (.invokevirtual 59, 3) := by decide +kernel
theorem d_Ca_take_124 : decode prog_2_method_3_code 124 = .ok (.aload_n 0, 1) := by decide +kernel
theorem d_Ca_take_125 : decode prog_2_method_3_code 125 = .ok (.iload_n 2, 1) := by decide +kernel
theorem d_Ca_take_126 : decode prog_2_method_3_code 126 = .ok (.aload_n 0, 1) := by decide +kernel
theorem d_Ca_take_127 : decode prog_2_method_3_code 127 = .ok (.getfield 9, 3) := by decide +kernel
theorem d_Ca_take_130 : decode prog_2_method_3_code 130 = .ok (.iload_n 2, 1) := by decide +kernel
theorem d_Ca_take_131 : decode prog_2_method_3_code 131 = .ok (.iaload, 1) := by decide +kernel
theorem d_Ca_take_132 : decode prog_2_method_3_code 132 = .ok (.bipush 7, 2) := by decide +kernel
theorem d_Ca_take_134 : decode prog_2_method_3_code 134 = .ok (.if_icmp .ne 7, 3) := by decide +kernel
theorem d_Ca_take_137 : decode prog_2_method_3_code 137 = .ok (.iconst 0, 1) := by decide +kernel
theorem d_Ca_take_138 : decode prog_2_method_3_code 138 = .ok (.goto 5, 3) := by decide +kernel
theorem d_Ca_take_141 : decode prog_2_method_3_code 141 = .ok (.bipush 10, 2) := by decide +kernel
theorem d_Ca_take_143 : decode prog_2_method_3_code 143 = .ok (.invokevirtual 52, 3) := by decide +kernel
theorem d_Ca_take_146 : decode prog_2_method_3_code 146 = .ok (.iconst 0, 1) := by decide +kernel
theorem d_Ca_take_147 : decode prog_2_method_3_code 147 = .ok (.ireturn, 1) := by decide +kernel
theorem d_Ca_take_148 : decode prog_2_method_3_code 148 = .ok (.aload_n 0, 1) := by decide +kernel
theorem d_Ca_take_149 : decode prog_2_method_3_code 149 = .ok (.iload_n 2, 1) := by decide +kernel
theorem d_Ca_take_150 : decode prog_2_method_3_code 150 = .ok (.iconst 0, 1) := by decide +kernel
theorem d_Ca_take_151 : decode prog_2_method_3_code 151 = .ok (.invokevirtual 52, 3) := by decide +kernel
theorem d_Ca_take_154 : decode prog_2_method_3_code 154 = .ok (.iconst 0, 1) := by decide +kernel
theorem d_Ca_take_155 : decode prog_2_method_3_code 155 = .ok (.ireturn, 1) := by decide +kernel
theorem d_Ca_take_156 : decode prog_2_method_3_code 156 = .ok (.iconst 0, 1) := by decide +kernel
theorem d_Ca_take_157 : decode prog_2_method_3_code 157 = .ok (.ireturn, 1) := by decide +kernel
theorem d_Co_finishPresent_0 : decode prog_3_method_5_code 0 = .ok (.aload_n 0, 1) := by decide +kernel
theorem d_Co_finishPresent_1 : decode prog_3_method_5_code 1 = .ok (.getfield 35, 3) := by decide +kernel
theorem d_Co_finishPresent_4 : decode prog_3_method_5_code 4 = .ok (.aload_n 0, 1) := by decide +kernel
theorem d_Co_finishPresent_5 : decode prog_3_method_5_code 5 = .ok (.getfield 31, 3) := by decide +kernel
theorem d_Co_finishPresent_8 : decode prog_3_method_5_code 8 = .ok (.if_icmp .lt 4, 3) := by decide +kernel
theorem d_Co_finishPresent_11 : decode prog_3_method_5_code 11 = .ok (.return_, 1) := by decide +kernel
theorem d_Co_finishPresent_12 : decode prog_3_method_5_code 12 = .ok (.aload_n 0, 1) := by decide +kernel
theorem d_Co_finishPresent_13 : decode prog_3_method_5_code 13 = .ok (.getfield 15, 3) := by decide +kernel
theorem d_Co_finishPresent_16 : decode prog_3_method_5_code 16 = .ok (.aload_n 0, 1) := by decide +kernel
theorem d_Co_finishPresent_17 : decode prog_3_method_5_code 17 = .ok (.getfield 35, 3) := by decide +kernel
theorem d_Co_finishPresent_20 : decode prog_3_method_5_code 20 = .ok (.iaload, 1) := by decide +kernel
theorem d_Co_finishPresent_21 : decode prog_3_method_5_code 21 = .ok (.istore_n 2, 1) := by decide +kernel
theorem d_Co_finishPresent_22 : decode prog_3_method_5_code 22 = .ok (.aload_n 0, 1) := by decide +kernel
theorem d_Co_finishPresent_23 : decode prog_3_method_5_code 23 = .ok (.getfield 9, 3) := by decide +kernel
theorem d_Co_finishPresent_26 : decode prog_3_method_5_code 26 = .ok (.aload_n 0, 1) := by decide +kernel
theorem d_Co_finishPresent_27 : decode prog_3_method_5_code 27 = .ok (.getfield 35, 3) := by decide +kernel
theorem d_Co_finishPresent_30 : decode prog_3_method_5_code 30 = .ok (.iaload, 1) := by decide +kernel
theorem d_Co_finishPresent_31 : decode prog_3_method_5_code 31 = .ok (.istore_n 3, 1) := by decide +kernel
theorem d_Co_finishPresent_32 : decode prog_3_method_5_code 32 = .ok (.aload_n 0, 1) := by decide +kernel
theorem d_Co_finishPresent_33 : decode prog_3_method_5_code 33 = .ok (.getfield 24, 3) := by decide +kernel
theorem d_Co_finishPresent_36 : decode prog_3_method_5_code 36 = .ok (.aload_n 0, 1) := by decide +kernel
theorem d_Co_finishPresent_37 : decode prog_3_method_5_code 37 = .ok (.getfield 35, 3) := by decide +kernel
theorem d_Co_finishPresent_40 : decode prog_3_method_5_code 40 = .ok (.iload_n 3, 1) := by decide +kernel
theorem d_Co_finishPresent_41 : decode prog_3_method_5_code 41 = .ok (.iconst 1, 1) := by decide +kernel
theorem d_Co_finishPresent_42 : decode prog_3_method_5_code 42 = .ok (.if_icmp .ne 7, 3) := by decide +kernel
theorem d_Co_finishPresent_45 : decode prog_3_method_5_code 45 = .ok (.iconst 0, 1) := by decide +kernel
theorem d_Co_finishPresent_46 : decode prog_3_method_5_code 46 = .ok (.goto 12, 3) := by decide +kernel
theorem d_Co_finishPresent_49 : decode prog_3_method_5_code 49 = .ok (.aload_n 0, 1) := by decide +kernel
theorem d_Co_finishPresent_50 : decode prog_3_method_5_code 50 = .ok (.getfield 27, 3) := by decide +kernel
theorem d_Co_finishPresent_53 : decode prog_3_method_5_code 53 = .ok (.getfield 65, 3) := by decide +kernel
theorem d_Co_finishPresent_56 : decode prog_3_method_5_code 56 = .ok (.iload_n 2, 1) := by decide +kernel
theorem d_Co_finishPresent_57 : decode prog_3_method_5_code 57 = .ok (.iaload, 1) := by decide +kernel
theorem d_Co_finishPresent_58 : decode prog_3_method_5_code 58 = .ok (.iastore, 1) := by decide +kernel
theorem d_Co_finishPresent_59 : decode prog_3_method_5_code 59 = .ok (.iload_n 3, 1) := by decide +kernel
theorem d_Co_finishPresent_60 : decode prog_3_method_5_code 60 = .ok (.ifCond .eq 21, 3) := by decide +kernel
theorem d_Co_finishPresent_63 : decode prog_3_method_5_code 63 = .ok (.aload_n 0, 1) := by decide +kernel
theorem d_Co_finishPresent_64 : decode prog_3_method_5_code 64 = .ok (.getfield 27, 3) := by decide +kernel
theorem d_Co_finishPresent_67 : decode prog_3_method_5_code 67 = .ok (.getfield 65, 3) := by decide +kernel
theorem d_Co_finishPresent_70 : decode prog_3_method_5_code 70 = .ok (.iload_n 2, 1) := by decide +kernel
theorem d_Co_finishPresent_71 : decode prog_3_method_5_code 71 = .ok (.aload_n 0, 1) := by decide +kernel
theorem d_Co_finishPresent_72 : decode prog_3_method_5_code 72 = .ok (.getfield 18, 3) := by decide +kernel
theorem d_Co_finishPresent_75 : decode prog_3_method_5_code 75 = .ok (.aload_n 0, 1) := by decide +kernel
theorem d_Co_finishPresent_76 : decode prog_3_method_5_code 76 = .ok (.getfield 35, 3) := by decide +kernel
theorem d_Co_finishPresent_79 : decode prog_3_method_5_code 79 = .ok (.iaload, 1) := by decide +kernel
theorem d_Co_finishPresent_80 : decode prog_3_method_5_code 80 = .ok (.iastore, 1) := by decide +kernel
theorem d_Co_finishPresent_81 : decode prog_3_method_5_code 81 = .ok (.aload_n 0, 1) := by decide +kernel
theorem d_Co_finishPresent_82 : decode prog_3_method_5_code 82 = .ok (.getfield 27, 3) := by decide +kernel
theorem d_Co_finishPresent_85 : decode prog_3_method_5_code 85 = .ok (.getfield 66, 3) := by decide +kernel
theorem d_Co_finishPresent_88 : decode prog_3_method_5_code 88 = .ok (.iload_n 2, 1) := by decide +kernel
theorem d_Co_finishPresent_89 : decode prog_3_method_5_code 89 = .ok (.iload_n 1, 1) := by decide +kernel
theorem d_Co_finishPresent_90 : decode prog_3_method_5_code 90 = .ok (.iastore, 1) := by decide +kernel
theorem d_Co_finishPresent_91 : decode prog_3_method_5_code 91 = .ok (.aload_n 0, 1) := by decide +kernel
theorem d_Co_finishPresent_92 : decode prog_3_method_5_code 92 = .ok (.dup, 1) := by decide +kernel
theorem d_Co_finishPresent_93 : decode prog_3_method_5_code 93 = .ok (.getfield 35, 3) := by decide +kernel
theorem d_Co_finishPresent_96 : decode prog_3_method_5_code 96 = .ok (.iconst 1, 1) := by decide +kernel
theorem d_Co_finishPresent_97 : decode prog_3_method_5_code 97 = .ok (.iadd, 1) := by decide +kernel
theorem d_Co_finishPresent_98 : decode prog_3_method_5_code 98 = .ok (.putfield 35, 3) := by decide +kernel
theorem d_Co_finishPresent_101 : decode prog_3_method_5_code 101 = .ok (.aload_n 0, 1) := by decide +kernel
theorem d_Co_finishPresent_102 : decode prog_3_method_5_code 102 = .ok (.iload_n 1, 1) := by decide +kernel
theorem d_Co_finishPresent_103 : decode prog_3_method_5_code 103 = .ok (.putfield 38, 3) := by decide +kernel
theorem d_Co_finishPresent_106 : decode prog_3_method_5_code 106 = .ok (.return_, 1) := by decide +kernel
theorem d_No_take_0 : decode prog_9_method_5_code 0 = .ok (.aload_n 1, 1) := by decide +kernel
theorem d_No_take_1 : decode prog_9_method_5_code 1 = .ok (.invokevirtual 83, 3) := by decide +kernel
theorem d_No_take_4 : decode prog_9_method_5_code 4 = .ok (.ifCond .eq 19, 3) := by decide +kernel
theorem d_No_take_7 : decode prog_9_method_5_code 7 = .ok (.aload_n 0, 1) := by decide +kernel
theorem d_No_take_8 : decode prog_9_method_5_code 8 = .ok (.getfield 19, 3) := by decide +kernel
theorem d_No_take_11 : decode prog_9_method_5_code 11 = .ok (.aload_n 1, 1) := by decide +kernel
theorem d_No_take_12 : decode prog_9_method_5_code 12 = .ok (.getfield 76, 3) := by decide +kernel
theorem d_No_take_15 : decode prog_9_method_5_code 15 = .ok (.aaload, 1) := by decide +kernel
theorem d_No_take_16 : decode prog_9_method_5_code 16 = .ok (.aload_n 1, 1) := by decide +kernel
theorem d_No_take_17 : decode prog_9_method_5_code 17 = .ok (.invokevirtual 91, 3) := by decide +kernel
theorem d_No_take_20 : decode prog_9_method_5_code 20 = .ok (.goto 22, 3) := by decide +kernel
theorem d_No_take_23 : decode prog_9_method_5_code 23 = .ok (.aload_n 0, 1) := by decide +kernel
theorem d_No_take_24 : decode prog_9_method_5_code 24 = .ok (.getfield 28, 3) := by decide +kernel
theorem d_No_take_27 : decode prog_9_method_5_code 27 = .ok (.aload_n 1, 1) := by decide +kernel
theorem d_No_take_28 : decode prog_9_method_5_code 28 = .ok (.invokevirtual 94, 3) := by decide +kernel
theorem d_No_take_31 : decode prog_9_method_5_code 31 = .ok (.ifCond .eq 11, 3) := by decide +kernel
theorem d_No_take_34 : decode prog_9_method_5_code 34 = .ok (.aload_n 0, 1) := by decide +kernel
theorem d_No_take_35 : decode prog_9_method_5_code 35 = .ok (.getfield 37, 3) := by decide +kernel
theorem d_No_take_38 : decode prog_9_method_5_code 38 = .ok (.iload_n 2, 1) := by decide +kernel
theorem d_No_take_39 : decode prog_9_method_5_code 39 = .ok (.invokevirtual 96, 3) := by decide +kernel
theorem d_No_take_42 : decode prog_9_method_5_code 42 = .ok (.return_, 1) := by decide +kernel
theorem d_No_takePackets_0 : decode prog_9_method_2_code 0 = .ok (.iconst 2, 1) := by decide +kernel
theorem d_No_takePackets_1 : decode prog_9_method_2_code 1 = .ok (.istore_n 2, 1) := by decide +kernel
theorem d_No_takePackets_2 : decode prog_9_method_2_code 2 = .ok (.iload_n 2, 1) := by decide +kernel
theorem d_No_takePackets_3 : decode prog_9_method_2_code 3 = .ok (.ifCond .lt 52, 3) := by decide +kernel
theorem d_No_takePackets_6 : decode prog_9_method_2_code 6 = .ok (.aload_n 0, 1) := by decide +kernel
theorem d_No_takePackets_7 : decode prog_9_method_2_code 7 = .ok (.getfield 15, 3) := by decide +kernel
theorem d_No_takePackets_10 : decode prog_9_method_2_code 10 = .ok (.aload_n 0, 1) := by decide +kernel
theorem d_No_takePackets_11 : decode prog_9_method_2_code 11 = .ok (.getfield 9, 3) := by decide +kernel
theorem d_No_takePackets_14 : decode prog_9_method_2_code 14 = .ok (.iload_n 2, 1) := by decide +kernel
theorem d_No_takePackets_15 : decode prog_9_method_2_code 15 = .ok (.invokevirtual 41, 3) := by decide +kernel
theorem d_No_takePackets_18 : decode prog_9_method_2_code 18 = .ok (.getfield 47, 3) := by decide +kernel
theorem d_No_takePackets_21 : decode prog_9_method_2_code 21 = .ok (.astore_n 3, 1) := by decide +kernel
theorem d_No_takePackets_22 : decode prog_9_method_2_code 22 = .ok (.aload_n 0, 1) := by decide +kernel
theorem d_No_takePackets_23 : decode prog_9_method_2_code 23 = .ok (.aload_n 3, 1) := by decide +kernel
theorem d_No_takePackets_24 : decode prog_9_method_2_code 24 = .ok (.invokevirtual 53, 3) := by decide +kernel
theorem d_No_takePackets_27 : decode prog_9_method_2_code 27 = .ok (.istore 4, 2) := by decide +kernel
theorem d_No_takePackets_29 : decode prog_9_method_2_code 29 = .ok (.iload 4, 2) := by decide +kernel
theorem d_No_takePackets_31 : decode prog_9_method_2_code 31 = .ok (.iconst (-1), 1) := by decide +kernel
theorem d_No_takePackets_32 : decode prog_9_method_2_code 32 = .ok (.if_icmp .eq 17, 3) := by decide +kernel
theorem d_No_takePackets_35 : decode prog_9_method_2_code 35 = .ok (.aload_n 0, 1) := by decide +kernel
theorem d_No_takePackets_36 : decode prog_9_method_2_code 36 = .ok (.aload_n 3, 1) := by decide +kernel
theorem d_No_takePackets_37 : decode prog_9_method_2_code 37 = .ok (.iload 4, 2) := by decide +kernel
theorem d_No_takePackets_39 : decode prog_9_method_2_code 39 = .ok (.invokevirtual 57, 3) := by decide +kernel
theorem d_No_takePackets_42 : decode prog_9_method_2_code 42 = .ok (.checkcast 63, 3) := by decide +kernel
theorem d_No_takePackets_45 : decode prog_9_method_2_code 45 = .ok (.iload_n 1, 1) := by decide +kernel
theorem d_No_takePackets_46 : decode prog_9_method_2_code 46 = .ok (.invokevirtual 65, 3) := by decide +kernel
theorem d_No_takePackets_49 : decode prog_9_method_2_code 49 = .ok (.iinc 2 (-1), 3) := by decide +kernel
theorem d_No_takePackets_52 : decode prog_9_method_2_code 52 = .ok (.goto (-50), 3) := by decide +kernel
theorem d_No_takePackets_55 : decode prog_9_method_2_code 55 = .ok (.return_, 1) := by decide +kernel
theorem d_Ca_ask_0 : decode prog_2_method_10_code 0 = .ok (.aload_n 0, 1) := by decide +kernel
theorem d_Ca_ask_1 : decode prog_2_method_10_code 1 = .ok (.getfield 28, 3) := by decide +kernel
theorem d_Ca_ask_4 : decode prog_2_method_10_code 4 = .ok (.aload_n 0, 1) := by decide +kernel
theorem d_Ca_ask_5 : decode prog_2_method_10_code 5 = .ok (.getfield 24, 3) := by decide +kernel
theorem d_Ca_ask_8 : decode prog_2_method_10_code 8 = .ok (.iload_n 1, 1) := by decide +kernel
theorem d_Ca_ask_9 : decode prog_2_method_10_code 9 = .ok (.iload_n 2, 1) := by decide +kernel
theorem d_Ca_ask_10 : decode prog_2_method_10_code 10 = .ok (.iload_n 2, 1) := by decide +kernel
theorem d_Ca_ask_11 : decode prog_2_method_10_code 11 = .ok (.invokestatic 63, 3) := by decide +kernel
theorem d_Ca_ask_14 : decode prog_2_method_10_code 14 = .ok (.aload_n 0, 1) := by decide +kernel
theorem d_Ca_ask_15 : decode prog_2_method_10_code 15 = .ok (.getfield 24, 3) := by decide +kernel
theorem d_Ca_ask_18 : decode prog_2_method_10_code 18 = .ok (.aload_n 0, 1) := by decide +kernel
theorem d_Ca_ask_19 : decode prog_2_method_10_code 19 = .ok (.getfield 15, 3) := by decide +kernel
theorem d_Ca_ask_22 : decode prog_2_method_10_code 22 = .ok (.iload_n 2, 1) := by decide +kernel
theorem d_Ca_ask_23 : decode prog_2_method_10_code 23 = .ok (.iaload, 1) := by decide +kernel
theorem d_Ca_ask_24 : decode prog_2_method_10_code 24 = .ok (.iconst 0, 1) := by decide +kernel
theorem d_Ca_ask_25 : decode prog_2_method_10_code 25 = .ok (.invokevirtual 73, 3) := by decide +kernel
theorem d_Ca_ask_28 : decode prog_2_method_10_code 28 = .ok (.aload_n 0, 1) := by decide +kernel
theorem d_Ca_ask_29 : decode prog_2_method_10_code 29 = .ok (.getfield 9, 3) := by decide +kernel
theorem d_Ca_ask_32 : decode prog_2_method_10_code 32 = .ok (.iload_n 2, 1) := by decide +kernel
theorem d_Ca_ask_33 : decode prog_2_method_10_code 33 = .ok (.iload_n 3, 1) := by decide +kernel
theorem d_Ca_ask_34 : decode prog_2_method_10_code 34 = .ok (.iastore, 1) := by decide +kernel
theorem d_Ca_ask_35 : decode prog_2_method_10_code 35 = .ok (.return_, 1) := by decide +kernel
theorem d_Ca_hasRoomFor_0 : decode prog_2_method_9_code 0 = .ok (.iconst 0, 1) := by decide +kernel
theorem d_Ca_hasRoomFor_1 : decode prog_2_method_9_code 1 = .ok (.istore_n 2, 1) := by decide +kernel
theorem d_Ca_hasRoomFor_2 : decode prog_2_method_9_code 2 = .ok (.iload_n 1, 1) := by decide +kernel
theorem d_Ca_hasRoomFor_3 : decode prog_2_method_9_code 3 = .ok (.iconst 2, 1) := by decide +kernel
theorem d_Ca_hasRoomFor_4 : decode prog_2_method_9_code 4 = .ok (.irem, 1) := by decide +kernel
theorem d_Ca_hasRoomFor_5 : decode prog_2_method_9_code 5 = .ok (.istore_n 3, 1) := by decide +kernel
theorem d_Ca_hasRoomFor_6 : decode prog_2_method_9_code 6 = .ok (.iload_n 3, 1) := by decide +kernel
theorem d_Ca_hasRoomFor_7 : decode prog_2_method_9_code 7 = .ok (.bipush 8, 2) := by decide +kernel
theorem d_Ca_hasRoomFor_9 : decode prog_2_method_9_code 9 = .ok (.if_icmp .ge 26, 3) := by decide +kernel
theorem d_Ca_hasRoomFor_12 : decode prog_2_method_9_code 12 = .ok (.iload_n 2, 1) := by decide +kernel
theorem d_Ca_hasRoomFor_13 : decode prog_2_method_9_code 13 = .ok (.aload_n 0, 1) := by decide +kernel
theorem d_Ca_hasRoomFor_14 : decode prog_2_method_9_code 14 = .ok (.getfield 9, 3) := by decide +kernel
theorem d_Ca_hasRoomFor_17 : decode prog_2_method_9_code 17 = .ok (.iload_n 3, 1) := by decide +kernel
theorem d_Ca_hasRoomFor_18 : decode prog_2_method_9_code 18 = .ok (.iaload, 1) := by decide +kernel
theorem d_Ca_hasRoomFor_19 : decode prog_2_method_9_code 19 = .ok (.ifCond .ne 7, 3) := by decide +kernel
theorem d_Ca_hasRoomFor_22 : decode prog_2_method_9_code 22 = .ok (.iconst 0, 1) := by decide +kernel
theorem d_Ca_hasRoomFor_23 : decode prog_2_method_9_code 23 = .ok (.goto 4, 3) := by decide +kernel
theorem d_Ca_hasRoomFor_26 : decode prog_2_method_9_code 26 = .ok (.iconst 1, 1) := by decide +kernel
theorem d_Ca_hasRoomFor_27 : decode prog_2_method_9_code 27 = .ok (.iadd, 1) := by decide +kernel
theorem d_Ca_hasRoomFor_28 : decode prog_2_method_9_code 28 = .ok (.istore_n 2, 1) := by decide +kernel
theorem d_Ca_hasRoomFor_29 : decode prog_2_method_9_code 29 = .ok (.iinc 3 2, 3) := by decide +kernel
theorem d_Ca_hasRoomFor_32 : decode prog_2_method_9_code 32 = .ok (.goto (-26), 3) := by decide +kernel
theorem d_Ca_hasRoomFor_35 : decode prog_2_method_9_code 35 = .ok (.iload_n 2, 1) := by decide +kernel
theorem d_Ca_hasRoomFor_36 : decode prog_2_method_9_code 36 = .ok (.iconst 2, 1) := by decide +kernel
theorem d_Ca_hasRoomFor_37 : decode prog_2_method_9_code 37 = .ok (.if_icmp .ge 7, 3) := by decide +kernel
theorem d_Ca_hasRoomFor_40 : decode prog_2_method_9_code 40 = .ok (.iconst 1, 1) := by decide +kernel
theorem d_Ca_hasRoomFor_41 : decode prog_2_method_9_code 41 = .ok (.goto 4, 3) := by decide +kernel
theorem d_Ca_hasRoomFor_44 : decode prog_2_method_9_code 44 = .ok (.iconst 0, 1) := by decide +kernel
theorem d_Ca_hasRoomFor_45 : decode prog_2_method_9_code 45 = .ok (.ireturn, 1) := by decide +kernel
theorem d_Ca_makeRoomFor_0 : decode prog_2_method_11_code 0 = .ok (.iconst (-1), 1) := by decide +kernel
theorem d_Ca_makeRoomFor_1 : decode prog_2_method_11_code 1 = .ok (.istore_n 2, 1) := by decide +kernel
theorem d_Ca_makeRoomFor_2 : decode prog_2_method_11_code 2 = .ok (.iload_n 1, 1) := by decide +kernel
theorem d_Ca_makeRoomFor_3 : decode prog_2_method_11_code 3 = .ok (.iconst 2, 1) := by decide +kernel
theorem d_Ca_makeRoomFor_4 : decode prog_2_method_11_code 4 = .ok (.irem, 1) := by decide +kernel
theorem d_Ca_makeRoomFor_5 : decode prog_2_method_11_code 5 = .ok (.istore_n 3, 1) := by decide +kernel
theorem d_Ca_makeRoomFor_6 : decode prog_2_method_11_code 6 = .ok (.iload_n 3, 1) := by decide +kernel
theorem d_Ca_makeRoomFor_7 : decode prog_2_method_11_code 7 = .ok (.bipush 8, 2) := by decide +kernel
theorem d_Ca_makeRoomFor_9 : decode prog_2_method_11_code 9 = .ok (.if_icmp .ge 98, 3) := by decide +kernel
theorem d_Ca_makeRoomFor_12 : decode prog_2_method_11_code 12 = .ok (.aload_n 0, 1) := by decide +kernel
theorem d_Ca_makeRoomFor_13 : decode prog_2_method_11_code 13 = .ok (.getfield 9, 3) := by decide +kernel
theorem d_Ca_makeRoomFor_16 : decode prog_2_method_11_code 16 = .ok (.iload_n 3, 1) := by decide +kernel
theorem d_Ca_makeRoomFor_17 : decode prog_2_method_11_code 17 = .ok (.iaload, 1) := by decide +kernel
theorem d_Ca_makeRoomFor_18 : decode prog_2_method_11_code 18 = .ok (.bipush 8, 2) := by decide +kernel
theorem d_Ca_makeRoomFor_20 : decode prog_2_method_11_code 20 = .ok (.if_icmp .eq 25, 3) := by decide +kernel
theorem d_Ca_makeRoomFor_23 : decode prog_2_method_11_code 23 = .ok (.aload_n 0, 1) := by decide +kernel
theorem d_Ca_makeRoomFor_24 : decode prog_2_method_11_code 24 = .ok (.getfield 9, 3) := by decide +kernel
theorem d_Ca_makeRoomFor_27 : decode prog_2_method_11_code 27 = .ok (.iload_n 3, 1) := by decide +kernel
theorem d_Ca_makeRoomFor_28 : decode prog_2_method_11_code 28 = .ok (.iaload, 1) := by decide +kernel
theorem d_Ca_makeRoomFor_29 : decode prog_2_method_11_code 29 = .ok (.bipush 9, 2) := by decide +kernel
theorem d_Ca_makeRoomFor_31 : decode prog_2_method_11_code 31 = .ok (.if_icmp .eq 14, 3) := by decide +kernel
theorem d_Ca_makeRoomFor_34 : decode prog_2_method_11_code 34 = .ok (.aload_n 0, 1) := by decide +kernel
theorem d_Ca_makeRoomFor_35 : decode prog_2_method_11_code 35 = .ok (.getfield 9, 3) := by decide +kernel
theorem d_Ca_makeRoomFor_38 : decode prog_2_method_11_code 38 = .ok (.iload_n 3, 1) := by decide +kernel
theorem d_Ca_makeRoomFor_39 : decode prog_2_method_11_code 39 = .ok (.iaload, 1) := by decide +kernel
theorem d_Ca_makeRoomFor_40 : decode prog_2_method_11_code 40 = .ok (.bipush 10, 2) := by decide +kernel
theorem d_Ca_makeRoomFor_42 : decode prog_2_method_11_code 42 = .ok (.if_icmp .ne 4, 3) := by decide +kernel
theorem d_Ca_makeRoomFor_45 : decode prog_2_method_11_code 45 = .ok (.return_, 1) := by decide +kernel
theorem d_Ca_makeRoomFor_46 : decode prog_2_method_11_code 46 = .ok (.aload_n 0, 1) := by decide +kernel
theorem d_Ca_makeRoomFor_47 : decode prog_2_method_11_code 47 = .ok (.getfield 9, 3) := by decide +kernel
theorem d_Ca_makeRoomFor_50 : decode prog_2_method_11_code 50 = .ok (.iload_n 3, 1) := by decide +kernel
theorem d_Ca_makeRoomFor_51 : decode prog_2_method_11_code 51 = .ok (.iaload, 1) := by decide +kernel
theorem d_Ca_makeRoomFor_52 : decode prog_2_method_11_code 52 = .ok (.iconst 4, 1) := by decide +kernel
theorem d_Ca_makeRoomFor_53 : decode prog_2_method_11_code 53 = .ok (.if_icmp .eq 14, 3) := by decide +kernel
theorem d_Ca_makeRoomFor_56 : decode prog_2_method_11_code 56 = .ok (.aload_n 0, 1) := by decide +kernel
theorem d_Ca_makeRoomFor_57 : decode prog_2_method_11_code 57 = .ok (.getfield 9, 3) := by decide +kernel
theorem d_Ca_makeRoomFor_60 : decode prog_2_method_11_code 60 = .ok (.iload_n 3, 1) := by decide +kernel
theorem d_Ca_makeRoomFor_61 : decode prog_2_method_11_code 61 = .ok (.iaload, 1) := by decide +kernel
theorem d_Ca_makeRoomFor_62 : decode prog_2_method_11_code 62 = .ok (.bipush 7, 2) := by decide +kernel
theorem d_Ca_makeRoomFor_64 : decode prog_2_method_11_code 64 = .ok (.if_icmp .ne 7, 3) := by decide +kernel
theorem d_Ca_makeRoomFor_67 : decode prog_2_method_11_code 67 = .ok (.iconst 1, 1) := by decide +kernel
theorem d_Ca_makeRoomFor_68 : decode prog_2_method_11_code 68 = .ok (.goto 4, 3) := by decide +kernel
theorem d_Ca_makeRoomFor_71 : decode prog_2_method_11_code 71 = .ok (.iconst 0, 1) := by decide +kernel
theorem d_Ca_makeRoomFor_72 : decode prog_2_method_11_code 72 = .ok (.istore 4, 2) := by decide +kernel
theorem d_Ca_makeRoomFor_74 : decode prog_2_method_11_code 74 = .ok (.iload 4, 2) := by decide +kernel
theorem d_Ca_makeRoomFor_76 : decode prog_2_method_11_code 76 = .ok (.ifCond .eq 25, 3) := by decide +kernel
theorem d_Ca_makeRoomFor_79 : decode prog_2_method_11_code 79 = .ok (.iload_n 2, 1) := by decide +kernel
theorem d_Ca_makeRoomFor_80 : decode prog_2_method_11_code 80 = .ok (.iconst (-1), 1) := by decide +kernel
theorem d_Ca_makeRoomFor_81 : decode prog_2_method_11_code 81 = .ok (.if_icmp .eq 18, 3) := by decide +kernel
theorem d_Ca_makeRoomFor_84 : decode prog_2_method_11_code 84 = .ok (.aload_n 0, 1) := by decide +kernel
theorem d_Ca_makeRoomFor_85 : decode prog_2_method_11_code 85 = .ok (.getfield 21, 3) := by decide +kernel
theorem d_Ca_makeRoomFor_88 : decode prog_2_method_11_code 88 = .ok (.iload_n 3, 1) := by decide +kernel
theorem d_Ca_makeRoomFor_89 : decode prog_2_method_11_code 89 = .ok (.iaload, 1) := by decide +kernel
theorem d_Ca_makeRoomFor_90 : decode prog_2_method_11_code 90 = .ok (.aload_n 0, 1) := by decide +kernel
theorem d_Ca_makeRoomFor_91 : decode prog_2_method_11_code 91 = .ok (.getfield 21, 3) := by decide +kernel
theorem d_Ca_makeRoomFor_94 : decode prog_2_method_11_code 94 = .ok (.iload_n 2, 1) := by decide +kernel
theorem d_Ca_makeRoomFor_95 : decode prog_2_method_11_code 95 = .ok (.iaload, 1) := by decide +kernel
theorem d_Ca_makeRoomFor_96 : decode prog_2_method_11_code 96 = .ok (.if_icmp .ge 5, 3) := by decide +kernel
theorem d_Ca_makeRoomFor_99 : decode prog_2_method_11_code 99 = .ok (.iload_n 3, 1) := by decide +kernel
theorem d_Ca_makeRoomFor_100 : decode prog_2_method_11_code 100 = .ok (.istore_n 2, 1) := by decide +kernel
theorem d_Ca_makeRoomFor_101 : decode prog_2_method_11_code 101 = .ok (.iinc 3 2, 3) := by decide +kernel
theorem d_Ca_makeRoomFor_104 : decode prog_2_method_11_code 104 = .ok (.goto (-98), 3) := by decide +kernel
theorem d_Ca_makeRoomFor_107 : decode prog_2_method_11_code 107 = .ok (.iload_n 2, 1) := by decide +kernel
theorem d_Ca_makeRoomFor_108 : decode prog_2_method_11_code 108 = .ok (.iconst (-1), 1) := by decide +kernel
theorem d_Ca_makeRoomFor_109 : decode prog_2_method_11_code 109 = .ok (.if_icmp .ne 4, 3) := by decide +kernel
theorem d_Ca_makeRoomFor_112 : decode prog_2_method_11_code 112 = .ok (.return_, 1) := by decide +kernel
theorem d_Ca_makeRoomFor_113 : decode prog_2_method_11_code 113 = .ok (.aload_n 0, 1) := by decide +kernel
theorem d_Ca_makeRoomFor_114 : decode prog_2_method_11_code 114 = .ok (.getfield 9, 3) := by decide +kernel
theorem d_Ca_makeRoomFor_117 : decode prog_2_method_11_code 117 = .ok (.iload_n 2, 1) := by decide +kernel
theorem d_Ca_makeRoomFor_118 : decode prog_2_method_11_code 118 = .ok (.iaload, 1) := by decide +kernel
theorem d_Ca_makeRoomFor_119 : decode prog_2_method_11_code 119 = .ok (.iconst 4, 1) := by decide +kernel
theorem d_Ca_makeRoomFor_120 : decode prog_2_method_11_code 120 = .ok (.if_icmp .ne 14, 3) := by decide +kernel
theorem d_Ca_makeRoomFor_123 : decode prog_2_method_11_code 123 = .ok (.aload_n 0, 1) := by decide +kernel
theorem d_Ca_makeRoomFor_124 : decode prog_2_method_11_code 124 = .ok (.iconst 2, 1) := by decide +kernel
theorem d_Ca_makeRoomFor_125 : decode prog_2_method_11_code 125 = .ok (.iload_n 2, 1) := by decide +kernel
theorem d_Ca_makeRoomFor_126 : decode prog_2_method_11_code 126 = .ok (.bipush 9, 2) := by decide +kernel
theorem d_Ca_makeRoomFor_128 : decode prog_2_method_11_code 128 = .ok (.invokevirtual 79, 3) := by decide +kernel
theorem d_Ca_makeRoomFor_131 : decode prog_2_method_11_code 131 = .ok (.goto 11, 3) := by decide +kernel
theorem d_Ca_makeRoomFor_134 : decode prog_2_method_11_code 134 = .ok (.aload_n 0, 1) := by decide +kernel
theorem d_Ca_makeRoomFor_135 : decode prog_2_method_11_code 135 = .ok (.iconst 3, 1) := by decide +kernel
theorem d_Ca_makeRoomFor_136 : decode prog_2_method_11_code 136 = .ok (.iload_n 2, 1) := by decide +kernel
theorem d_Ca_makeRoomFor_137 : decode prog_2_method_11_code 137 = .ok (.bipush 8, 2) := by decide +kernel
theorem d_Ca_makeRoomFor_139 : decode prog_2_method_11_code 139 = .ok (.invokevirtual 79, 3) := by decide +kernel
theorem d_Ca_makeRoomFor_142 : decode prog_2_method_11_code 142 = .ok (.return_, 1) := by decide +kernel
theorem d_Co_fetch_0 : decode prog_3_method_4_code 0 = .ok (.aload_n 0, 1) := by decide +kernel
theorem d_Co_fetch_1 : decode prog_3_method_4_code 1 = .ok (.getfield 27, 3) := by decide +kernel
theorem d_Co_fetch_4 : decode prog_3_method_4_code 4 = .ok (.iload_n 1, 1) := by decide +kernel
theorem d_Co_fetch_5 : decode prog_3_method_4_code 5 = .ok (.invokevirtual 58, 3) := by decide +kernel
theorem d_Co_fetch_8 : decode prog_3_method_4_code 8 = .ok (.ifCond .ne 14, 3) := by decide +kernel
theorem d_Co_fetch_11 : decode prog_3_method_4_code 11 = .ok (.aload_n 0, 1) := by decide +kernel
theorem d_Co_fetch_12 : decode prog_3_method_4_code 12 = .ok (.getfield 27, 3) := by decide +kernel
theorem d_Co_fetch_15 : decode prog_3_method_4_code 15 = .ok (.iload_n 1, 1) := by decide +kernel
theorem d_Co_fetch_16 : decode prog_3_method_4_code 16 = .ok (.invokevirtual 62, 3) := by decide +kernel
theorem d_Co_fetch_19 : decode prog_3_method_4_code 19 = .ok (.goto 30, 3) := by decide +kernel
theorem d_Co_fetch_22 : decode prog_3_method_4_code 22 = .ok (.iload_n 2, 1) := by decide +kernel
theorem d_Co_fetch_23 : decode prog_3_method_4_code 23 = .ok (.ifCond .eq 16, 3) := by decide +kernel
theorem d_Co_fetch_26 : decode prog_3_method_4_code 26 = .ok (.aload_n 0, 1) := by decide +kernel
theorem d_Co_fetch_27 : decode prog_3_method_4_code 27 = .ok (.getfield 27, 3) := by decide +kernel
theorem d_Co_fetch_30 : decode prog_3_method_4_code 30 = .ok (.iconst 0, 1) := by decide +kernel
theorem d_Co_fetch_31 : decode prog_3_method_4_code 31 = .ok (.iload_n 1, 1) := by decide +kernel
theorem d_Co_fetch_32 : decode prog_3_method_4_code 32 = .ok (.iconst 1, 1) := by decide +kernel
theorem d_Co_fetch_33 : decode prog_3_method_4_code 33 = .ok (.invokevirtual 50, 3) := by decide +kernel
theorem d_Co_fetch_36 : decode prog_3_method_4_code 36 = .ok (.goto 13, 3) := by decide +kernel
theorem d_Co_fetch_39 : decode prog_3_method_4_code 39 = .ok (.aload_n 0, 1) := by decide +kernel
theorem d_Co_fetch_40 : decode prog_3_method_4_code 40 = .ok (.getfield 27, 3) := by decide +kernel
theorem d_Co_fetch_43 : decode prog_3_method_4_code 43 = .ok (.iconst 1, 1) := by decide +kernel
theorem d_Co_fetch_44 : decode prog_3_method_4_code 44 = .ok (.iload_n 1, 1) := by decide +kernel
theorem d_Co_fetch_45 : decode prog_3_method_4_code 45 = .ok (.iconst 2, 1) := by decide +kernel
theorem d_Co_fetch_46 : decode prog_3_method_4_code 46 = .ok (.invokevirtual 50, 3) := by decide +kernel
theorem d_Co_fetch_49 : decode prog_3_method_4_code 49 = .ok (.return_, 1) := by decide +kernel
theorem d_Co_act_0 : decode prog_3_method_3_code 0 = .ok (.aload_n 0, 1) := by decide +kernel
theorem d_Co_act_1 : decode prog_3_method_3_code 1 = .ok (.getfield 35, 3) := by decide +kernel
theorem d_Co_act_4 : decode prog_3_method_3_code 4 = .ok (.aload_n 0, 1) := by decide +kernel
theorem d_Co_act_5 : decode prog_3_method_3_code 5 = .ok (.getfield 31, 3) := by decide +kernel
theorem d_Co_act_8 : decode prog_3_method_3_code 8 = .ok (.if_icmp .ge 11, 3) := by decide +kernel
theorem d_Co_act_11 : decode prog_3_method_3_code 11 = .ok (.aload_n 0, 1) := by decide +kernel
theorem d_Co_act_12 : decode prog_3_method_3_code 12 = .ok (.getfield 38, 3) := by decide +kernel
theorem d_Co_act_15 : decode prog_3_method_3_code 15 = .ok (.iload_n 1, 1) := by decide +kernel
theorem d_Co_act_16 : decode prog_3_method_3_code 16 = .ok (.if_icmp .ne 4, 3) := by decide +kernel
theorem d_Co_act_19 : decode prog_3_method_3_code 19 = .ok (.return_, 1) := by decide +kernel
theorem d_Co_act_20 : decode prog_3_method_3_code 20 = .ok (.aload_n 0, 1) := by decide +kernel
theorem d_Co_act_21 : decode prog_3_method_3_code 21 = .ok (.getfield 21, 3) := by decide +kernel
theorem d_Co_act_24 : decode prog_3_method_3_code 24 = .ok (.aload_n 0, 1) := by decide +kernel
theorem d_Co_act_25 : decode prog_3_method_3_code 25 = .ok (.getfield 35, 3) := by decide +kernel
theorem d_Co_act_28 : decode prog_3_method_3_code 28 = .ok (.iaload, 1) := by decide +kernel
theorem d_Co_act_29 : decode prog_3_method_3_code 29 = .ok (.ifCond .le 17, 3) := by decide +kernel
theorem d_Co_act_32 : decode prog_3_method_3_code 32 = .ok (.aload_n 0, 1) := by decide +kernel
theorem d_Co_act_33 : decode prog_3_method_3_code 33 = .ok (.getfield 21, 3) := by decide +kernel
theorem d_Co_act_36 : decode prog_3_method_3_code 36 = .ok (.aload_n 0, 1) := by decide +kernel
theorem d_Co_act_37 : decode prog_3_method_3_code 37 = .ok (.getfield 35, 3) := by decide +kernel
theorem d_Co_act_40 : decode prog_3_method_3_code 40 = .ok (.dup2, 1) := by decide +kernel
theorem d_Co_act_41 : decode prog_3_method_3_code 41 = .ok (.iaload, 1) := by decide +kernel
theorem d_Co_act_42 : decode prog_3_method_3_code 42 = .ok (.iconst 1, 1) := by decide +kernel
theorem d_Co_act_43 : decode prog_3_method_3_code 43 = .ok (.isub, 1) := by decide +kernel
theorem d_Co_act_44 : decode prog_3_method_3_code 44 = .ok (.iastore, 1) := by decide +kernel
theorem d_Co_act_45 : decode prog_3_method_3_code 45 = .ok (.return_, 1) := by decide +kernel
theorem d_Co_act_46 : decode prog_3_method_3_code 46 = .ok (.aload_n 0, 1) := by decide +kernel
theorem d_Co_act_47 : decode prog_3_method_3_code 47 = .ok (.getfield 15, 3) := by decide +kernel
theorem d_Co_act_50 : decode prog_3_method_3_code 50 = .ok (.aload_n 0, 1) := by decide +kernel
theorem d_Co_act_51 : decode prog_3_method_3_code 51 = .ok (.getfield 35, 3) := by decide +kernel
theorem d_Co_act_54 : decode prog_3_method_3_code 54 = .ok (.iaload, 1) := by decide +kernel
theorem d_Co_act_55 : decode prog_3_method_3_code 55 = .ok (.istore_n 2, 1) := by decide +kernel
theorem d_Co_act_56 : decode prog_3_method_3_code 56 = .ok (.aload_n 0, 1) := by decide +kernel
theorem d_Co_act_57 : decode prog_3_method_3_code 57 = .ok (.getfield 9, 3) := by decide +kernel
theorem d_Co_act_60 : decode prog_3_method_3_code 60 = .ok (.aload_n 0, 1) := by decide +kernel
theorem d_Co_act_61 : decode prog_3_method_3_code 61 = .ok (.getfield 35, 3) := by decide +kernel
theorem d_Co_act_64 : decode prog_3_method_3_code 64 = .ok (.iaload, 1) := by decide +kernel
theorem d_Co_act_65 : decode prog_3_method_3_code 65 = .ok (.ifCond .ne 7, 3) := by decide +kernel
theorem d_Co_act_68 : decode prog_3_method_3_code 68 = .ok (.iconst 1, 1) := by decide +kernel
theorem d_Co_act_69 : decode prog_3_method_3_code 69 = .ok (.goto 4, 3) := by decide +kernel
theorem d_Co_act_72 : decode prog_3_method_3_code 72 = .ok (.iconst 0, 1) := by decide +kernel
theorem d_Co_act_73 : decode prog_3_method_3_code 73 = .ok (.istore_n 3, 1) := by decide +kernel
theorem d_Co_act_74 : decode prog_3_method_3_code 74 = .ok (.aload_n 0, 1) := by decide +kernel
theorem d_Co_act_75 : decode prog_3_method_3_code 75 = .ok (.getfield 27, 3) := by decide +kernel
theorem d_Co_act_78 : decode prog_3_method_3_code 78 = .ok (.getfield 41, 3) := by decide +kernel
theorem d_Co_act_81 : decode prog_3_method_3_code 81 = .ok (.iload_n 2, 1) := by decide +kernel
theorem d_Co_act_82 : decode prog_3_method_3_code 82 = .ok (.iaload, 1) := by decide +kernel
theorem d_Co_act_83 : decode prog_3_method_3_code 83 = .ok (.istore 4, 2) := by decide +kernel
theorem d_Co_act_85 : decode prog_3_method_3_code 85 = .ok (.iload 4, 2) := by decide +kernel
theorem d_Co_act_87 : decode prog_3_method_3_code 87 = .ok (.bipush 7, 2) := by decide +kernel
theorem d_Co_act_89 : decode prog_3_method_3_code 89 = .ok (.if_icmp .eq 13, 3) := by decide +kernel
theorem d_Co_act_92 : decode prog_3_method_3_code 92 = .ok (.iload 4, 2) := by decide +kernel
theorem d_Co_act_94 : decode prog_3_method_3_code 94 = .ok (.iconst 4, 1) := by decide +kernel
theorem d_Co_act_95 : decode prog_3_method_3_code 95 = .ok (.if_icmp .ne 15, 3) := by decide +kernel
theorem d_Co_act_98 : decode prog_3_method_3_code 98 = .ok (.iload_n 3, 1) := by decide +kernel
theorem d_Co_act_99 : decode prog_3_method_3_code 99 = .ok (.ifCond .eq 11, 3) := by decide +kernel
theorem d_Co_act_102 : decode prog_3_method_3_code 102 = .ok (.aload_n 0, 1) := by decide +kernel
theorem d_Co_act_103 : decode prog_3_method_3_code 103 = .ok (.iload_n 1, 1) := by decide +kernel
theorem d_Co_act_104 : decode prog_3_method_3_code 104 = .ok (.invokevirtual 46, 3) := by decide +kernel
theorem d_Co_act_107 : decode prog_3_method_3_code 107 = .ok (.goto 33, 3) := by decide +kernel
theorem d_Co_act_110 : decode prog_3_method_3_code 110 = .ok (.iload 4, 2) := by decide +kernel
theorem d_Co_act_112 : decode prog_3_method_3_code 112 = .ok (.iconst 4, 1) := by decide +kernel
theorem d_Co_act_113 : decode prog_3_method_3_code 113 = .ok (.if_icmp .ne 16, 3) := by decide +kernel
theorem d_Co_act_116 : decode prog_3_method_3_code 116 = .ok (.aload_n 0, 1) := by decide +kernel
theorem d_Co_act_117 : decode prog_3_method_3_code 117 = .ok (.getfield 27, 3) := by decide +kernel
theorem d_Co_act_120 : decode prog_3_method_3_code 120 = .ok (.iconst 1, 1) := by decide +kernel
theorem d_Co_act_121 : decode prog_3_method_3_code 121 = .ok (.iload_n 2, 1) := by decide +kernel
theorem d_Co_act_122 : decode prog_3_method_3_code 122 = .ok (.iconst 5, 1) := by decide +kernel
theorem d_Co_act_123 : decode prog_3_method_3_code 123 = .ok (.invokevirtual 50, 3) := by decide +kernel
theorem d_Co_act_126 : decode prog_3_method_3_code 126 = .ok (.goto 14, 3) := by decide +kernel
theorem d_Co_act_129 : decode prog_3_method_3_code 129 = .ok (.iload 4, 2) := by decide +kernel
theorem d_Co_act_131 : decode prog_3_method_3_code 131 = .ok (.ifCond .ne 9, 3) := by decide +kernel
theorem d_Co_act_134 : decode prog_3_method_3_code 134 = .ok (.aload_n 0, 1) := by decide +kernel
theorem d_Co_act_135 : decode prog_3_method_3_code 135 = .ok (.iload_n 2, 1) := by decide +kernel
theorem d_Co_act_136 : decode prog_3_method_3_code 136 = .ok (.iload_n 3, 1) := by decide +kernel
theorem d_Co_act_137 : decode prog_3_method_3_code 137 = .ok (.invokevirtual 54, 3) := by decide +kernel
theorem d_Co_act_140 : decode prog_3_method_3_code 140 = .ok (.return_, 1) := by decide +kernel
theorem d_ML_run_0 : decode prog_1_method_3_code 0 = .ok (.iload_n 1, 1) := by decide +kernel
theorem d_ML_run_1 : decode prog_1_method_3_code 1 = .ok (.bipush 101, 2) := by decide +kernel
theorem d_ML_run_3 : decode prog_1_method_3_code 3 = .ok (.invokestatic 40, 3) := by decide +kernel
theorem d_ML_run_6 : decode prog_1_method_3_code 6 = .ok (.ifCond .ne 5, 3) := by decide +kernel
theorem d_ML_run_9 : decode prog_1_method_3_code 9 = .ok (.iconst (-1), 1) := by decide +kernel
theorem d_ML_run_10 : decode prog_1_method_3_code 10 = .ok (.ireturn, 1) := by decide +kernel
theorem d_ML_run_11 : decode prog_1_method_3_code 11 = .ok (.iconst 0, 1) := by decide +kernel
theorem d_ML_run_12 : decode prog_1_method_3_code 12 = .ok (.istore_n 2, 1) := by decide +kernel
theorem d_ML_run_13 : decode prog_1_method_3_code 13 = .ok (.iload_n 2, 1) := by decide +kernel
theorem d_ML_run_14 : decode prog_1_method_3_code 14 = .ok (.iload_n 1, 1) := by decide +kernel
theorem d_ML_run_15 : decode prog_1_method_3_code 15 = .ok (.if_icmp .ge 98, 3) := by decide +kernel
theorem d_ML_run_18 : decode prog_1_method_3_code 18 = .ok (.aload_n 0, 1) := by decide +kernel
theorem d_ML_run_19 : decode prog_1_method_3_code 19 = .ok (.dup, 1) := by decide +kernel
theorem d_ML_run_20 : decode prog_1_method_3_code 20 = .ok (.getfield 54, 3) := by decide +kernel
theorem d_ML_run_23 : decode prog_1_method_3_code 23 = .ok (.iconst 1, 1) := by decide +kernel
theorem d_ML_run_24 : decode prog_1_method_3_code 24 = .ok (.iadd, 1) := by decide +kernel
theorem d_ML_run_25 : decode prog_1_method_3_code 25 = .ok (.putfield 54, 3) := by decide +kernel
theorem d_ML_run_28 : decode prog_1_method_3_code 28 = .ok (.aload_n 0, 1) := by decide +kernel
theorem d_ML_run_29 : decode prog_1_method_3_code 29 = .ok (.getfield 18, 3) := by decide +kernel
theorem d_ML_run_32 : decode prog_1_method_3_code 32 = .ok (.aload_n 0, 1) := by decide +kernel
theorem d_ML_run_33 : decode prog_1_method_3_code 33 = .ok (.getfield 54, 3) := by decide +kernel
theorem d_ML_run_36 : decode prog_1_method_3_code 36 = .ok (.invokevirtual 58, 3) := by decide +kernel
theorem d_ML_run_39 : decode prog_1_method_3_code 39 = .ok (.aload_n 0, 1) := by decide +kernel
theorem d_ML_run_40 : decode prog_1_method_3_code 40 = .ok (.getfield 18, 3) := by decide +kernel
theorem d_ML_run_43 : decode prog_1_method_3_code 43 = .ok (.aload_n 0, 1) := by decide +kernel
theorem d_ML_run_44 : decode prog_1_method_3_code 44 = .ok (.getfield 54, 3) := by decide +kernel
theorem d_ML_run_47 : decode prog_1_method_3_code 47 = .ok (.invokevirtual 62, 3) := by decide +kernel
theorem d_ML_run_50 : decode prog_1_method_3_code 50 = .ok (.iconst 0, 1) := by decide +kernel
theorem d_ML_run_51 : decode prog_1_method_3_code 51 = .ok (.istore_n 3, 1) := by decide +kernel
theorem d_ML_run_52 : decode prog_1_method_3_code 52 = .ok (.iload_n 3, 1) := by decide +kernel
theorem d_ML_run_53 : decode prog_1_method_3_code 53 = .ok (.bipush 6, 2) := by decide +kernel
theorem d_ML_run_55 : decode prog_1_method_3_code 55 = .ok (.if_icmp .ge 22, 3) := by decide +kernel
theorem d_ML_run_58 : decode prog_1_method_3_code 58 = .ok (.aload_n 0, 1) := by decide +kernel
theorem d_ML_run_59 : decode prog_1_method_3_code 59 = .ok (.getfield 33, 3) := by decide +kernel
theorem d_ML_run_62 : decode prog_1_method_3_code 62 = .ok (.iload_n 3, 1) := by decide +kernel
theorem d_ML_run_63 : decode prog_1_method_3_code 63 = .ok (.aaload, 1) := by decide +kernel
theorem d_ML_run_64 : decode prog_1_method_3_code 64 = .ok (.aload_n 0, 1) := by decide +kernel
theorem d_ML_run_65 : decode prog_1_method_3_code 65 = .ok (.getfield 54, 3) := by decide +kernel
theorem d_ML_run_68 : decode prog_1_method_3_code 68 = .ok (.invokevirtual 65, 3) := by decide +kernel
theorem d_ML_run_71 : decode prog_1_method_3_code 71 = .ok (.iinc 3 1, 3) := by decide +kernel
theorem d_ML_run_74 : decode prog_1_method_3_code 74 = .ok (.goto (-22), 3) := by decide +kernel
theorem d_ML_run_77 : decode prog_1_method_3_code 77 = .ok (.iconst 0, 1) := by decide +kernel
theorem d_ML_run_78 : decode prog_1_method_3_code 78 = .ok (.istore_n 3, 1) := by decide +kernel
theorem d_ML_run_79 : decode prog_1_method_3_code 79 = .ok (.iload_n 3, 1) := by decide +kernel
theorem d_ML_run_80 : decode prog_1_method_3_code 80 = .ok (.bipush 6, 2) := by decide +kernel
theorem d_ML_run_82 : decode prog_1_method_3_code 82 = .ok (.if_icmp .ge 25, 3) := by decide +kernel
theorem d_ML_run_85 : decode prog_1_method_3_code 85 = .ok (.aload_n 0, 1) := by decide +kernel
theorem d_ML_run_86 : decode prog_1_method_3_code 86 = .ok (.getfield 33, 3) := by decide +kernel
theorem d_ML_run_89 : decode prog_1_method_3_code 89 = .ok (.iload_n 3, 1) := by decide +kernel
theorem d_ML_run_90 : decode prog_1_method_3_code 90 = .ok (.aaload, 1) := by decide +kernel
theorem d_ML_run_91 : decode prog_1_method_3_code 91 = .ok (.getfield 44, 3) := by decide +kernel
theorem d_ML_run_94 : decode prog_1_method_3_code 94 = .ok (.aload_n 0, 1) := by decide +kernel
theorem d_ML_run_95 : decode prog_1_method_3_code 95 = .ok (.getfield 54, 3) := by decide +kernel
theorem d_ML_run_98 : decode prog_1_method_3_code 98 = .ok (.invokevirtual 68, 3) := by decide +kernel
theorem d_ML_run_101 : decode prog_1_method_3_code 101 = .ok (.iinc 3 1, 3) := by decide +kernel
theorem d_ML_run_104 : decode prog_1_method_3_code 104 = .ok (.goto (-25), 3) := by decide +kernel
theorem d_ML_run_107 : decode prog_1_method_3_code 107 = .ok (.iinc 2 1, 3) := by decide +kernel
theorem d_ML_run_110 : decode prog_1_method_3_code 110 = .ok (.goto (-97), 3) := by decide +kernel
theorem d_ML_run_113 : decode prog_1_method_3_code 113 = .ok (.aload_n 0, 1) := by decide +kernel
theorem d_ML_run_114 : decode prog_1_method_3_code 114 = .ok (.getfield 54, 3) := by decide +kernel
theorem d_ML_run_117 : decode prog_1_method_3_code 117 = .ok (.ireturn, 1) := by decide +kernel
theorem d_Mo_append_0 : decode prog_12_method_9_code 0 = .ok (.iconst 4, 1) := by decide +kernel
theorem d_Mo_append_1 : decode prog_12_method_9_code 1 = .ok (.iload_n 1, 1) := by decide +kernel
theorem d_Mo_append_2 : decode prog_12_method_9_code 2 = .ok (.imul, 1) := by decide +kernel
theorem d_Mo_append_3 : decode prog_12_method_9_code 3 = .ok (.aload_n 0, 1) := by decide +kernel
theorem d_Mo_append_4 : decode prog_12_method_9_code 4 = .ok (.getfield 59, 3) := by decide +kernel
theorem d_Mo_append_7 : decode prog_12_method_9_code 7 = .ok (.iload_n 1, 1) := by decide +kernel
theorem d_Mo_append_8 : decode prog_12_method_9_code 8 = .ok (.iaload, 1) := by decide +kernel
theorem d_Mo_append_9 : decode prog_12_method_9_code 9 = .ok (.iadd, 1) := by decide +kernel
theorem d_Mo_append_10 : decode prog_12_method_9_code 10 = .ok (.istore 4, 2) := by decide +kernel
theorem d_Mo_append_12 : decode prog_12_method_9_code 12 = .ok (.aload_n 0, 1) := by decide +kernel
theorem d_Mo_append_13 : decode prog_12_method_9_code 13 = .ok (.getfield 50, 3) := by decide +kernel
theorem d_Mo_append_16 : decode prog_12_method_9_code 16 = .ok (.iload 4, 2) := by decide +kernel
theorem d_Mo_append_18 : decode prog_12_method_9_code 18 = .ok (.iload_n 2, 1) := by decide +kernel
theorem d_Mo_append_19 : decode prog_12_method_9_code 19 = .ok (.iastore, 1) := by decide +kernel
theorem d_Mo_append_20 : decode prog_12_method_9_code 20 = .ok (.aload_n 0, 1) := by decide +kernel
theorem d_Mo_append_21 : decode prog_12_method_9_code 21 = .ok (.getfield 53, 3) := by decide +kernel
theorem d_Mo_append_24 : decode prog_12_method_9_code 24 = .ok (.iload 4, 2) := by decide +kernel
theorem d_Mo_append_26 : decode prog_12_method_9_code 26 = .ok (.iload_n 3, 1) := by decide +kernel
theorem d_Mo_append_27 : decode prog_12_method_9_code 27 = .ok (.iastore, 1) := by decide +kernel
theorem d_Mo_append_28 : decode prog_12_method_9_code 28 = .ok (.aload_n 0, 1) := by decide +kernel
theorem d_Mo_append_29 : decode prog_12_method_9_code 29 = .ok (.getfield 56, 3) := by decide +kernel
theorem d_Mo_append_32 : decode prog_12_method_9_code 32 = .ok (.iload 4, 2) := by decide +kernel
theorem d_Mo_append_34 : decode prog_12_method_9_code 34 = .ok (.aload_n 0, 1) := by decide +kernel
theorem d_Mo_append_35 : decode prog_12_method_9_code 35 = .ok (.getfield 130, 3) := by decide +kernel
theorem d_Mo_append_38 : decode prog_12_method_9_code 38 = .ok (.iastore, 1) := by decide +kernel
theorem d_Mo_append_39 : decode prog_12_method_9_code 39 = .ok (.aload_n 0, 1) := by decide +kernel
theorem d_Mo_append_40 : decode prog_12_method_9_code 40 = .ok (.getfield 59, 3) := by decide +kernel
theorem d_Mo_append_43 : decode prog_12_method_9_code 43 = .ok (.iload_n 1, 1) := by decide +kernel
theorem d_Mo_append_44 : decode prog_12_method_9_code 44 = .ok (.dup2, 1) := by decide +kernel
theorem d_Mo_append_45 : decode prog_12_method_9_code 45 = .ok (.iaload, 1) := by decide +kernel
theorem d_Mo_append_46 : decode prog_12_method_9_code 46 = .ok (.iconst 1, 1) := by decide +kernel
theorem d_Mo_append_47 : decode prog_12_method_9_code 47 = .ok (.iadd, 1) := by decide +kernel
theorem d_Mo_append_48 : decode prog_12_method_9_code 48 = .ok (.iastore, 1) := by decide +kernel
theorem d_Mo_append_49 : decode prog_12_method_9_code 49 = .ok (.return_, 1) := by decide +kernel
theorem d_Mo_sizeOf_0 : decode prog_12_method_5_code 0 = .ok (.aload_n 0, 1) := by decide +kernel
theorem d_Mo_sizeOf_1 : decode prog_12_method_5_code 1 = .ok (.getfield 13, 3) := by decide +kernel
theorem d_Mo_sizeOf_4 : decode prog_12_method_5_code 4 = .ok (.iload_n 1, 1) := by decide +kernel
theorem d_Mo_sizeOf_5 : decode prog_12_method_5_code 5 = .ok (.iaload, 1) := by decide +kernel
theorem d_Mo_sizeOf_6 : decode prog_12_method_5_code 6 = .ok (.iconst 3, 1) := by decide +kernel
theorem d_Mo_sizeOf_7 : decode prog_12_method_5_code 7 = .ok (.if_icmp .eq 25, 3) := by decide +kernel
theorem d_Mo_sizeOf_10 : decode prog_12_method_5_code 10 = .ok (.aload_n 0, 1) := by decide +kernel
theorem d_Mo_sizeOf_11 : decode prog_12_method_5_code 11 = .ok (.getfield 13, 3) := by decide +kernel
theorem d_Mo_sizeOf_14 : decode prog_12_method_5_code 14 = .ok (.iload_n 1, 1) := by decide +kernel
theorem d_Mo_sizeOf_15 : decode prog_12_method_5_code 15 = .ok (.iaload, 1) := by decide +kernel
theorem d_Mo_sizeOf_16 : decode prog_12_method_5_code 16 = .ok (.bipush 8, 2) := by decide +kernel
theorem d_Mo_sizeOf_18 : decode prog_12_method_5_code 18 = .ok (.if_icmp .eq 14, 3) := by decide +kernel
theorem d_Mo_sizeOf_21 : decode prog_12_method_5_code 21 = .ok (.aload_n 0, 1) := by decide +kernel
theorem d_Mo_sizeOf_22 : decode prog_12_method_5_code 22 = .ok (.getfield 13, 3) := by decide +kernel
theorem d_Mo_sizeOf_25 : decode prog_12_method_5_code 25 = .ok (.iload_n 1, 1) := by decide +kernel
theorem d_Mo_sizeOf_26 : decode prog_12_method_5_code 26 = .ok (.iaload, 1) := by decide +kernel
theorem d_Mo_sizeOf_27 : decode prog_12_method_5_code 27 = .ok (.bipush 10, 2) := by decide +kernel
theorem d_Mo_sizeOf_29 : decode prog_12_method_5_code 29 = .ok (.if_icmp .ne 10, 3) := by decide +kernel
theorem d_Mo_sizeOf_32 : decode prog_12_method_5_code 32 = .ok (.aload_n 0, 1) := by decide +kernel
theorem d_Mo_sizeOf_33 : decode prog_12_method_5_code 33 = .ok (.getfield 120, 3) := by decide +kernel
theorem d_Mo_sizeOf_36 : decode prog_12_method_5_code 36 = .ok (.goto 4, 3) := by decide +kernel
