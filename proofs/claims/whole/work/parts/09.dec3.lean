theorem d_Mo_sizeOf_39 : decode prog_12_method_5_code 39 = .ok (.iconst 1, 1) := by decide +kernel
theorem d_Mo_sizeOf_40 : decode prog_12_method_5_code 40 = .ok (.ireturn, 1) := by decide +kernel
theorem d_Mo_inject_0 : decode prog_12_method_11_code 0 = .ok (.iconst 3, 1) := by decide +kernel
theorem d_Mo_inject_1 : decode prog_12_method_11_code 1 = .ok (.iload_n 1, 1) := by decide +kernel
theorem d_Mo_inject_2 : decode prog_12_method_11_code 2 = .ok (.imul, 1) := by decide +kernel
theorem d_Mo_inject_3 : decode prog_12_method_11_code 3 = .ok (.iload_n 2, 1) := by decide +kernel
theorem d_Mo_inject_4 : decode prog_12_method_11_code 4 = .ok (.iadd, 1) := by decide +kernel
theorem d_Mo_inject_5 : decode prog_12_method_11_code 5 = .ok (.istore_n 3, 1) := by decide +kernel
theorem d_Mo_inject_6 : decode prog_12_method_11_code 6 = .ok (.bipush 15, 2) := by decide +kernel
theorem d_Mo_inject_8 : decode prog_12_method_11_code 8 = .ok (.iload_n 1, 1) := by decide +kernel
theorem d_Mo_inject_9 : decode prog_12_method_11_code 9 = .ok (.imul, 1) := by decide +kernel
theorem d_Mo_inject_10 : decode prog_12_method_11_code 10 = .ok (.bipush 12, 2) := by decide +kernel
theorem d_Mo_inject_12 : decode prog_12_method_11_code 12 = .ok (.iadd, 1) := by decide +kernel
theorem d_Mo_inject_13 : decode prog_12_method_11_code 13 = .ok (.iload_n 2, 1) := by decide +kernel
theorem d_Mo_inject_14 : decode prog_12_method_11_code 14 = .ok (.iadd, 1) := by decide +kernel
theorem d_Mo_inject_15 : decode prog_12_method_11_code 15 = .ok (.istore 4, 2) := by decide +kernel
theorem d_Mo_inject_17 : decode prog_12_method_11_code 17 = .ok (.aload_n 0, 1) := by decide +kernel
theorem d_Mo_inject_18 : decode prog_12_method_11_code 18 = .ok (.getfield 38, 3) := by decide +kernel
theorem d_Mo_inject_21 : decode prog_12_method_11_code 21 = .ok (.iload_n 3, 1) := by decide +kernel
theorem d_Mo_inject_22 : decode prog_12_method_11_code 22 = .ok (.iaload, 1) := by decide +kernel
theorem d_Mo_inject_23 : decode prog_12_method_11_code 23 = .ok (.ifCond .eq 17, 3) := by decide +kernel
theorem d_Mo_inject_26 : decode prog_12_method_11_code 26 = .ok (.aload_n 0, 1) := by decide +kernel
theorem d_Mo_inject_27 : decode prog_12_method_11_code 27 = .ok (.getfield 59, 3) := by decide +kernel
theorem d_Mo_inject_30 : decode prog_12_method_11_code 30 = .ok (.iload 4, 2) := by decide +kernel
theorem d_Mo_inject_32 : decode prog_12_method_11_code 32 = .ok (.iaload, 1) := by decide +kernel
theorem d_Mo_inject_33 : decode prog_12_method_11_code 33 = .ok (.aload_n 0, 1) := by decide +kernel
theorem d_Mo_inject_34 : decode prog_12_method_11_code 34 = .ok (.getfield 116, 3) := by decide +kernel
theorem d_Mo_inject_37 : decode prog_12_method_11_code 37 = .ok (.if_icmp .ne 4, 3) := by decide +kernel
theorem d_Mo_inject_40 : decode prog_12_method_11_code 40 = .ok (.return_, 1) := by decide +kernel
theorem d_Mo_inject_41 : decode prog_12_method_11_code 41 = .ok (.aload_n 0, 1) := by decide +kernel
theorem d_Mo_inject_42 : decode prog_12_method_11_code 42 = .ok (.getfield 35, 3) := by decide +kernel
theorem d_Mo_inject_45 : decode prog_12_method_11_code 45 = .ok (.sipush 128, 3) := by decide +kernel
theorem d_Mo_inject_48 : decode prog_12_method_11_code 48 = .ok (.iload_n 3, 1) := by decide +kernel
theorem d_Mo_inject_49 : decode prog_12_method_11_code 49 = .ok (.imul, 1) := by decide +kernel
theorem d_Mo_inject_50 : decode prog_12_method_11_code 50 = .ok (.iaload, 1) := by decide +kernel
theorem d_Mo_inject_51 : decode prog_12_method_11_code 51 = .ok (.istore 5, 2) := by decide +kernel
theorem d_Mo_inject_53 : decode prog_12_method_11_code 53 = .ok (.aload_n 0, 1) := by decide +kernel
theorem d_Mo_inject_54 : decode prog_12_method_11_code 54 = .ok (.iload 4, 2) := by decide +kernel
theorem d_Mo_inject_56 : decode prog_12_method_11_code 56 = .ok (.iload 5, 2) := by decide +kernel
theorem d_Mo_inject_58 : decode prog_12_method_11_code 58 = .ok (.aload_n 0, 1) := by decide +kernel
theorem d_Mo_inject_59 : decode prog_12_method_11_code 59 = .ok (.getfield 41, 3) := by decide +kernel
theorem d_Mo_inject_62 : decode prog_12_method_11_code 62 = .ok (.iload_n 3, 1) := by decide +kernel
theorem d_Mo_inject_63 : decode prog_12_method_11_code 63 = .ok (.iaload, 1) := by decide +kernel
theorem d_Mo_inject_64 : decode prog_12_method_11_code 64 = .ok (.invokevirtual 133, 3) := by decide +kernel
theorem d_Mo_inject_67 : decode prog_12_method_11_code 67 = .ok (.aload_n 0, 1) := by decide +kernel
theorem d_Mo_inject_68 : decode prog_12_method_11_code 68 = .ok (.getfield 41, 3) := by decide +kernel
theorem d_Mo_inject_71 : decode prog_12_method_11_code 71 = .ok (.iload_n 3, 1) := by decide +kernel
theorem d_Mo_inject_72 : decode prog_12_method_11_code 72 = .ok (.dup2, 1) := by decide +kernel
theorem d_Mo_inject_73 : decode prog_12_method_11_code 73 = .ok (.iaload, 1) := by decide +kernel
theorem d_Mo_inject_74 : decode prog_12_method_11_code 74 = .ok (.iconst 1, 1) := by decide +kernel
theorem d_Mo_inject_75 : decode prog_12_method_11_code 75 = .ok (.iadd, 1) := by decide +kernel
theorem d_Mo_inject_76 : decode prog_12_method_11_code 76 = .ok (.iastore, 1) := by decide +kernel
theorem d_Mo_inject_77 : decode prog_12_method_11_code 77 = .ok (.aload_n 0, 1) := by decide +kernel
theorem d_Mo_inject_78 : decode prog_12_method_11_code 78 = .ok (.getfield 41, 3) := by decide +kernel
theorem d_Mo_inject_81 : decode prog_12_method_11_code 81 = .ok (.iload_n 3, 1) := by decide +kernel
theorem d_Mo_inject_82 : decode prog_12_method_11_code 82 = .ok (.iaload, 1) := by decide +kernel
theorem d_Mo_inject_83 : decode prog_12_method_11_code 83 = .ok (.aload_n 0, 1) := by decide +kernel
theorem d_Mo_inject_84 : decode prog_12_method_11_code 84 = .ok (.iload 5, 2) := by decide +kernel
theorem d_Mo_inject_86 : decode prog_12_method_11_code 86 = .ok (.invokevirtual 137, 3) := by decide +kernel
theorem d_Mo_inject_89 : decode prog_12_method_11_code 89 = .ok (.if_icmp .ne 66, 3) := by decide +kernel
theorem d_Mo_inject_92 : decode prog_12_method_11_code 92 = .ok (.aload_n 0, 1) := by decide +kernel
theorem d_Mo_inject_93 : decode prog_12_method_11_code 93 = .ok (.getfield 41, 3) := by decide +kernel
theorem d_Mo_inject_96 : decode prog_12_method_11_code 96 = .ok (.iload_n 3, 1) := by decide +kernel
theorem d_Mo_inject_97 : decode prog_12_method_11_code 97 = .ok (.iconst 0, 1) := by decide +kernel
theorem d_Mo_inject_98 : decode prog_12_method_11_code 98 = .ok (.iastore, 1) := by decide +kernel
theorem d_Mo_inject_99 : decode prog_12_method_11_code 99 = .ok (.aload_n 0, 1) := by decide +kernel
theorem d_Mo_inject_100 : decode prog_12_method_11_code 100 = .ok (.getfield 38, 3) := by decide +kernel
theorem d_Mo_inject_103 : decode prog_12_method_11_code 103 = .ok (.iload_n 3, 1) := by decide +kernel
theorem d_Mo_inject_104 : decode prog_12_method_11_code 104 = .ok (.dup2, 1) := by decide +kernel
theorem d_Mo_inject_105 : decode prog_12_method_11_code 105 = .ok (.iaload, 1) := by decide +kernel
theorem d_Mo_inject_106 : decode prog_12_method_11_code 106 = .ok (.iconst 1, 1) := by decide +kernel
theorem d_Mo_inject_107 : decode prog_12_method_11_code 107 = .ok (.isub, 1) := by decide +kernel
theorem d_Mo_inject_108 : decode prog_12_method_11_code 108 = .ok (.iastore, 1) := by decide +kernel
theorem d_Mo_inject_109 : decode prog_12_method_11_code 109 = .ok (.sipush 128, 3) := by decide +kernel
theorem d_Mo_inject_112 : decode prog_12_method_11_code 112 = .ok (.iload_n 3, 1) := by decide +kernel
theorem d_Mo_inject_113 : decode prog_12_method_11_code 113 = .ok (.imul, 1) := by decide +kernel
theorem d_Mo_inject_114 : decode prog_12_method_11_code 114 = .ok (.istore 6, 2) := by decide +kernel
theorem d_Mo_inject_116 : decode prog_12_method_11_code 116 = .ok (.iload 6, 2) := by decide +kernel
theorem d_Mo_inject_118 : decode prog_12_method_11_code 118 = .ok (.sipush 128, 3) := by decide +kernel
theorem d_Mo_inject_121 : decode prog_12_method_11_code 121 = .ok (.iload_n 3, 1) := by decide +kernel
theorem d_Mo_inject_122 : decode prog_12_method_11_code 122 = .ok (.imul, 1) := by decide +kernel
theorem d_Mo_inject_123 : decode prog_12_method_11_code 123 = .ok (.aload_n 0, 1) := by decide +kernel
theorem d_Mo_inject_124 : decode prog_12_method_11_code 124 = .ok (.getfield 38, 3) := by decide +kernel
theorem d_Mo_inject_127 : decode prog_12_method_11_code 127 = .ok (.iload_n 3, 1) := by decide +kernel
theorem d_Mo_inject_128 : decode prog_12_method_11_code 128 = .ok (.iaload, 1) := by decide +kernel
theorem d_Mo_inject_129 : decode prog_12_method_11_code 129 = .ok (.iadd, 1) := by decide +kernel
theorem d_Mo_inject_130 : decode prog_12_method_11_code 130 = .ok (.if_icmp .ge 25, 3) := by decide +kernel
theorem d_Mo_inject_133 : decode prog_12_method_11_code 133 = .ok (.aload_n 0, 1) := by decide +kernel
theorem d_Mo_inject_134 : decode prog_12_method_11_code 134 = .ok (.getfield 35, 3) := by decide +kernel
theorem d_Mo_inject_137 : decode prog_12_method_11_code 137 = .ok (.iload 6, 2) := by decide +kernel
theorem d_Mo_inject_139 : decode prog_12_method_11_code 139 = .ok (.aload_n 0, 1) := by decide +kernel
theorem d_Mo_inject_140 : decode prog_12_method_11_code 140 = .ok (.getfield 35, 3) := by decide +kernel
theorem d_Mo_inject_143 : decode prog_12_method_11_code 143 = .ok (.iload 6, 2) := by decide +kernel
theorem d_Mo_inject_145 : decode prog_12_method_11_code 145 = .ok (.iconst 1, 1) := by decide +kernel
theorem d_Mo_inject_146 : decode prog_12_method_11_code 146 = .ok (.iadd, 1) := by decide +kernel
theorem d_Mo_inject_147 : decode prog_12_method_11_code 147 = .ok (.iaload, 1) := by decide +kernel
theorem d_Mo_inject_148 : decode prog_12_method_11_code 148 = .ok (.iastore, 1) := by decide +kernel
theorem d_Mo_inject_149 : decode prog_12_method_11_code 149 = .ok (.iinc 6 1, 3) := by decide +kernel
theorem d_Mo_inject_152 : decode prog_12_method_11_code 152 = .ok (.goto (-36), 3) := by decide +kernel
theorem d_Mo_inject_155 : decode prog_12_method_11_code 155 = .ok (.return_, 1) := by decide +kernel
theorem d_Mo_way_0 : decode prog_12_method_7_code 0 = .ok (.iload_n 1, 1) := by decide +kernel
theorem d_Mo_way_1 : decode prog_12_method_7_code 1 = .ok (.iconst 3, 1) := by decide +kernel
theorem d_Mo_way_2 : decode prog_12_method_7_code 2 = .ok (.irem, 1) := by decide +kernel
theorem d_Mo_way_3 : decode prog_12_method_7_code 3 = .ok (.iload_n 0, 1) := by decide +kernel
theorem d_Mo_way_4 : decode prog_12_method_7_code 4 = .ok (.iconst 3, 1) := by decide +kernel
theorem d_Mo_way_5 : decode prog_12_method_7_code 5 = .ok (.irem, 1) := by decide +kernel
theorem d_Mo_way_6 : decode prog_12_method_7_code 6 = .ok (.isub, 1) := by decide +kernel
theorem d_Mo_way_7 : decode prog_12_method_7_code 7 = .ok (.istore_n 2, 1) := by decide +kernel
theorem d_Mo_way_8 : decode prog_12_method_7_code 8 = .ok (.iload_n 1, 1) := by decide +kernel
theorem d_Mo_way_9 : decode prog_12_method_7_code 9 = .ok (.iconst 3, 1) := by decide +kernel
theorem d_Mo_way_10 : decode prog_12_method_7_code 10 = .ok (.idiv, 1) := by decide +kernel
theorem d_Mo_way_11 : decode prog_12_method_7_code 11 = .ok (.iload_n 0, 1) := by decide +kernel
theorem d_Mo_way_12 : decode prog_12_method_7_code 12 = .ok (.iconst 3, 1) := by decide +kernel
theorem d_Mo_way_13 : decode prog_12_method_7_code 13 = .ok (.idiv, 1) := by decide +kernel
theorem d_Mo_way_14 : decode prog_12_method_7_code 14 = .ok (.isub, 1) := by decide +kernel
theorem d_Mo_way_15 : decode prog_12_method_7_code 15 = .ok (.istore_n 3, 1) := by decide +kernel
theorem d_Mo_way_16 : decode prog_12_method_7_code 16 = .ok (.iload_n 2, 1) := by decide +kernel
theorem d_Mo_way_17 : decode prog_12_method_7_code 17 = .ok (.ifCond .le 7, 3) := by decide +kernel
theorem d_Mo_way_20 : decode prog_12_method_7_code 20 = .ok (.iconst 1, 1) := by decide +kernel
theorem d_Mo_way_21 : decode prog_12_method_7_code 21 = .ok (.goto 28, 3) := by decide +kernel
theorem d_Mo_way_24 : decode prog_12_method_7_code 24 = .ok (.iload_n 2, 1) := by decide +kernel
theorem d_Mo_way_25 : decode prog_12_method_7_code 25 = .ok (.ifCond .ge 7, 3) := by decide +kernel
theorem d_Mo_way_28 : decode prog_12_method_7_code 28 = .ok (.iconst 3, 1) := by decide +kernel
theorem d_Mo_way_29 : decode prog_12_method_7_code 29 = .ok (.goto 20, 3) := by decide +kernel
theorem d_Mo_way_32 : decode prog_12_method_7_code 32 = .ok (.iload_n 3, 1) := by decide +kernel
theorem d_Mo_way_33 : decode prog_12_method_7_code 33 = .ok (.ifCond .le 7, 3) := by decide +kernel
theorem d_Mo_way_36 : decode prog_12_method_7_code 36 = .ok (.iconst 2, 1) := by decide +kernel
theorem d_Mo_way_37 : decode prog_12_method_7_code 37 = .ok (.goto 12, 3) := by decide +kernel
theorem d_Mo_way_40 : decode prog_12_method_7_code 40 = .ok (.iload_n 3, 1) := by decide +kernel
theorem d_Mo_way_41 : decode prog_12_method_7_code 41 = .ok (.ifCond .ge 7, 3) := by decide +kernel
theorem d_Mo_way_44 : decode prog_12_method_7_code 44 = .ok (.iconst 0, 1) := by decide +kernel
theorem d_Mo_way_45 : decode prog_12_method_7_code 45 = .ok (.goto 4, 3) := by decide +kernel
theorem d_Mo_way_48 : decode prog_12_method_7_code 48 = .ok (.iconst 4, 1) := by decide +kernel
theorem d_Mo_way_49 : decode prog_12_method_7_code 49 = .ok (.ireturn, 1) := by decide +kernel
theorem d_Mo_served_0 : decode prog_12_method_12_code 0 = .ok (.bipush 15, 2) := by decide +kernel
theorem d_Mo_served_2 : decode prog_12_method_12_code 2 = .ok (.iload_n 1, 1) := by decide +kernel
theorem d_Mo_served_3 : decode prog_12_method_12_code 3 = .ok (.imul, 1) := by decide +kernel
theorem d_Mo_served_4 : decode prog_12_method_12_code 4 = .ok (.iconst 3, 1) := by decide +kernel
theorem d_Mo_served_5 : decode prog_12_method_12_code 5 = .ok (.iload_n 2, 1) := by decide +kernel
theorem d_Mo_served_6 : decode prog_12_method_12_code 6 = .ok (.imul, 1) := by decide +kernel
theorem d_Mo_served_7 : decode prog_12_method_12_code 7 = .ok (.iadd, 1) := by decide +kernel
theorem d_Mo_served_8 : decode prog_12_method_12_code 8 = .ok (.iload_n 3, 1) := by decide +kernel
theorem d_Mo_served_9 : decode prog_12_method_12_code 9 = .ok (.iadd, 1) := by decide +kernel
theorem d_Mo_served_10 : decode prog_12_method_12_code 10 = .ok (.istore 4, 2) := by decide +kernel
theorem d_Mo_served_12 : decode prog_12_method_12_code 12 = .ok (.aload_n 0, 1) := by decide +kernel
theorem d_Mo_served_13 : decode prog_12_method_12_code 13 = .ok (.getfield 62, 3) := by decide +kernel
theorem d_Mo_served_16 : decode prog_12_method_12_code 16 = .ok (.iload 4, 2) := by decide +kernel
theorem d_Mo_served_18 : decode prog_12_method_12_code 18 = .ok (.iaload, 1) := by decide +kernel
theorem d_Mo_served_19 : decode prog_12_method_12_code 19 = .ok (.ifCond .lt 11, 3) := by decide +kernel
theorem d_Mo_served_22 : decode prog_12_method_12_code 22 = .ok (.aload_n 0, 1) := by decide +kernel
theorem d_Mo_served_23 : decode prog_12_method_12_code 23 = .ok (.getfield 62, 3) := by decide +kernel
theorem d_Mo_served_26 : decode prog_12_method_12_code 26 = .ok (.iload 4, 2) := by decide +kernel
theorem d_Mo_served_28 : decode prog_12_method_12_code 28 = .ok (.iaload, 1) := by decide +kernel
theorem d_Mo_served_29 : decode prog_12_method_12_code 29 = .ok (.ireturn, 1) := by decide +kernel
theorem d_Mo_served_30 : decode prog_12_method_12_code 30 = .ok (.iconst 1, 1) := by decide +kernel
theorem d_Mo_served_31 : decode prog_12_method_12_code 31 = .ok (.istore 5, 2) := by decide +kernel
theorem d_Mo_served_33 : decode prog_12_method_12_code 33 = .ok (.iload 5, 2) := by decide +kernel
theorem d_Mo_served_35 : decode prog_12_method_12_code 35 = .ok (.iconst 5, 1) := by decide +kernel
theorem d_Mo_served_36 : decode prog_12_method_12_code 36 = .ok (.if_icmp .gt 85, 3) := by decide +kernel
theorem d_Mo_served_39 : decode prog_12_method_12_code 39 = .ok (.aload_n 0, 1) := by decide +kernel
theorem d_Mo_served_40 : decode prog_12_method_12_code 40 = .ok (.getfield 65, 3) := by decide +kernel
theorem d_Mo_served_43 : decode prog_12_method_12_code 43 = .ok (.iload 4, 2) := by decide +kernel
theorem d_Mo_served_45 : decode prog_12_method_12_code 45 = .ok (.iaload, 1) := by decide +kernel
theorem d_Mo_served_46 : decode prog_12_method_12_code 46 = .ok (.iload 5, 2) := by decide +kernel
theorem d_Mo_served_48 : decode prog_12_method_12_code 48 = .ok (.iadd, 1) := by decide +kernel
theorem d_Mo_served_49 : decode prog_12_method_12_code 49 = .ok (.iconst 5, 1) := by decide +kernel
theorem d_Mo_served_50 : decode prog_12_method_12_code 50 = .ok (.irem, 1) := by decide +kernel
theorem d_Mo_served_51 : decode prog_12_method_12_code 51 = .ok (.istore 6, 2) := by decide +kernel
theorem d_Mo_served_53 : decode prog_12_method_12_code 53 = .ok (.bipush 15, 2) := by decide +kernel
theorem d_Mo_served_55 : decode prog_12_method_12_code 55 = .ok (.iload_n 1, 1) := by decide +kernel
theorem d_Mo_served_56 : decode prog_12_method_12_code 56 = .ok (.imul, 1) := by decide +kernel
theorem d_Mo_served_57 : decode prog_12_method_12_code 57 = .ok (.iconst 3, 1) := by decide +kernel
theorem d_Mo_served_58 : decode prog_12_method_12_code 58 = .ok (.iload 6, 2) := by decide +kernel
theorem d_Mo_served_60 : decode prog_12_method_12_code 60 = .ok (.imul, 1) := by decide +kernel
theorem d_Mo_served_61 : decode prog_12_method_12_code 61 = .ok (.iadd, 1) := by decide +kernel
theorem d_Mo_served_62 : decode prog_12_method_12_code 62 = .ok (.iload_n 3, 1) := by decide +kernel
theorem d_Mo_served_63 : decode prog_12_method_12_code 63 = .ok (.iadd, 1) := by decide +kernel
theorem d_Mo_served_64 : decode prog_12_method_12_code 64 = .ok (.istore 7, 2) := by decide +kernel
theorem d_Mo_served_66 : decode prog_12_method_12_code 66 = .ok (.iconst 4, 1) := by decide +kernel
theorem d_Mo_served_67 : decode prog_12_method_12_code 67 = .ok (.iload 7, 2) := by decide +kernel
theorem d_Mo_served_69 : decode prog_12_method_12_code 69 = .ok (.imul, 1) := by decide +kernel
theorem d_Mo_served_70 : decode prog_12_method_12_code 70 = .ok (.istore 8, 2) := by decide +kernel
theorem d_Mo_served_72 : decode prog_12_method_12_code 72 = .ok (.aload_n 0, 1) := by decide +kernel
theorem d_Mo_served_73 : decode prog_12_method_12_code 73 = .ok (.getfield 59, 3) := by decide +kernel
theorem d_Mo_served_76 : decode prog_12_method_12_code 76 = .ok (.iload 7, 2) := by decide +kernel
theorem d_Mo_served_78 : decode prog_12_method_12_code 78 = .ok (.iaload, 1) := by decide +kernel
theorem d_Mo_served_79 : decode prog_12_method_12_code 79 = .ok (.ifCond .le 36, 3) := by decide +kernel
theorem d_Mo_served_82 : decode prog_12_method_12_code 82 = .ok (.aload_n 0, 1) := by decide +kernel
theorem d_Mo_served_83 : decode prog_12_method_12_code 83 = .ok (.getfield 53, 3) := by decide +kernel
theorem d_Mo_served_86 : decode prog_12_method_12_code 86 = .ok (.iload 8, 2) := by decide +kernel
theorem d_Mo_served_88 : decode prog_12_method_12_code 88 = .ok (.iaload, 1) := by decide +kernel
theorem d_Mo_served_89 : decode prog_12_method_12_code 89 = .ok (.ifCond .ne 26, 3) := by decide +kernel
theorem d_Mo_served_92 : decode prog_12_method_12_code 92 = .ok (.iload_n 1, 1) := by decide +kernel
theorem d_Mo_served_93 : decode prog_12_method_12_code 93 = .ok (.aload_n 0, 1) := by decide +kernel
theorem d_Mo_served_94 : decode prog_12_method_12_code 94 = .ok (.getfield 20, 3) := by decide +kernel
theorem d_Mo_served_97 : decode prog_12_method_12_code 97 = .ok (.aload_n 0, 1) := by decide +kernel
theorem d_Mo_served_98 : decode prog_12_method_12_code 98 = .ok (.getfield 50, 3) := by decide +kernel
theorem d_Mo_served_101 : decode prog_12_method_12_code 101 = .ok (.iload 8, 2) := by decide +kernel
theorem d_Mo_served_103 : decode prog_12_method_12_code 103 = .ok (.iaload, 1) := by decide +kernel
theorem d_Mo_served_104 : decode prog_12_method_12_code 104 = .ok (.iaload, 1) := by decide +kernel
theorem d_Mo_served_105 : decode prog_12_method_12_code 105 = .ok (.invokestatic 140, 3) := by decide +kernel
theorem d_Mo_served_108 : decode prog_12_method_12_code 108 = .ok (.iload_n 2, 1) := by decide +kernel
theorem d_Mo_served_109 : decode prog_12_method_12_code 109 = .ok (.if_icmp .ne 6, 3) := by decide +kernel
theorem d_Mo_served_112 : decode prog_12_method_12_code 112 = .ok (.iload 6, 2) := by decide +kernel
theorem d_Mo_served_114 : decode prog_12_method_12_code 114 = .ok (.ireturn, 1) := by decide +kernel
theorem d_Mo_served_115 : decode prog_12_method_12_code 115 = .ok (.iinc 5 1, 3) := by decide +kernel
theorem d_Mo_served_118 : decode prog_12_method_12_code 118 = .ok (.goto (-85), 3) := by decide +kernel
theorem d_Mo_served_121 : decode prog_12_method_12_code 121 = .ok (.iconst (-1), 1) := by decide +kernel
theorem d_Mo_served_122 : decode prog_12_method_12_code 122 = .ok (.ireturn, 1) := by decide +kernel
theorem d_Mo_neighbour_0 : decode prog_12_method_8_code 0 = .ok (.iload_n 1, 1) := by decide +kernel
theorem d_Mo_neighbour_1 : decode prog_12_method_8_code 1 = .ok (.ifCond .ne 9, 3) := by decide +kernel
theorem d_Mo_neighbour_4 : decode prog_12_method_8_code 4 = .ok (.iload_n 0, 1) := by decide +kernel
theorem d_Mo_neighbour_5 : decode prog_12_method_8_code 5 = .ok (.iconst 3, 1) := by decide +kernel
theorem d_Mo_neighbour_6 : decode prog_12_method_8_code 6 = .ok (.isub, 1) := by decide +kernel
theorem d_Mo_neighbour_7 : decode prog_12_method_8_code 7 = .ok (.goto 28, 3) := by decide +kernel
theorem d_Mo_neighbour_10 : decode prog_12_method_8_code 10 = .ok (.iload_n 1, 1) := by decide +kernel
theorem d_Mo_neighbour_11 : decode prog_12_method_8_code 11 = .ok (.iconst 1, 1) := by decide +kernel
theorem d_Mo_neighbour_12 : decode prog_12_method_8_code 12 = .ok (.if_icmp .ne 9, 3) := by decide +kernel
theorem d_Mo_neighbour_15 : decode prog_12_method_8_code 15 = .ok (.iload_n 0, 1) := by decide +kernel
theorem d_Mo_neighbour_16 : decode prog_12_method_8_code 16 = .ok (.iconst 1, 1) := by decide +kernel
theorem d_Mo_neighbour_17 : decode prog_12_method_8_code 17 = .ok (.iadd, 1) := by decide +kernel
theorem d_Mo_neighbour_18 : decode prog_12_method_8_code 18 = .ok (.goto 17, 3) := by decide +kernel
theorem d_Mo_neighbour_21 : decode prog_12_method_8_code 21 = .ok (.iload_n 1, 1) := by decide +kernel
theorem d_Mo_neighbour_22 : decode prog_12_method_8_code 22 = .ok (.iconst 2, 1) := by decide +kernel
theorem d_Mo_neighbour_23 : decode prog_12_method_8_code 23 = .ok (.if_icmp .ne 9, 3) := by decide +kernel
theorem d_Mo_neighbour_26 : decode prog_12_method_8_code 26 = .ok (.iload_n 0, 1) := by decide +kernel
theorem d_Mo_neighbour_27 : decode prog_12_method_8_code 27 = .ok (.iconst 3, 1) := by decide +kernel
theorem d_Mo_neighbour_28 : decode prog_12_method_8_code 28 = .ok (.iadd, 1) := by decide +kernel
theorem d_Mo_neighbour_29 : decode prog_12_method_8_code 29 = .ok (.goto 6, 3) := by decide +kernel
theorem d_Mo_neighbour_32 : decode prog_12_method_8_code 32 = .ok (.iload_n 0, 1) := by decide +kernel
theorem d_Mo_neighbour_33 : decode prog_12_method_8_code 33 = .ok (.iconst 1, 1) := by decide +kernel
theorem d_Mo_neighbour_34 : decode prog_12_method_8_code 34 = .ok (.isub, 1) := by decide +kernel
theorem d_Mo_neighbour_35 : decode prog_12_method_8_code 35 = .ok (.ireturn, 1) := by decide +kernel
theorem d_Mo_removeFront_0 : decode prog_12_method_10_code 0 = .ok (.aload_n 0, 1) := by decide +kernel
theorem d_Mo_removeFront_1 : decode prog_12_method_10_code 1 = .ok (.getfield 59, 3) := by decide +kernel
theorem d_Mo_removeFront_4 : decode prog_12_method_10_code 4 = .ok (.iload_n 1, 1) := by decide +kernel
theorem d_Mo_removeFront_5 : decode prog_12_method_10_code 5 = .ok (.dup2, 1) := by decide +kernel
theorem d_Mo_removeFront_6 : decode prog_12_method_10_code 6 = .ok (.iaload, 1) := by decide +kernel
theorem d_Mo_removeFront_7 : decode prog_12_method_10_code 7 = .ok (.iconst 1, 1) := by decide +kernel
theorem d_Mo_removeFront_8 : decode prog_12_method_10_code 8 = .ok (.isub, 1) := by decide +kernel
theorem d_Mo_removeFront_9 : decode prog_12_method_10_code 9 = .ok (.iastore, 1) := by decide +kernel
theorem d_Mo_removeFront_10 : decode prog_12_method_10_code 10 = .ok (.iconst 4, 1) := by decide +kernel
theorem d_Mo_removeFront_11 : decode prog_12_method_10_code 11 = .ok (.iload_n 1, 1) := by decide +kernel
theorem d_Mo_removeFront_12 : decode prog_12_method_10_code 12 = .ok (.imul, 1) := by decide +kernel
theorem d_Mo_removeFront_13 : decode prog_12_method_10_code 13 = .ok (.istore_n 2, 1) := by decide +kernel
theorem d_Mo_removeFront_14 : decode prog_12_method_10_code 14 = .ok (.iload_n 2, 1) := by decide +kernel
theorem d_Mo_removeFront_15 : decode prog_12_method_10_code 15 = .ok (.iconst 4, 1) := by decide +kernel
theorem d_Mo_removeFront_16 : decode prog_12_method_10_code 16 = .ok (.iload_n 1, 1) := by decide +kernel
theorem d_Mo_removeFront_17 : decode prog_12_method_10_code 17 = .ok (.imul, 1) := by decide +kernel
theorem d_Mo_removeFront_18 : decode prog_12_method_10_code 18 = .ok (.aload_n 0, 1) := by decide +kernel
theorem d_Mo_removeFront_19 : decode prog_12_method_10_code 19 = .ok (.getfield 59, 3) := by decide +kernel
theorem d_Mo_removeFront_22 : decode prog_12_method_10_code 22 = .ok (.iload_n 1, 1) := by decide +kernel
theorem d_Mo_removeFront_23 : decode prog_12_method_10_code 23 = .ok (.iaload, 1) := by decide +kernel
theorem d_Mo_removeFront_24 : decode prog_12_method_10_code 24 = .ok (.iadd, 1) := by decide +kernel
theorem d_Mo_removeFront_25 : decode prog_12_method_10_code 25 = .ok (.if_icmp .ge 51, 3) := by decide +kernel
theorem d_Mo_removeFront_28 : decode prog_12_method_10_code 28 = .ok (.aload_n 0, 1) := by decide +kernel
theorem d_Mo_removeFront_29 : decode prog_12_method_10_code 29 = .ok (.getfield 50, 3) := by decide +kernel
theorem d_Mo_removeFront_32 : decode prog_12_method_10_code 32 = .ok (.iload_n 2, 1) := by decide +kernel
theorem d_Mo_removeFront_33 : decode prog_12_method_10_code 33 = .ok (.aload_n 0, 1) := by decide +kernel
theorem d_Mo_removeFront_34 : decode prog_12_method_10_code 34 = .ok (.getfield 50, 3) := by decide +kernel
theorem d_Mo_removeFront_37 : decode prog_12_method_10_code 37 = .ok (.iload_n 2, 1) := by decide +kernel
theorem d_Mo_removeFront_38 : decode prog_12_method_10_code 38 = .ok (.iconst 1, 1) := by decide +kernel
theorem d_Mo_removeFront_39 : decode prog_12_method_10_code 39 = .ok (.iadd, 1) := by decide +kernel
theorem d_Mo_removeFront_40 : decode prog_12_method_10_code 40 = .ok (.iaload, 1) := by decide +kernel
theorem d_Mo_removeFront_41 : decode prog_12_method_10_code 41 = .ok (.iastore, 1) := by decide +kernel
theorem d_Mo_removeFront_42 : decode prog_12_method_10_code 42 = .ok (.aload_n 0, 1) := by decide +kernel
theorem d_Mo_removeFront_43 : decode prog_12_method_10_code 43 = .ok (.getfield 53, 3) := by decide +kernel
theorem d_Mo_removeFront_46 : decode prog_12_method_10_code 46 = .ok (.iload_n 2, 1) := by decide +kernel
theorem d_Mo_removeFront_47 : decode prog_12_method_10_code 47 = .ok (.aload_n 0, 1) := by decide +kernel
theorem d_Mo_removeFront_48 : decode prog_12_method_10_code 48 = .ok (.getfield 53, 3) := by decide +kernel
theorem d_Mo_removeFront_51 : decode prog_12_method_10_code 51 = .ok (.iload_n 2, 1) := by decide +kernel
theorem d_Mo_removeFront_52 : decode prog_12_method_10_code 52 = .ok (.iconst 1, 1) := by decide +kernel
theorem d_Mo_removeFront_53 : decode prog_12_method_10_code 53 = .ok (.iadd, 1) := by decide +kernel
theorem d_Mo_removeFront_54 : decode prog_12_method_10_code 54 = .ok (.iaload, 1) := by decide +kernel
theorem d_Mo_removeFront_55 : decode prog_12_method_10_code 55 = .ok (.iastore, 1) := by decide +kernel
theorem d_Mo_removeFront_56 : decode prog_12_method_10_code 56 = .ok (.aload_n 0, 1) := by decide +kernel
theorem d_Mo_removeFront_57 : decode prog_12_method_10_code 57 = .ok (.getfield 56, 3) := by decide +kernel
theorem d_Mo_removeFront_60 : decode prog_12_method_10_code 60 = .ok (.iload_n 2, 1) := by decide +kernel
theorem d_Mo_removeFront_61 : decode prog_12_method_10_code 61 = .ok (.aload_n 0, 1) := by decide +kernel
theorem d_Mo_removeFront_62 : decode prog_12_method_10_code 62 = .ok (.getfield 56, 3) := by decide +kernel
theorem d_Mo_removeFront_65 : decode prog_12_method_10_code 65 = .ok (.iload_n 2, 1) := by decide +kernel
theorem d_Mo_removeFront_66 : decode prog_12_method_10_code 66 = .ok (.iconst 1, 1) := by decide +kernel
theorem d_Mo_removeFront_67 : decode prog_12_method_10_code 67 = .ok (.iadd, 1) := by decide +kernel
theorem d_Mo_removeFront_68 : decode prog_12_method_10_code 68 = .ok (.iaload, 1) := by decide +kernel
theorem d_Mo_removeFront_69 : decode prog_12_method_10_code 69 = .ok (.iastore, 1) := by decide +kernel
theorem d_Mo_removeFront_70 : decode prog_12_method_10_code 70 = .ok (.iinc 2 1, 3) := by decide +kernel
theorem d_Mo_removeFront_73 : decode prog_12_method_10_code 73 = .ok (.goto (-59), 3) := by decide +kernel
theorem d_Mo_removeFront_76 : decode prog_12_method_10_code 76 = .ok (.return_, 1) := by decide +kernel
theorem d_Mo_moves_0 : decode prog_12_method_13_code 0 = .ok (.aload_n 0, 1) := by decide +kernel
theorem d_Mo_moves_1 : decode prog_12_method_13_code 1 = .ok (.iload_n 1, 1) := by decide +kernel
theorem d_Mo_moves_2 : decode prog_12_method_13_code 2 = .ok (.iload_n 2, 1) := by decide +kernel
theorem d_Mo_moves_3 : decode prog_12_method_13_code 3 = .ok (.iload_n 3, 1) := by decide +kernel
theorem d_Mo_moves_4 : decode prog_12_method_13_code 4 = .ok (.invokevirtual 144, 3) := by decide +kernel
theorem d_Mo_moves_7 : decode prog_12_method_13_code 7 = .ok (.istore 4, 2) := by decide +kernel
theorem d_Mo_moves_9 : decode prog_12_method_13_code 9 = .ok (.iload 4, 2) := by decide +kernel
theorem d_Mo_moves_11 : decode prog_12_method_13_code 11 = .ok (.ifCond .ge 5, 3) := by decide +kernel
theorem d_Mo_moves_14 : decode prog_12_method_13_code 14 = .ok (.iconst 0, 1) := by decide +kernel
theorem d_Mo_moves_15 : decode prog_12_method_13_code 15 = .ok (.ireturn, 1) := by decide +kernel
theorem d_Mo_moves_16 : decode prog_12_method_13_code 16 = .ok (.bipush 15, 2) := by decide +kernel
theorem d_Mo_moves_18 : decode prog_12_method_13_code 18 = .ok (.iload_n 1, 1) := by decide +kernel
theorem d_Mo_moves_19 : decode prog_12_method_13_code 19 = .ok (.imul, 1) := by decide +kernel
theorem d_Mo_moves_20 : decode prog_12_method_13_code 20 = .ok (.iconst 3, 1) := by decide +kernel
theorem d_Mo_moves_21 : decode prog_12_method_13_code 21 = .ok (.iload 4, 2) := by decide +kernel
theorem d_Mo_moves_23 : decode prog_12_method_13_code 23 = .ok (.imul, 1) := by decide +kernel
theorem d_Mo_moves_24 : decode prog_12_method_13_code 24 = .ok (.iadd, 1) := by decide +kernel
theorem d_Mo_moves_25 : decode prog_12_method_13_code 25 = .ok (.iload_n 3, 1) := by decide +kernel
theorem d_Mo_moves_26 : decode prog_12_method_13_code 26 = .ok (.iadd, 1) := by decide +kernel
theorem d_Mo_moves_27 : decode prog_12_method_13_code 27 = .ok (.istore 5, 2) := by decide +kernel
theorem d_Mo_moves_29 : decode prog_12_method_13_code 29 = .ok (.iconst 4, 1) := by decide +kernel
theorem d_Mo_moves_30 : decode prog_12_method_13_code 30 = .ok (.iload 5, 2) := by decide +kernel
theorem d_Mo_moves_32 : decode prog_12_method_13_code 32 = .ok (.imul, 1) := by decide +kernel
theorem d_Mo_moves_33 : decode prog_12_method_13_code 33 = .ok (.istore 6, 2) := by decide +kernel
theorem d_Mo_moves_35 : decode prog_12_method_13_code 35 = .ok (.aload_n 0, 1) := by decide +kernel
theorem d_Mo_moves_36 : decode prog_12_method_13_code 36 = .ok (.getfield 59, 3) := by decide +kernel
theorem d_Mo_moves_39 : decode prog_12_method_13_code 39 = .ok (.iload 5, 2) := by decide +kernel
theorem d_Mo_moves_41 : decode prog_12_method_13_code 41 = .ok (.iaload, 1) := by decide +kernel
theorem d_Mo_moves_42 : decode prog_12_method_13_code 42 = .ok (.ifCond .eq 17, 3) := by decide +kernel
theorem d_Mo_moves_45 : decode prog_12_method_13_code 45 = .ok (.aload_n 0, 1) := by decide +kernel
theorem d_Mo_moves_46 : decode prog_12_method_13_code 46 = .ok (.getfield 56, 3) := by decide +kernel
theorem d_Mo_moves_49 : decode prog_12_method_13_code 49 = .ok (.iload 6, 2) := by decide +kernel
theorem d_Mo_moves_51 : decode prog_12_method_13_code 51 = .ok (.iaload, 1) := by decide +kernel
theorem d_Mo_moves_52 : decode prog_12_method_13_code 52 = .ok (.aload_n 0, 1) := by decide +kernel
theorem d_Mo_moves_53 : decode prog_12_method_13_code 53 = .ok (.getfield 130, 3) := by decide +kernel
theorem d_Mo_moves_56 : decode prog_12_method_13_code 56 = .ok (.if_icmp .ne 5, 3) := by decide +kernel
theorem d_Mo_moves_59 : decode prog_12_method_13_code 59 = .ok (.iconst 0, 1) := by decide +kernel
theorem d_Mo_moves_60 : decode prog_12_method_13_code 60 = .ok (.ireturn, 1) := by decide +kernel
theorem d_Mo_moves_61 : decode prog_12_method_13_code 61 = .ok (.iload_n 2, 1) := by decide +kernel
theorem d_Mo_moves_62 : decode prog_12_method_13_code 62 = .ok (.iconst 2, 1) := by decide +kernel
theorem d_Mo_moves_63 : decode prog_12_method_13_code 63 = .ok (.iadd, 1) := by decide +kernel
theorem d_Mo_moves_64 : decode prog_12_method_13_code 64 = .ok (.iconst 4, 1) := by decide +kernel
theorem d_Mo_moves_65 : decode prog_12_method_13_code 65 = .ok (.irem, 1) := by decide +kernel
theorem d_Mo_moves_66 : decode prog_12_method_13_code 66 = .ok (.istore 7, 2) := by decide +kernel
theorem d_Mo_moves_68 : decode prog_12_method_13_code 68 = .ok (.iload_n 2, 1) := by decide +kernel
theorem d_Mo_moves_69 : decode prog_12_method_13_code 69 = .ok (.iconst 4, 1) := by decide +kernel
theorem d_Mo_moves_70 : decode prog_12_method_13_code 70 = .ok (.if_icmp .ne 7, 3) := by decide +kernel
theorem d_Mo_moves_73 : decode prog_12_method_13_code 73 = .ok (.iconst (-1), 1) := by decide +kernel
theorem d_Mo_moves_74 : decode prog_12_method_13_code 74 = .ok (.goto 18, 3) := by decide +kernel
theorem d_Mo_moves_77 : decode prog_12_method_13_code 77 = .ok (.bipush 15, 2) := by decide +kernel
theorem d_Mo_moves_79 : decode prog_12_method_13_code 79 = .ok (.iload_n 1, 1) := by decide +kernel
theorem d_Mo_moves_80 : decode prog_12_method_13_code 80 = .ok (.iload_n 2, 1) := by decide +kernel
theorem d_Mo_moves_81 : decode prog_12_method_13_code 81 = .ok (.invokestatic 148, 3) := by decide +kernel
theorem d_Mo_moves_84 : decode prog_12_method_13_code 84 = .ok (.imul, 1) := by decide +kernel
theorem d_Mo_moves_85 : decode prog_12_method_13_code 85 = .ok (.iconst 3, 1) := by decide +kernel
theorem d_Mo_moves_86 : decode prog_12_method_13_code 86 = .ok (.iload 7, 2) := by decide +kernel
theorem d_Mo_moves_88 : decode prog_12_method_13_code 88 = .ok (.imul, 1) := by decide +kernel
theorem d_Mo_moves_89 : decode prog_12_method_13_code 89 = .ok (.iadd, 1) := by decide +kernel
theorem d_Mo_moves_90 : decode prog_12_method_13_code 90 = .ok (.iload_n 3, 1) := by decide +kernel
theorem d_Mo_moves_91 : decode prog_12_method_13_code 91 = .ok (.iadd, 1) := by decide +kernel
theorem d_Mo_moves_92 : decode prog_12_method_13_code 92 = .ok (.istore 8, 2) := by decide +kernel
theorem d_Mo_moves_94 : decode prog_12_method_13_code 94 = .ok (.iload 8, 2) := by decide +kernel
theorem d_Mo_moves_96 : decode prog_12_method_13_code 96 = .ok (.ifCond .lt 19, 3) := by decide +kernel
theorem d_Mo_moves_99 : decode prog_12_method_13_code 99 = .ok (.aload_n 0, 1) := by decide +kernel
theorem d_Mo_moves_100 : decode prog_12_method_13_code 100 = .ok (.getfield 59, 3) := by decide +kernel
theorem d_Mo_moves_103 : decode prog_12_method_13_code 103 = .ok (.iload 8, 2) := by decide +kernel
theorem d_Mo_moves_105 : decode prog_12_method_13_code 105 = .ok (.iaload, 1) := by decide +kernel
theorem d_Mo_moves_106 : decode prog_12_method_13_code 106 = .ok (.aload_n 0, 1) := by decide +kernel
theorem d_Mo_moves_107 : decode prog_12_method_13_code 107 = .ok (.getfield 116, 3) := by decide +kernel
theorem d_Mo_moves_110 : decode prog_12_method_13_code 110 = .ok (.if_icmp .ne 5, 3) := by decide +kernel
theorem d_Mo_moves_113 : decode prog_12_method_13_code 113 = .ok (.iconst 0, 1) := by decide +kernel
theorem d_Mo_moves_114 : decode prog_12_method_13_code 114 = .ok (.ireturn, 1) := by decide +kernel
theorem d_Mo_moves_115 : decode prog_12_method_13_code 115 = .ok (.aload_n 0, 1) := by decide +kernel
theorem d_Mo_moves_116 : decode prog_12_method_13_code 116 = .ok (.getfield 50, 3) := by decide +kernel
theorem d_Mo_moves_119 : decode prog_12_method_13_code 119 = .ok (.iload 6, 2) := by decide +kernel
theorem d_Mo_moves_121 : decode prog_12_method_13_code 121 = .ok (.iaload, 1) := by decide +kernel
theorem d_Mo_moves_122 : decode prog_12_method_13_code 122 = .ok (.istore 9, 2) := by decide +kernel
theorem d_Mo_moves_124 : decode prog_12_method_13_code 124 = .ok (.aload_n 0, 1) := by decide +kernel
theorem d_Mo_moves_125 : decode prog_12_method_13_code 125 = .ok (.getfield 53, 3) := by decide +kernel
theorem d_Mo_moves_128 : decode prog_12_method_13_code 128 = .ok (.iload 6, 2) := by decide +kernel
theorem d_Mo_moves_130 : decode prog_12_method_13_code 130 = .ok (.iaload, 1) := by decide +kernel
theorem d_Mo_moves_131 : decode prog_12_method_13_code 131 = .ok (.istore 10, 2) := by decide +kernel
theorem d_Mo_moves_133 : decode prog_12_method_13_code 133 = .ok (.iload 10, 2) := by decide +kernel
theorem d_Mo_moves_135 : decode prog_12_method_13_code 135 = .ok (.aload_n 0, 1) := by decide +kernel
theorem d_Mo_moves_136 : decode prog_12_method_13_code 136 = .ok (.iload 9, 2) := by decide +kernel
theorem d_Mo_moves_138 : decode prog_12_method_13_code 138 = .ok (.invokevirtual 137, 3) := by decide +kernel
theorem d_Mo_moves_141 : decode prog_12_method_13_code 141 = .ok (.iconst 1, 1) := by decide +kernel
theorem d_Mo_moves_142 : decode prog_12_method_13_code 142 = .ok (.isub, 1) := by decide +kernel
theorem d_Mo_moves_143 : decode prog_12_method_13_code 143 = .ok (.if_icmp .ne 7, 3) := by decide +kernel
theorem d_Mo_moves_146 : decode prog_12_method_13_code 146 = .ok (.iconst 1, 1) := by decide +kernel
theorem d_Mo_moves_147 : decode prog_12_method_13_code 147 = .ok (.goto 4, 3) := by decide +kernel
theorem d_Mo_moves_150 : decode prog_12_method_13_code 150 = .ok (.iconst 0, 1) := by decide +kernel
theorem d_Mo_moves_151 : decode prog_12_method_13_code 151 = .ok (.istore 11, 2) := by decide +kernel
theorem d_Mo_moves_153 : decode prog_12_method_13_code 153 = .ok (.bipush 15, 2) := by decide +kernel
theorem d_Mo_moves_155 : decode prog_12_method_13_code 155 = .ok (.iload_n 1, 1) := by decide +kernel
theorem d_Mo_moves_156 : decode prog_12_method_13_code 156 = .ok (.imul, 1) := by decide +kernel
theorem d_Mo_moves_157 : decode prog_12_method_13_code 157 = .ok (.iconst 3, 1) := by decide +kernel
theorem d_Mo_moves_158 : decode prog_12_method_13_code 158 = .ok (.iload_n 2, 1) := by decide +kernel
theorem d_Mo_moves_159 : decode prog_12_method_13_code 159 = .ok (.imul, 1) := by decide +kernel
theorem d_Mo_moves_160 : decode prog_12_method_13_code 160 = .ok (.iadd, 1) := by decide +kernel
theorem d_Mo_moves_161 : decode prog_12_method_13_code 161 = .ok (.iload_n 3, 1) := by decide +kernel
theorem d_Mo_moves_162 : decode prog_12_method_13_code 162 = .ok (.iadd, 1) := by decide +kernel
theorem d_Mo_moves_163 : decode prog_12_method_13_code 163 = .ok (.istore 12, 2) := by decide +kernel
theorem d_Mo_moves_165 : decode prog_12_method_13_code 165 = .ok (.aload_n 0, 1) := by decide +kernel
theorem d_Mo_moves_166 : decode prog_12_method_13_code 166 = .ok (.iload 5, 2) := by decide +kernel
theorem d_Mo_moves_168 : decode prog_12_method_13_code 168 = .ok (.invokevirtual 151, 3) := by decide +kernel
theorem d_Mo_moves_171 : decode prog_12_method_13_code 171 = .ok (.aload_n 0, 1) := by decide +kernel
theorem d_Mo_moves_172 : decode prog_12_method_13_code 172 = .ok (.getfield 65, 3) := by decide +kernel
theorem d_Mo_moves_175 : decode prog_12_method_13_code 175 = .ok (.iload 12, 2) := by decide +kernel
theorem d_Mo_moves_177 : decode prog_12_method_13_code 177 = .ok (.iload 4, 2) := by decide +kernel
theorem d_Mo_moves_179 : decode prog_12_method_13_code 179 = .ok (.iastore, 1) := by decide +kernel
theorem d_Mo_moves_180 : decode prog_12_method_13_code 180 = .ok (.aload_n 0, 1) := by decide +kernel
theorem d_Mo_moves_181 : decode prog_12_method_13_code 181 = .ok (.getfield 62, 3) := by decide +kernel
theorem d_Mo_moves_184 : decode prog_12_method_13_code 184 = .ok (.iload 12, 2) := by decide +kernel
theorem d_Mo_moves_186 : decode prog_12_method_13_code 186 = .ok (.iload 11, 2) := by decide +kernel
theorem d_Mo_moves_188 : decode prog_12_method_13_code 188 = .ok (.ifCond .eq 7, 3) := by decide +kernel
theorem d_Mo_moves_191 : decode prog_12_method_13_code 191 = .ok (.iconst (-1), 1) := by decide +kernel
theorem d_Mo_moves_192 : decode prog_12_method_13_code 192 = .ok (.goto 5, 3) := by decide +kernel
theorem d_Mo_moves_195 : decode prog_12_method_13_code 195 = .ok (.iload 4, 2) := by decide +kernel
theorem d_Mo_moves_197 : decode prog_12_method_13_code 197 = .ok (.iastore, 1) := by decide +kernel
theorem d_Mo_moves_198 : decode prog_12_method_13_code 198 = .ok (.iload 8, 2) := by decide +kernel
theorem d_Mo_moves_200 : decode prog_12_method_13_code 200 = .ok (.ifCond .lt 26, 3) := by decide +kernel
theorem d_Mo_moves_203 : decode prog_12_method_13_code 203 = .ok (.aload_n 0, 1) := by decide +kernel
theorem d_Mo_moves_204 : decode prog_12_method_13_code 204 = .ok (.iload 8, 2) := by decide +kernel
theorem d_Mo_moves_206 : decode prog_12_method_13_code 206 = .ok (.iload 9, 2) := by decide +kernel
theorem d_Mo_moves_208 : decode prog_12_method_13_code 208 = .ok (.iload 10, 2) := by decide +kernel
theorem d_Mo_moves_210 : decode prog_12_method_13_code 210 = .ok (.invokevirtual 133, 3) := by decide +kernel
theorem d_Mo_moves_213 : decode prog_12_method_13_code 213 = .ok (.aload_n 0, 1) := by decide +kernel
theorem d_Mo_moves_214 : decode prog_12_method_13_code 214 = .ok (.dup, 1) := by decide +kernel
theorem d_Mo_moves_215 : decode prog_12_method_13_code 215 = .ok (.getfield 155, 3) := by decide +kernel
theorem d_Mo_moves_218 : decode prog_12_method_13_code 218 = .ok (.iconst 1, 1) := by decide +kernel
theorem d_Mo_moves_219 : decode prog_12_method_13_code 219 = .ok (.iadd, 1) := by decide +kernel
theorem d_Mo_moves_220 : decode prog_12_method_13_code 220 = .ok (.putfield 155, 3) := by decide +kernel
theorem d_Mo_moves_223 : decode prog_12_method_13_code 223 = .ok (.goto 57, 3) := by decide +kernel
theorem d_Mo_moves_226 : decode prog_12_method_13_code 226 = .ok (.iload 11, 2) := by decide +kernel
theorem d_Mo_moves_228 : decode prog_12_method_13_code 228 = .ok (.ifCond .eq 52, 3) := by decide +kernel
theorem d_Mo_moves_231 : decode prog_12_method_13_code 231 = .ok (.iconst 3, 1) := by decide +kernel
theorem d_Mo_moves_232 : decode prog_12_method_13_code 232 = .ok (.iload_n 1, 1) := by decide +kernel
theorem d_Mo_moves_233 : decode prog_12_method_13_code 233 = .ok (.imul, 1) := by decide +kernel
theorem d_Mo_moves_234 : decode prog_12_method_13_code 234 = .ok (.iload_n 3, 1) := by decide +kernel
theorem d_Mo_moves_235 : decode prog_12_method_13_code 235 = .ok (.iadd, 1) := by decide +kernel
theorem d_Mo_moves_236 : decode prog_12_method_13_code 236 = .ok (.istore 13, 2) := by decide +kernel
theorem d_Mo_moves_238 : decode prog_12_method_13_code 238 = .ok (.aload_n 0, 1) := by decide +kernel
theorem d_Mo_moves_239 : decode prog_12_method_13_code 239 = .ok (.getfield 44, 3) := by decide +kernel
theorem d_Mo_moves_242 : decode prog_12_method_13_code 242 = .ok (.sipush 128, 3) := by decide +kernel
theorem d_Mo_moves_245 : decode prog_12_method_13_code 245 = .ok (.iload 13, 2) := by decide +kernel
theorem d_Mo_moves_247 : decode prog_12_method_13_code 247 = .ok (.imul, 1) := by decide +kernel
theorem d_Mo_moves_248 : decode prog_12_method_13_code 248 = .ok (.aload_n 0, 1) := by decide +kernel
theorem d_Mo_moves_249 : decode prog_12_method_13_code 249 = .ok (.getfield 47, 3) := by decide +kernel
theorem d_Mo_moves_252 : decode prog_12_method_13_code 252 = .ok (.iload 13, 2) := by decide +kernel
theorem d_Mo_moves_254 : decode prog_12_method_13_code 254 = .ok (.iaload, 1) := by decide +kernel
theorem d_Mo_moves_255 : decode prog_12_method_13_code 255 = .ok (.iadd, 1) := by decide +kernel
theorem d_Mo_moves_256 : decode prog_12_method_13_code 256 = .ok (.iload 9, 2) := by decide +kernel
theorem d_Mo_moves_258 : decode prog_12_method_13_code 258 = .ok (.iastore, 1) := by decide +kernel
theorem d_Mo_moves_259 : decode prog_12_method_13_code 259 = .ok (.aload_n 0, 1) := by decide +kernel
theorem d_Mo_moves_260 : decode prog_12_method_13_code 260 = .ok (.getfield 47, 3) := by decide +kernel
theorem d_Mo_moves_263 : decode prog_12_method_13_code 263 = .ok (.iload 13, 2) := by decide +kernel
theorem d_Mo_moves_265 : decode prog_12_method_13_code 265 = .ok (.dup2, 1) := by decide +kernel
theorem d_Mo_moves_266 : decode prog_12_method_13_code 266 = .ok (.iaload, 1) := by decide +kernel
theorem d_Mo_moves_267 : decode prog_12_method_13_code 267 = .ok (.iconst 1, 1) := by decide +kernel
theorem d_Mo_moves_268 : decode prog_12_method_13_code 268 = .ok (.iadd, 1) := by decide +kernel
theorem d_Mo_moves_269 : decode prog_12_method_13_code 269 = .ok (.iastore, 1) := by decide +kernel
theorem d_Mo_moves_270 : decode prog_12_method_13_code 270 = .ok (.aload_n 0, 1) := by decide +kernel
theorem d_Mo_moves_271 : decode prog_12_method_13_code 271 = .ok (.dup, 1) := by decide +kernel
theorem d_Mo_moves_272 : decode prog_12_method_13_code 272 = .ok (.getfield 158, 3) := by decide +kernel
theorem d_Mo_moves_275 : decode prog_12_method_13_code 275 = .ok (.iconst 1, 1) := by decide +kernel
theorem d_Mo_moves_276 : decode prog_12_method_13_code 276 = .ok (.iadd, 1) := by decide +kernel
theorem d_Mo_moves_277 : decode prog_12_method_13_code 277 = .ok (.putfield 158, 3) := by decide +kernel
theorem d_Mo_moves_280 : decode prog_12_method_13_code 280 = .ok (.iconst 1, 1) := by decide +kernel
theorem d_Mo_moves_281 : decode prog_12_method_13_code 281 = .ok (.ireturn, 1) := by decide +kernel
theorem d_Mo_isBehind_0 : decode prog_12_method_26_code 0 = .ok (.iconst 0, 1) := by decide +kernel
theorem d_Mo_isBehind_1 : decode prog_12_method_26_code 1 = .ok (.istore_n 3, 1) := by decide +kernel
theorem d_Mo_isBehind_2 : decode prog_12_method_26_code 2 = .ok (.iconst 0, 1) := by decide +kernel
theorem d_Mo_isBehind_3 : decode prog_12_method_26_code 3 = .ok (.istore 4, 2) := by decide +kernel
theorem d_Mo_isBehind_5 : decode prog_12_method_26_code 5 = .ok (.iload 4, 2) := by decide +kernel
theorem d_Mo_isBehind_7 : decode prog_12_method_26_code 7 = .ok (.iload_n 2, 1) := by decide +kernel
theorem d_Mo_isBehind_8 : decode prog_12_method_26_code 8 = .ok (.if_icmp .ge 57, 3) := by decide +kernel
theorem d_Mo_isBehind_11 : decode prog_12_method_26_code 11 = .ok (.iload_n 3, 1) := by decide +kernel
theorem d_Mo_isBehind_12 : decode prog_12_method_26_code 12 = .ok (.ifCond .ne 41, 3) := by decide +kernel
theorem d_Mo_isBehind_15 : decode prog_12_method_26_code 15 = .ok (.aload_n 0, 1) := by decide +kernel
theorem d_Mo_isBehind_16 : decode prog_12_method_26_code 16 = .ok (.getfield 17, 3) := by decide +kernel
theorem d_Mo_isBehind_19 : decode prog_12_method_26_code 19 = .ok (.aload_n 0, 1) := by decide +kernel
theorem d_Mo_isBehind_20 : decode prog_12_method_26_code 20 = .ok (.getfield 44, 3) := by decide +kernel
theorem d_Mo_isBehind_23 : decode prog_12_method_26_code 23 = .ok (.sipush 128, 3) := by decide +kernel
theorem d_Mo_isBehind_26 : decode prog_12_method_26_code 26 = .ok (.iload_n 1, 1) := by decide +kernel
theorem d_Mo_isBehind_27 : decode prog_12_method_26_code 27 = .ok (.imul, 1) := by decide +kernel
theorem d_Mo_isBehind_28 : decode prog_12_method_26_code 28 = .ok (.iload 4, 2) := by decide +kernel
theorem d_Mo_isBehind_30 : decode prog_12_method_26_code 30 = .ok (.iadd, 1) := by decide +kernel
theorem d_Mo_isBehind_31 : decode prog_12_method_26_code 31 = .ok (.iaload, 1) := by decide +kernel
theorem d_Mo_isBehind_32 : decode prog_12_method_26_code 32 = .ok (.iaload, 1) := by decide +kernel
theorem d_Mo_isBehind_33 : decode prog_12_method_26_code 33 = .ok (.aload_n 0, 1) := by decide +kernel
theorem d_Mo_isBehind_34 : decode prog_12_method_26_code 34 = .ok (.getfield 17, 3) := by decide +kernel
theorem d_Mo_isBehind_37 : decode prog_12_method_26_code 37 = .ok (.aload_n 0, 1) := by decide +kernel
theorem d_Mo_isBehind_38 : decode prog_12_method_26_code 38 = .ok (.getfield 44, 3) := by decide +kernel
theorem d_Mo_isBehind_41 : decode prog_12_method_26_code 41 = .ok (.sipush 128, 3) := by decide +kernel
theorem d_Mo_isBehind_44 : decode prog_12_method_26_code 44 = .ok (.iload_n 1, 1) := by decide +kernel
theorem d_Mo_isBehind_45 : decode prog_12_method_26_code 45 = .ok (.imul, 1) := by decide +kernel
theorem d_Mo_isBehind_46 : decode prog_12_method_26_code 46 = .ok (.iload_n 2, 1) := by decide +kernel
theorem d_Mo_isBehind_47 : decode prog_12_method_26_code 47 = .ok (.iadd, 1) := by decide +kernel
theorem d_Mo_isBehind_48 : decode prog_12_method_26_code 48 = .ok (.iaload, 1) := by decide +kernel
theorem d_Mo_isBehind_49 : decode prog_12_method_26_code 49 = .ok (.iaload, 1) := by decide +kernel
theorem d_Mo_isBehind_50 : decode prog_12_method_26_code 50 = .ok (.if_icmp .ne 7, 3) := by decide +kernel
theorem d_Mo_isBehind_53 : decode prog_12_method_26_code 53 = .ok (.iconst 1, 1) := by decide +kernel
theorem d_Mo_isBehind_54 : decode prog_12_method_26_code 54 = .ok (.goto 4, 3) := by decide +kernel
theorem d_Mo_isBehind_57 : decode prog_12_method_26_code 57 = .ok (.iconst 0, 1) := by decide +kernel
theorem d_Mo_isBehind_58 : decode prog_12_method_26_code 58 = .ok (.istore_n 3, 1) := by decide +kernel
theorem d_Mo_isBehind_59 : decode prog_12_method_26_code 59 = .ok (.iinc 4 1, 3) := by decide +kernel
theorem d_Mo_isBehind_62 : decode prog_12_method_26_code 62 = .ok (.goto (-57), 3) := by decide +kernel
theorem d_Mo_isBehind_65 : decode prog_12_method_26_code 65 = .ok (.iload_n 3, 1) := by decide +kernel
theorem d_Mo_isBehind_66 : decode prog_12_method_26_code 66 = .ok (.ireturn, 1) := by decide +kernel
theorem d_Mo_channelOf_0 : decode prog_12_method_4_code 0 = .ok (.iload_n 0, 1) := by decide +kernel
theorem d_Mo_channelOf_1 : decode prog_12_method_4_code 1 = .ok (.iconst 3, 1) := by decide +kernel
theorem d_Mo_channelOf_2 : decode prog_12_method_4_code 2 = .ok (.if_icmp .gt 7, 3) := by decide +kernel
theorem d_Mo_channelOf_5 : decode prog_12_method_4_code 5 = .ok (.iconst 0, 1) := by decide +kernel
theorem d_Mo_channelOf_6 : decode prog_12_method_4_code 6 = .ok (.goto 14, 3) := by decide +kernel
theorem d_Mo_channelOf_9 : decode prog_12_method_4_code 9 = .ok (.iload_n 0, 1) := by decide +kernel
theorem d_Mo_channelOf_10 : decode prog_12_method_4_code 10 = .ok (.bipush 7, 2) := by decide +kernel
theorem d_Mo_channelOf_12 : decode prog_12_method_4_code 12 = .ok (.if_icmp .gt 7, 3) := by decide +kernel
theorem d_Mo_channelOf_15 : decode prog_12_method_4_code 15 = .ok (.iconst 1, 1) := by decide +kernel
theorem d_Mo_channelOf_16 : decode prog_12_method_4_code 16 = .ok (.goto 4, 3) := by decide +kernel
theorem d_Mo_channelOf_19 : decode prog_12_method_4_code 19 = .ok (.iconst 2, 1) := by decide +kernel
theorem d_Mo_channelOf_20 : decode prog_12_method_4_code 20 = .ok (.ireturn, 1) := by decide +kernel
theorem d_Mo_send_0 : decode prog_12_method_6_code 0 = .ok (.iconst 0, 1) := by decide +kernel
theorem d_Mo_send_1 : decode prog_12_method_6_code 1 = .ok (.istore 8, 2) := by decide +kernel
theorem d_Mo_send_3 : decode prog_12_method_6_code 3 = .ok (.aload_n 0, 1) := by decide +kernel
theorem d_Mo_send_4 : decode prog_12_method_6_code 4 = .ok (.getfield 7, 3) := by decide +kernel
theorem d_Mo_send_7 : decode prog_12_method_6_code 7 = .ok (.iload 8, 2) := by decide +kernel
theorem d_Mo_send_9 : decode prog_12_method_6_code 9 = .ok (.baload, 1) := by decide +kernel
theorem d_Mo_send_10 : decode prog_12_method_6_code 10 = .ok (.ifCond .eq 9, 3) := by decide +kernel
theorem d_Mo_send_13 : decode prog_12_method_6_code 13 = .ok (.iinc 8 1, 3) := by decide +kernel
theorem d_Mo_send_16 : decode prog_12_method_6_code 16 = .ok (.goto (-13), 3) := by decide +kernel
theorem d_Mo_send_19 : decode prog_12_method_6_code 19 = .ok (.aload_n 0, 1) := by decide +kernel
theorem d_Mo_send_20 : decode prog_12_method_6_code 20 = .ok (.getfield 7, 3) := by decide +kernel
theorem d_Mo_send_23 : decode prog_12_method_6_code 23 = .ok (.iload 8, 2) := by decide +kernel
theorem d_Mo_send_25 : decode prog_12_method_6_code 25 = .ok (.iconst 1, 1) := by decide +kernel
theorem d_Mo_send_26 : decode prog_12_method_6_code 26 = .ok (.bastore, 1) := by decide +kernel
theorem d_Mo_send_27 : decode prog_12_method_6_code 27 = .ok (.aload_n 0, 1) := by decide +kernel
theorem d_Mo_send_28 : decode prog_12_method_6_code 28 = .ok (.getfield 13, 3) := by decide +kernel
theorem d_Mo_send_31 : decode prog_12_method_6_code 31 = .ok (.iload 8, 2) := by decide +kernel
theorem d_Mo_send_33 : decode prog_12_method_6_code 33 = .ok (.iload_n 2, 1) := by decide +kernel
theorem d_Mo_send_34 : decode prog_12_method_6_code 34 = .ok (.iastore, 1) := by decide +kernel
theorem d_Mo_send_35 : decode prog_12_method_6_code 35 = .ok (.aload_n 0, 1) := by decide +kernel
theorem d_Mo_send_36 : decode prog_12_method_6_code 36 = .ok (.getfield 17, 3) := by decide +kernel
theorem d_Mo_send_39 : decode prog_12_method_6_code 39 = .ok (.iload 8, 2) := by decide +kernel
theorem d_Mo_send_41 : decode prog_12_method_6_code 41 = .ok (.iload_n 3, 1) := by decide +kernel
theorem d_Mo_send_42 : decode prog_12_method_6_code 42 = .ok (.iastore, 1) := by decide +kernel
theorem d_Mo_send_43 : decode prog_12_method_6_code 43 = .ok (.aload_n 0, 1) := by decide +kernel
theorem d_Mo_send_44 : decode prog_12_method_6_code 44 = .ok (.getfield 20, 3) := by decide +kernel
theorem d_Mo_send_47 : decode prog_12_method_6_code 47 = .ok (.iload 8, 2) := by decide +kernel
theorem d_Mo_send_49 : decode prog_12_method_6_code 49 = .ok (.iload 4, 2) := by decide +kernel
theorem d_Mo_send_51 : decode prog_12_method_6_code 51 = .ok (.iastore, 1) := by decide +kernel
theorem d_Mo_send_52 : decode prog_12_method_6_code 52 = .ok (.aload_n 0, 1) := by decide +kernel
theorem d_Mo_send_53 : decode prog_12_method_6_code 53 = .ok (.getfield 23, 3) := by decide +kernel
theorem d_Mo_send_56 : decode prog_12_method_6_code 56 = .ok (.iload 8, 2) := by decide +kernel
theorem d_Mo_send_58 : decode prog_12_method_6_code 58 = .ok (.iload_n 1, 1) := by decide +kernel
theorem d_Mo_send_59 : decode prog_12_method_6_code 59 = .ok (.iastore, 1) := by decide +kernel
theorem d_Mo_send_60 : decode prog_12_method_6_code 60 = .ok (.aload_n 0, 1) := by decide +kernel
theorem d_Mo_send_61 : decode prog_12_method_6_code 61 = .ok (.getfield 26, 3) := by decide +kernel
theorem d_Mo_send_64 : decode prog_12_method_6_code 64 = .ok (.iload 8, 2) := by decide +kernel
theorem d_Mo_send_66 : decode prog_12_method_6_code 66 = .ok (.iload 5, 2) := by decide +kernel
theorem d_Mo_send_68 : decode prog_12_method_6_code 68 = .ok (.iastore, 1) := by decide +kernel
theorem d_Mo_send_69 : decode prog_12_method_6_code 69 = .ok (.aload_n 0, 1) := by decide +kernel
theorem d_Mo_send_70 : decode prog_12_method_6_code 70 = .ok (.getfield 29, 3) := by decide +kernel
theorem d_Mo_send_73 : decode prog_12_method_6_code 73 = .ok (.iload 8, 2) := by decide +kernel
theorem d_Mo_send_75 : decode prog_12_method_6_code 75 = .ok (.iload 6, 2) := by decide +kernel
theorem d_Mo_send_77 : decode prog_12_method_6_code 77 = .ok (.iastore, 1) := by decide +kernel
theorem d_Mo_send_78 : decode prog_12_method_6_code 78 = .ok (.aload_n 0, 1) := by decide +kernel
theorem d_Mo_send_79 : decode prog_12_method_6_code 79 = .ok (.getfield 32, 3) := by decide +kernel
theorem d_Mo_send_82 : decode prog_12_method_6_code 82 = .ok (.iload 8, 2) := by decide +kernel
theorem d_Mo_send_84 : decode prog_12_method_6_code 84 = .ok (.iload 7, 2) := by decide +kernel
theorem d_Mo_send_86 : decode prog_12_method_6_code 86 = .ok (.iastore, 1) := by decide +kernel
theorem d_Mo_send_87 : decode prog_12_method_6_code 87 = .ok (.iconst 3, 1) := by decide +kernel
theorem d_Mo_send_88 : decode prog_12_method_6_code 88 = .ok (.iload_n 1, 1) := by decide +kernel
theorem d_Mo_send_89 : decode prog_12_method_6_code 89 = .ok (.imul, 1) := by decide +kernel
theorem d_Mo_send_90 : decode prog_12_method_6_code 90 = .ok (.iload_n 2, 1) := by decide +kernel
theorem d_Mo_send_91 : decode prog_12_method_6_code 91 = .ok (.invokestatic 123, 3) := by decide +kernel
theorem d_Mo_send_94 : decode prog_12_method_6_code 94 = .ok (.iadd, 1) := by decide +kernel
theorem d_Mo_send_95 : decode prog_12_method_6_code 95 = .ok (.istore 9, 2) := by decide +kernel
theorem d_Mo_send_97 : decode prog_12_method_6_code 97 = .ok (.aload_n 0, 1) := by decide +kernel
theorem d_Mo_send_98 : decode prog_12_method_6_code 98 = .ok (.getfield 35, 3) := by decide +kernel
theorem d_Mo_send_101 : decode prog_12_method_6_code 101 = .ok (.sipush 128, 3) := by decide +kernel
theorem d_Mo_send_104 : decode prog_12_method_6_code 104 = .ok (.iload 9, 2) := by decide +kernel
theorem d_Mo_send_106 : decode prog_12_method_6_code 106 = .ok (.imul, 1) := by decide +kernel
theorem d_Mo_send_107 : decode prog_12_method_6_code 107 = .ok (.aload_n 0, 1) := by decide +kernel
theorem d_Mo_send_108 : decode prog_12_method_6_code 108 = .ok (.getfield 38, 3) := by decide +kernel
theorem d_Mo_send_111 : decode prog_12_method_6_code 111 = .ok (.iload 9, 2) := by decide +kernel
theorem d_Mo_send_113 : decode prog_12_method_6_code 113 = .ok (.iaload, 1) := by decide +kernel
theorem d_Mo_send_114 : decode prog_12_method_6_code 114 = .ok (.iadd, 1) := by decide +kernel
theorem d_Mo_send_115 : decode prog_12_method_6_code 115 = .ok (.iload 8, 2) := by decide +kernel
theorem d_Mo_send_117 : decode prog_12_method_6_code 117 = .ok (.iastore, 1) := by decide +kernel
theorem d_Mo_send_118 : decode prog_12_method_6_code 118 = .ok (.aload_n 0, 1) := by decide +kernel
theorem d_Mo_send_119 : decode prog_12_method_6_code 119 = .ok (.getfield 38, 3) := by decide +kernel
theorem d_Mo_send_122 : decode prog_12_method_6_code 122 = .ok (.iload 9, 2) := by decide +kernel
theorem d_Mo_send_124 : decode prog_12_method_6_code 124 = .ok (.dup2, 1) := by decide +kernel
theorem d_Mo_send_125 : decode prog_12_method_6_code 125 = .ok (.iaload, 1) := by decide +kernel
theorem d_Mo_send_126 : decode prog_12_method_6_code 126 = .ok (.iconst 1, 1) := by decide +kernel
theorem d_Mo_send_127 : decode prog_12_method_6_code 127 = .ok (.iadd, 1) := by decide +kernel
theorem d_Mo_send_128 : decode prog_12_method_6_code 128 = .ok (.iastore, 1) := by decide +kernel
theorem d_Mo_send_129 : decode prog_12_method_6_code 129 = .ok (.aload_n 0, 1) := by decide +kernel
theorem d_Mo_send_130 : decode prog_12_method_6_code 130 = .ok (.dup, 1) := by decide +kernel
theorem d_Mo_send_131 : decode prog_12_method_6_code 131 = .ok (.getfield 127, 3) := by decide +kernel
theorem d_Mo_send_134 : decode prog_12_method_6_code 134 = .ok (.iconst 1, 1) := by decide +kernel
theorem d_Mo_send_135 : decode prog_12_method_6_code 135 = .ok (.iadd, 1) := by decide +kernel
theorem d_Mo_send_136 : decode prog_12_method_6_code 136 = .ok (.putfield 127, 3) := by decide +kernel
theorem d_Mo_send_139 : decode prog_12_method_6_code 139 = .ok (.return_, 1) := by decide +kernel
theorem d_Mo_gets_0 : decode prog_12_method_22_code 0 = .ok (.aload_n 0, 1) := by decide +kernel
theorem d_Mo_gets_1 : decode prog_12_method_22_code 1 = .ok (.getfield 80, 3) := by decide +kernel
theorem d_Mo_gets_4 : decode prog_12_method_22_code 4 = .ok (.iload_n 2, 1) := by decide +kernel
theorem d_Mo_gets_5 : decode prog_12_method_22_code 5 = .ok (.iaload, 1) := by decide +kernel
theorem d_Mo_gets_6 : decode prog_12_method_22_code 6 = .ok (.iconst 3, 1) := by decide +kernel
theorem d_Mo_gets_7 : decode prog_12_method_22_code 7 = .ok (.if_icmp .ne 5, 3) := by decide +kernel
theorem d_Mo_gets_10 : decode prog_12_method_22_code 10 = .ok (.iconst 0, 1) := by decide +kernel
theorem d_Mo_gets_11 : decode prog_12_method_22_code 11 = .ok (.ireturn, 1) := by decide +kernel
theorem d_Mo_gets_12 : decode prog_12_method_22_code 12 = .ok (.aload_n 0, 1) := by decide +kernel
theorem d_Mo_gets_13 : decode prog_12_method_22_code 13 = .ok (.getfield 80, 3) := by decide +kernel
theorem d_Mo_gets_16 : decode prog_12_method_22_code 16 = .ok (.iload_n 2, 1) := by decide +kernel
theorem d_Mo_gets_17 : decode prog_12_method_22_code 17 = .ok (.iaload, 1) := by decide +kernel
theorem d_Mo_gets_18 : decode prog_12_method_22_code 18 = .ok (.iconst 2, 1) := by decide +kernel
theorem d_Mo_gets_19 : decode prog_12_method_22_code 19 = .ok (.if_icmp .ne 53, 3) := by decide +kernel
theorem d_Mo_gets_22 : decode prog_12_method_22_code 22 = .ok (.aload_n 0, 1) := by decide +kernel
theorem d_Mo_gets_23 : decode prog_12_method_22_code 23 = .ok (.iload_n 1, 1) := by decide +kernel
theorem d_Mo_gets_24 : decode prog_12_method_22_code 24 = .ok (.iconst 4, 1) := by decide +kernel
theorem d_Mo_gets_25 : decode prog_12_method_22_code 25 = .ok (.iload_n 2, 1) := by decide +kernel
theorem d_Mo_gets_26 : decode prog_12_method_22_code 26 = .ok (.aload_n 0, 1) := by decide +kernel
theorem d_Mo_gets_27 : decode prog_12_method_22_code 27 = .ok (.getfield 86, 3) := by decide +kernel
theorem d_Mo_gets_30 : decode prog_12_method_22_code 30 = .ok (.iload_n 2, 1) := by decide +kernel
theorem d_Mo_gets_31 : decode prog_12_method_22_code 31 = .ok (.iaload, 1) := by decide +kernel
theorem d_Mo_gets_32 : decode prog_12_method_22_code 32 = .ok (.iload_n 3, 1) := by decide +kernel
theorem d_Mo_gets_33 : decode prog_12_method_22_code 33 = .ok (.iconst 0, 1) := by decide +kernel
theorem d_Mo_gets_34 : decode prog_12_method_22_code 34 = .ok (.iconst 0, 1) := by decide +kernel
theorem d_Mo_gets_35 : decode prog_12_method_22_code 35 = .ok (.invokevirtual 165, 3) := by decide +kernel
theorem d_Mo_gets_38 : decode prog_12_method_22_code 38 = .ok (.aload_n 0, 1) := by decide +kernel
theorem d_Mo_gets_39 : decode prog_12_method_22_code 39 = .ok (.getfield 89, 3) := by decide +kernel
theorem d_Mo_gets_42 : decode prog_12_method_22_code 42 = .ok (.iload_n 2, 1) := by decide +kernel
theorem d_Mo_gets_43 : decode prog_12_method_22_code 43 = .ok (.iconst 1, 1) := by decide +kernel
theorem d_Mo_gets_44 : decode prog_12_method_22_code 44 = .ok (.aload_n 0, 1) := by decide +kernel
theorem d_Mo_gets_45 : decode prog_12_method_22_code 45 = .ok (.getfield 86, 3) := by decide +kernel
theorem d_Mo_gets_48 : decode prog_12_method_22_code 48 = .ok (.iload_n 2, 1) := by decide +kernel
theorem d_Mo_gets_49 : decode prog_12_method_22_code 49 = .ok (.iaload, 1) := by decide +kernel
theorem d_Mo_gets_50 : decode prog_12_method_22_code 50 = .ok (.ishl, 1) := by decide +kernel
theorem d_Mo_gets_51 : decode prog_12_method_22_code 51 = .ok (.iconst 1, 1) := by decide +kernel
theorem d_Mo_gets_52 : decode prog_12_method_22_code 52 = .ok (.iload_n 3, 1) := by decide +kernel
theorem d_Mo_gets_53 : decode prog_12_method_22_code 53 = .ok (.ishl, 1) := by decide +kernel
theorem d_Mo_gets_54 : decode prog_12_method_22_code 54 = .ok (.ior, 1) := by decide +kernel
theorem d_Mo_gets_55 : decode prog_12_method_22_code 55 = .ok (.iastore, 1) := by decide +kernel
theorem d_Mo_gets_56 : decode prog_12_method_22_code 56 = .ok (.aload_n 0, 1) := by decide +kernel
theorem d_Mo_gets_57 : decode prog_12_method_22_code 57 = .ok (.getfield 86, 3) := by decide +kernel
theorem d_Mo_gets_60 : decode prog_12_method_22_code 60 = .ok (.iload_n 2, 1) := by decide +kernel
theorem d_Mo_gets_61 : decode prog_12_method_22_code 61 = .ok (.iconst (-1), 1) := by decide +kernel
theorem d_Mo_gets_62 : decode prog_12_method_22_code 62 = .ok (.iastore, 1) := by decide +kernel
theorem d_Mo_gets_63 : decode prog_12_method_22_code 63 = .ok (.aload_n 0, 1) := by decide +kernel
theorem d_Mo_gets_64 : decode prog_12_method_22_code 64 = .ok (.getfield 80, 3) := by decide +kernel
theorem d_Mo_gets_67 : decode prog_12_method_22_code 67 = .ok (.iload_n 2, 1) := by decide +kernel
theorem d_Mo_gets_68 : decode prog_12_method_22_code 68 = .ok (.iconst 3, 1) := by decide +kernel
theorem d_Mo_gets_69 : decode prog_12_method_22_code 69 = .ok (.iastore, 1) := by decide +kernel
theorem d_Mo_gets_70 : decode prog_12_method_22_code 70 = .ok (.iconst 1, 1) := by decide +kernel
theorem d_Mo_gets_71 : decode prog_12_method_22_code 71 = .ok (.ireturn, 1) := by decide +kernel
theorem d_Mo_gets_72 : decode prog_12_method_22_code 72 = .ok (.aload_n 0, 1) := by decide +kernel
theorem d_Mo_gets_73 : decode prog_12_method_22_code 73 = .ok (.iload_n 1, 1) := by decide +kernel
theorem d_Mo_gets_74 : decode prog_12_method_22_code 74 = .ok (.bipush 8, 2) := by decide +kernel
theorem d_Mo_gets_76 : decode prog_12_method_22_code 76 = .ok (.iload_n 2, 1) := by decide +kernel
theorem d_Mo_gets_77 : decode prog_12_method_22_code 77 = .ok (.iload_n 3, 1) := by decide +kernel
theorem d_Mo_gets_78 : decode prog_12_method_22_code 78 = .ok (.iconst 0, 1) := by decide +kernel
theorem d_Mo_gets_79 : decode prog_12_method_22_code 79 = .ok (.aload_n 0, 1) := by decide +kernel
theorem d_Mo_gets_80 : decode prog_12_method_22_code 80 = .ok (.getfield 83, 3) := by decide +kernel
theorem d_Mo_gets_83 : decode prog_12_method_22_code 83 = .ok (.iload_n 2, 1) := by decide +kernel
theorem d_Mo_gets_84 : decode prog_12_method_22_code 84 = .ok (.iaload, 1) := by decide +kernel
theorem d_Mo_gets_85 : decode prog_12_method_22_code 85 = .ok (.iconst 0, 1) := by decide +kernel
theorem d_Mo_gets_86 : decode prog_12_method_22_code 86 = .ok (.invokevirtual 165, 3) := by decide +kernel
theorem d_Mo_gets_89 : decode prog_12_method_22_code 89 = .ok (.aload_n 0, 1) := by decide +kernel
theorem d_Mo_gets_90 : decode prog_12_method_22_code 90 = .ok (.getfield 89, 3) := by decide +kernel
theorem d_Mo_gets_93 : decode prog_12_method_22_code 93 = .ok (.iload_n 2, 1) := by decide +kernel
theorem d_Mo_gets_94 : decode prog_12_method_22_code 94 = .ok (.dup2, 1) := by decide +kernel
theorem d_Mo_gets_95 : decode prog_12_method_22_code 95 = .ok (.iaload, 1) := by decide +kernel
theorem d_Mo_gets_96 : decode prog_12_method_22_code 96 = .ok (.iconst 1, 1) := by decide +kernel
theorem d_Mo_gets_97 : decode prog_12_method_22_code 97 = .ok (.iload_n 3, 1) := by decide +kernel
theorem d_Mo_gets_98 : decode prog_12_method_22_code 98 = .ok (.ishl, 1) := by decide +kernel
theorem d_Mo_gets_99 : decode prog_12_method_22_code 99 = .ok (.ior, 1) := by decide +kernel
theorem d_Mo_gets_100 : decode prog_12_method_22_code 100 = .ok (.iastore, 1) := by decide +kernel
theorem d_Mo_gets_101 : decode prog_12_method_22_code 101 = .ok (.aload_n 0, 1) := by decide +kernel
theorem d_Mo_gets_102 : decode prog_12_method_22_code 102 = .ok (.getfield 80, 3) := by decide +kernel
theorem d_Mo_gets_105 : decode prog_12_method_22_code 105 = .ok (.iload_n 2, 1) := by decide +kernel
theorem d_Mo_gets_106 : decode prog_12_method_22_code 106 = .ok (.iconst 1, 1) := by decide +kernel
theorem d_Mo_gets_107 : decode prog_12_method_22_code 107 = .ok (.iastore, 1) := by decide +kernel
theorem d_Mo_gets_108 : decode prog_12_method_22_code 108 = .ok (.iconst 1, 1) := by decide +kernel
theorem d_Mo_gets_109 : decode prog_12_method_22_code 109 = .ok (.ireturn, 1) := by decide +kernel
theorem d_Mo_getm_0 : decode prog_12_method_23_code 0 = .ok (.aload_n 0, 1) := by decide +kernel
theorem d_Mo_getm_1 : decode prog_12_method_23_code 1 = .ok (.getfield 80, 3) := by decide +kernel
theorem d_Mo_getm_4 : decode prog_12_method_23_code 4 = .ok (.iload_n 2, 1) := by decide +kernel
theorem d_Mo_getm_5 : decode prog_12_method_23_code 5 = .ok (.iaload, 1) := by decide +kernel
theorem d_Mo_getm_6 : decode prog_12_method_23_code 6 = .ok (.iconst 3, 1) := by decide +kernel
theorem d_Mo_getm_7 : decode prog_12_method_23_code 7 = .ok (.if_icmp .ne 5, 3) := by decide +kernel
theorem d_Mo_getm_10 : decode prog_12_method_23_code 10 = .ok (.iconst 0, 1) := by decide +kernel
theorem d_Mo_getm_11 : decode prog_12_method_23_code 11 = .ok (.ireturn, 1) := by decide +kernel
theorem d_Mo_getm_12 : decode prog_12_method_23_code 12 = .ok (.aload_n 0, 1) := by decide +kernel
theorem d_Mo_getm_13 : decode prog_12_method_23_code 13 = .ok (.getfield 80, 3) := by decide +kernel
theorem d_Mo_getm_16 : decode prog_12_method_23_code 16 = .ok (.iload_n 2, 1) := by decide +kernel
theorem d_Mo_getm_17 : decode prog_12_method_23_code 17 = .ok (.iaload, 1) := by decide +kernel
theorem d_Mo_getm_18 : decode prog_12_method_23_code 18 = .ok (.iconst 2, 1) := by decide +kernel
theorem d_Mo_getm_19 : decode prog_12_method_23_code 19 = .ok (.if_icmp .ne 28, 3) := by decide +kernel
theorem d_Mo_getm_22 : decode prog_12_method_23_code 22 = .ok (.aload_n 0, 1) := by decide +kernel
theorem d_Mo_getm_23 : decode prog_12_method_23_code 23 = .ok (.iload_n 1, 1) := by decide +kernel
theorem d_Mo_getm_24 : decode prog_12_method_23_code 24 = .ok (.iconst 5, 1) := by decide +kernel
theorem d_Mo_getm_25 : decode prog_12_method_23_code 25 = .ok (.iload_n 2, 1) := by decide +kernel
theorem d_Mo_getm_26 : decode prog_12_method_23_code 26 = .ok (.aload_n 0, 1) := by decide +kernel
theorem d_Mo_getm_27 : decode prog_12_method_23_code 27 = .ok (.getfield 86, 3) := by decide +kernel
theorem d_Mo_getm_30 : decode prog_12_method_23_code 30 = .ok (.iload_n 2, 1) := by decide +kernel
theorem d_Mo_getm_31 : decode prog_12_method_23_code 31 = .ok (.iaload, 1) := by decide +kernel
theorem d_Mo_getm_32 : decode prog_12_method_23_code 32 = .ok (.iload_n 3, 1) := by decide +kernel
theorem d_Mo_getm_33 : decode prog_12_method_23_code 33 = .ok (.iconst 0, 1) := by decide +kernel
theorem d_Mo_getm_34 : decode prog_12_method_23_code 34 = .ok (.iconst 0, 1) := by decide +kernel
theorem d_Mo_getm_35 : decode prog_12_method_23_code 35 = .ok (.invokevirtual 165, 3) := by decide +kernel
theorem d_Mo_getm_38 : decode prog_12_method_23_code 38 = .ok (.aload_n 0, 1) := by decide +kernel
theorem d_Mo_getm_39 : decode prog_12_method_23_code 39 = .ok (.getfield 86, 3) := by decide +kernel
theorem d_Mo_getm_42 : decode prog_12_method_23_code 42 = .ok (.iload_n 2, 1) := by decide +kernel
theorem d_Mo_getm_43 : decode prog_12_method_23_code 43 = .ok (.iload_n 3, 1) := by decide +kernel
theorem d_Mo_getm_44 : decode prog_12_method_23_code 44 = .ok (.iastore, 1) := by decide +kernel
theorem d_Mo_getm_45 : decode prog_12_method_23_code 45 = .ok (.iconst 1, 1) := by decide +kernel
theorem d_Mo_getm_46 : decode prog_12_method_23_code 46 = .ok (.ireturn, 1) := by decide +kernel
theorem d_Mo_getm_47 : decode prog_12_method_23_code 47 = .ok (.aload_n 0, 1) := by decide +kernel
theorem d_Mo_getm_48 : decode prog_12_method_23_code 48 = .ok (.getfield 89, 3) := by decide +kernel
theorem d_Mo_getm_51 : decode prog_12_method_23_code 51 = .ok (.iload_n 2, 1) := by decide +kernel
theorem d_Mo_getm_52 : decode prog_12_method_23_code 52 = .ok (.iaload, 1) := by decide +kernel
theorem d_Mo_getm_53 : decode prog_12_method_23_code 53 = .ok (.iconst 1, 1) := by decide +kernel
theorem d_Mo_getm_54 : decode prog_12_method_23_code 54 = .ok (.iload_n 3, 1) := by decide +kernel
theorem d_Mo_getm_55 : decode prog_12_method_23_code 55 = .ok (.ishl, 1) := by decide +kernel
theorem d_Mo_getm_56 : decode prog_12_method_23_code 56 = .ok (.iconst (-1), 1) := by decide +kernel
theorem d_Mo_getm_57 : decode prog_12_method_23_code 57 = .ok (.ixor, 1) := by decide +kernel
theorem d_Mo_getm_58 : decode prog_12_method_23_code 58 = .ok (.iand, 1) := by decide +kernel
theorem d_Mo_getm_59 : decode prog_12_method_23_code 59 = .ok (.istore 4, 2) := by decide +kernel
theorem d_Mo_getm_61 : decode prog_12_method_23_code 61 = .ok (.iconst 0, 1) := by decide +kernel
theorem d_Mo_getm_62 : decode prog_12_method_23_code 62 = .ok (.istore 5, 2) := by decide +kernel
theorem d_Mo_getm_64 : decode prog_12_method_23_code 64 = .ok (.iconst 0, 1) := by decide +kernel
theorem d_Mo_getm_65 : decode prog_12_method_23_code 65 = .ok (.istore 6, 2) := by decide +kernel
theorem d_Mo_getm_67 : decode prog_12_method_23_code 67 = .ok (.iload 6, 2) := by decide +kernel
theorem d_Mo_getm_69 : decode prog_12_method_23_code 69 = .ok (.bipush 6, 2) := by decide +kernel
theorem d_Mo_getm_71 : decode prog_12_method_23_code 71 = .ok (.if_icmp .ge 21, 3) := by decide +kernel
theorem d_Mo_getm_74 : decode prog_12_method_23_code 74 = .ok (.iload 5, 2) := by decide +kernel
theorem d_Mo_getm_76 : decode prog_12_method_23_code 76 = .ok (.iload 4, 2) := by decide +kernel
theorem d_Mo_getm_78 : decode prog_12_method_23_code 78 = .ok (.iload 6, 2) := by decide +kernel
theorem d_Mo_getm_80 : decode prog_12_method_23_code 80 = .ok (.ishr, 1) := by decide +kernel
theorem d_Mo_getm_81 : decode prog_12_method_23_code 81 = .ok (.iconst 1, 1) := by decide +kernel
theorem d_Mo_getm_82 : decode prog_12_method_23_code 82 = .ok (.iand, 1) := by decide +kernel
theorem d_Mo_getm_83 : decode prog_12_method_23_code 83 = .ok (.iadd, 1) := by decide +kernel
theorem d_Mo_getm_84 : decode prog_12_method_23_code 84 = .ok (.istore 5, 2) := by decide +kernel
theorem d_Mo_getm_86 : decode prog_12_method_23_code 86 = .ok (.iinc 6 1, 3) := by decide +kernel
theorem d_Mo_getm_89 : decode prog_12_method_23_code 89 = .ok (.goto (-22), 3) := by decide +kernel
theorem d_Mo_getm_92 : decode prog_12_method_23_code 92 = .ok (.aload_n 0, 1) := by decide +kernel
theorem d_Mo_getm_93 : decode prog_12_method_23_code 93 = .ok (.iload_n 1, 1) := by decide +kernel
theorem d_Mo_getm_94 : decode prog_12_method_23_code 94 = .ok (.bipush 8, 2) := by decide +kernel
theorem d_Mo_getm_96 : decode prog_12_method_23_code 96 = .ok (.iload_n 2, 1) := by decide +kernel
theorem d_Mo_getm_97 : decode prog_12_method_23_code 97 = .ok (.iload_n 3, 1) := by decide +kernel
theorem d_Mo_getm_98 : decode prog_12_method_23_code 98 = .ok (.iconst 0, 1) := by decide +kernel
theorem d_Mo_getm_99 : decode prog_12_method_23_code 99 = .ok (.aload_n 0, 1) := by decide +kernel
theorem d_Mo_getm_100 : decode prog_12_method_23_code 100 = .ok (.getfield 83, 3) := by decide +kernel
theorem d_Mo_getm_103 : decode prog_12_method_23_code 103 = .ok (.iload_n 2, 1) := by decide +kernel
theorem d_Mo_getm_104 : decode prog_12_method_23_code 104 = .ok (.iaload, 1) := by decide +kernel
theorem d_Mo_getm_105 : decode prog_12_method_23_code 105 = .ok (.iload 5, 2) := by decide +kernel
theorem d_Mo_getm_107 : decode prog_12_method_23_code 107 = .ok (.invokevirtual 165, 3) := by decide +kernel
theorem d_Mo_getm_110 : decode prog_12_method_23_code 110 = .ok (.iconst 0, 1) := by decide +kernel
theorem d_Mo_getm_111 : decode prog_12_method_23_code 111 = .ok (.istore 6, 2) := by decide +kernel
theorem d_Mo_getm_113 : decode prog_12_method_23_code 113 = .ok (.iload 6, 2) := by decide +kernel
theorem d_Mo_getm_115 : decode prog_12_method_23_code 115 = .ok (.bipush 6, 2) := by decide +kernel
theorem d_Mo_getm_117 : decode prog_12_method_23_code 117 = .ok (.if_icmp .ge 33, 3) := by decide +kernel
theorem d_Mo_getm_120 : decode prog_12_method_23_code 120 = .ok (.iload 4, 2) := by decide +kernel
theorem d_Mo_getm_122 : decode prog_12_method_23_code 122 = .ok (.iload 6, 2) := by decide +kernel
theorem d_Mo_getm_124 : decode prog_12_method_23_code 124 = .ok (.ishr, 1) := by decide +kernel
theorem d_Mo_getm_125 : decode prog_12_method_23_code 125 = .ok (.iconst 1, 1) := by decide +kernel
theorem d_Mo_getm_126 : decode prog_12_method_23_code 126 = .ok (.iand, 1) := by decide +kernel
theorem d_Mo_getm_127 : decode prog_12_method_23_code 127 = .ok (.iconst 1, 1) := by decide +kernel
theorem d_Mo_getm_128 : decode prog_12_method_23_code 128 = .ok (.if_icmp .ne 16, 3) := by decide +kernel
theorem d_Mo_getm_131 : decode prog_12_method_23_code 131 = .ok (.aload_n 0, 1) := by decide +kernel
theorem d_Mo_getm_132 : decode prog_12_method_23_code 132 = .ok (.iload_n 1, 1) := by decide +kernel
theorem d_Mo_getm_133 : decode prog_12_method_23_code 133 = .ok (.bipush 6, 2) := by decide +kernel
theorem d_Mo_getm_135 : decode prog_12_method_23_code 135 = .ok (.iload_n 2, 1) := by decide +kernel
theorem d_Mo_getm_136 : decode prog_12_method_23_code 136 = .ok (.iload 6, 2) := by decide +kernel
theorem d_Mo_getm_138 : decode prog_12_method_23_code 138 = .ok (.iload_n 3, 1) := by decide +kernel
theorem d_Mo_getm_139 : decode prog_12_method_23_code 139 = .ok (.iconst 0, 1) := by decide +kernel
theorem d_Mo_getm_140 : decode prog_12_method_23_code 140 = .ok (.iconst 0, 1) := by decide +kernel
theorem d_Mo_getm_141 : decode prog_12_method_23_code 141 = .ok (.invokevirtual 165, 3) := by decide +kernel
theorem d_Mo_getm_144 : decode prog_12_method_23_code 144 = .ok (.iinc 6 1, 3) := by decide +kernel
theorem d_Mo_getm_147 : decode prog_12_method_23_code 147 = .ok (.goto (-34), 3) := by decide +kernel
theorem d_Mo_getm_150 : decode prog_12_method_23_code 150 = .ok (.aload_n 0, 1) := by decide +kernel
theorem d_Mo_getm_151 : decode prog_12_method_23_code 151 = .ok (.getfield 89, 3) := by decide +kernel
theorem d_Mo_getm_154 : decode prog_12_method_23_code 154 = .ok (.iload_n 2, 1) := by decide +kernel
theorem d_Mo_getm_155 : decode prog_12_method_23_code 155 = .ok (.iconst 0, 1) := by decide +kernel
theorem d_Mo_getm_156 : decode prog_12_method_23_code 156 = .ok (.iastore, 1) := by decide +kernel
theorem d_Mo_getm_157 : decode prog_12_method_23_code 157 = .ok (.aload_n 0, 1) := by decide +kernel
theorem d_Mo_getm_158 : decode prog_12_method_23_code 158 = .ok (.getfield 86, 3) := by decide +kernel
theorem d_Mo_getm_161 : decode prog_12_method_23_code 161 = .ok (.iload_n 2, 1) := by decide +kernel
theorem d_Mo_getm_162 : decode prog_12_method_23_code 162 = .ok (.iload_n 3, 1) := by decide +kernel
theorem d_Mo_getm_163 : decode prog_12_method_23_code 163 = .ok (.iastore, 1) := by decide +kernel
theorem d_Mo_getm_164 : decode prog_12_method_23_code 164 = .ok (.aload_n 0, 1) := by decide +kernel
theorem d_Mo_getm_165 : decode prog_12_method_23_code 165 = .ok (.getfield 80, 3) := by decide +kernel
theorem d_Mo_getm_168 : decode prog_12_method_23_code 168 = .ok (.iload_n 2, 1) := by decide +kernel
theorem d_Mo_getm_169 : decode prog_12_method_23_code 169 = .ok (.iconst 2, 1) := by decide +kernel
theorem d_Mo_getm_170 : decode prog_12_method_23_code 170 = .ok (.iastore, 1) := by decide +kernel
theorem d_Mo_getm_171 : decode prog_12_method_23_code 171 = .ok (.iconst 1, 1) := by decide +kernel
theorem d_Mo_getm_172 : decode prog_12_method_23_code 172 = .ok (.ireturn, 1) := by decide +kernel
theorem d_Mo_gone_0 : decode prog_12_method_21_code 0 = .ok (.aload_n 0, 1) := by decide +kernel
theorem d_Mo_gone_1 : decode prog_12_method_21_code 1 = .ok (.getfield 89, 3) := by decide +kernel
theorem d_Mo_gone_4 : decode prog_12_method_21_code 4 = .ok (.iload_n 1, 1) := by decide +kernel
theorem d_Mo_gone_5 : decode prog_12_method_21_code 5 = .ok (.dup2, 1) := by decide +kernel
theorem d_Mo_gone_6 : decode prog_12_method_21_code 6 = .ok (.iaload, 1) := by decide +kernel
theorem d_Mo_gone_7 : decode prog_12_method_21_code 7 = .ok (.iconst 1, 1) := by decide +kernel
theorem d_Mo_gone_8 : decode prog_12_method_21_code 8 = .ok (.iload_n 2, 1) := by decide +kernel
theorem d_Mo_gone_9 : decode prog_12_method_21_code 9 = .ok (.ishl, 1) := by decide +kernel
theorem d_Mo_gone_10 : decode prog_12_method_21_code 10 = .ok (.iconst (-1), 1) := by decide +kernel
theorem d_Mo_gone_11 : decode prog_12_method_21_code 11 = .ok (.ixor, 1) := by decide +kernel
theorem d_Mo_gone_12 : decode prog_12_method_21_code 12 = .ok (.iand, 1) := by decide +kernel
theorem d_Mo_gone_13 : decode prog_12_method_21_code 13 = .ok (.iastore, 1) := by decide +kernel
theorem d_Mo_gone_14 : decode prog_12_method_21_code 14 = .ok (.aload_n 0, 1) := by decide +kernel
theorem d_Mo_gone_15 : decode prog_12_method_21_code 15 = .ok (.getfield 80, 3) := by decide +kernel
theorem d_Mo_gone_18 : decode prog_12_method_21_code 18 = .ok (.iload_n 1, 1) := by decide +kernel
theorem d_Mo_gone_19 : decode prog_12_method_21_code 19 = .ok (.iaload, 1) := by decide +kernel
theorem d_Mo_gone_20 : decode prog_12_method_21_code 20 = .ok (.iconst 1, 1) := by decide +kernel
theorem d_Mo_gone_21 : decode prog_12_method_21_code 21 = .ok (.if_icmp .ne 19, 3) := by decide +kernel
theorem d_Mo_gone_24 : decode prog_12_method_21_code 24 = .ok (.aload_n 0, 1) := by decide +kernel
theorem d_Mo_gone_25 : decode prog_12_method_21_code 25 = .ok (.getfield 89, 3) := by decide +kernel
theorem d_Mo_gone_28 : decode prog_12_method_21_code 28 = .ok (.iload_n 1, 1) := by decide +kernel
theorem d_Mo_gone_29 : decode prog_12_method_21_code 29 = .ok (.iaload, 1) := by decide +kernel
theorem d_Mo_gone_30 : decode prog_12_method_21_code 30 = .ok (.ifCond .ne 10, 3) := by decide +kernel
theorem d_Mo_gone_33 : decode prog_12_method_21_code 33 = .ok (.aload_n 0, 1) := by decide +kernel
theorem d_Mo_gone_34 : decode prog_12_method_21_code 34 = .ok (.getfield 80, 3) := by decide +kernel
theorem d_Mo_gone_37 : decode prog_12_method_21_code 37 = .ok (.iload_n 1, 1) := by decide +kernel
theorem d_Mo_gone_38 : decode prog_12_method_21_code 38 = .ok (.iconst 0, 1) := by decide +kernel
theorem d_Mo_gone_39 : decode prog_12_method_21_code 39 = .ok (.iastore, 1) := by decide +kernel
theorem d_Mo_gone_40 : decode prog_12_method_21_code 40 = .ok (.return_, 1) := by decide +kernel
theorem d_Mo_putm_0 : decode prog_12_method_24_code 0 = .ok (.aload_n 0, 1) := by decide +kernel
theorem d_Mo_putm_1 : decode prog_12_method_24_code 1 = .ok (.getfield 80, 3) := by decide +kernel
theorem d_Mo_putm_4 : decode prog_12_method_24_code 4 = .ok (.iload_n 1, 1) := by decide +kernel
theorem d_Mo_putm_5 : decode prog_12_method_24_code 5 = .ok (.iaload, 1) := by decide +kernel
theorem d_Mo_putm_6 : decode prog_12_method_24_code 6 = .ok (.iconst 2, 1) := by decide +kernel
theorem d_Mo_putm_7 : decode prog_12_method_24_code 7 = .ok (.if_icmp .ne 37, 3) := by decide +kernel
theorem d_Mo_putm_10 : decode prog_12_method_24_code 10 = .ok (.aload_n 0, 1) := by decide +kernel
theorem d_Mo_putm_11 : decode prog_12_method_24_code 11 = .ok (.getfield 86, 3) := by decide +kernel
theorem d_Mo_putm_14 : decode prog_12_method_24_code 14 = .ok (.iload_n 1, 1) := by decide +kernel
theorem d_Mo_putm_15 : decode prog_12_method_24_code 15 = .ok (.iaload, 1) := by decide +kernel
theorem d_Mo_putm_16 : decode prog_12_method_24_code 16 = .ok (.iload_n 2, 1) := by decide +kernel
theorem d_Mo_putm_17 : decode prog_12_method_24_code 17 = .ok (.if_icmp .ne 27, 3) := by decide +kernel
theorem d_Mo_putm_20 : decode prog_12_method_24_code 20 = .ok (.aload_n 0, 1) := by decide +kernel
theorem d_Mo_putm_21 : decode prog_12_method_24_code 21 = .ok (.getfield 83, 3) := by decide +kernel
theorem d_Mo_putm_24 : decode prog_12_method_24_code 24 = .ok (.iload_n 1, 1) := by decide +kernel
theorem d_Mo_putm_25 : decode prog_12_method_24_code 25 = .ok (.iload_n 3, 1) := by decide +kernel
theorem d_Mo_putm_26 : decode prog_12_method_24_code 26 = .ok (.iastore, 1) := by decide +kernel
theorem d_Mo_putm_27 : decode prog_12_method_24_code 27 = .ok (.aload_n 0, 1) := by decide +kernel
theorem d_Mo_putm_28 : decode prog_12_method_24_code 28 = .ok (.getfield 86, 3) := by decide +kernel
theorem d_Mo_putm_31 : decode prog_12_method_24_code 31 = .ok (.iload_n 1, 1) := by decide +kernel
theorem d_Mo_putm_32 : decode prog_12_method_24_code 32 = .ok (.iconst (-1), 1) := by decide +kernel
theorem d_Mo_putm_33 : decode prog_12_method_24_code 33 = .ok (.iastore, 1) := by decide +kernel
theorem d_Mo_putm_34 : decode prog_12_method_24_code 34 = .ok (.aload_n 0, 1) := by decide +kernel
theorem d_Mo_putm_35 : decode prog_12_method_24_code 35 = .ok (.getfield 80, 3) := by decide +kernel
theorem d_Mo_putm_38 : decode prog_12_method_24_code 38 = .ok (.iload_n 1, 1) := by decide +kernel
theorem d_Mo_putm_39 : decode prog_12_method_24_code 39 = .ok (.iconst 0, 1) := by decide +kernel
theorem d_Mo_putm_40 : decode prog_12_method_24_code 40 = .ok (.iastore, 1) := by decide +kernel
theorem d_Mo_putm_41 : decode prog_12_method_24_code 41 = .ok (.goto 9, 3) := by decide +kernel
theorem d_Mo_putm_44 : decode prog_12_method_24_code 44 = .ok (.aload_n 0, 1) := by decide +kernel
theorem d_Mo_putm_45 : decode prog_12_method_24_code 45 = .ok (.iload_n 1, 1) := by decide +kernel
theorem d_Mo_putm_46 : decode prog_12_method_24_code 46 = .ok (.iload_n 2, 1) := by decide +kernel
theorem d_Mo_putm_47 : decode prog_12_method_24_code 47 = .ok (.invokevirtual 175, 3) := by decide +kernel
theorem d_Mo_putm_50 : decode prog_12_method_24_code 50 = .ok (.return_, 1) := by decide +kernel
theorem d_Mo_homeOf_0 : decode prog_12_method_14_code 0 = .ok (.iload_n 0, 1) := by decide +kernel
theorem d_Mo_homeOf_1 : decode prog_12_method_14_code 1 = .ok (.bipush 6, 2) := by decide +kernel
theorem d_Mo_homeOf_3 : decode prog_12_method_14_code 3 = .ok (.irem, 1) := by decide +kernel
theorem d_Mo_homeOf_4 : decode prog_12_method_14_code 4 = .ok (.ireturn, 1) := by decide +kernel
theorem d_Mo_forward_0 : decode prog_12_method_18_code 0 = .ok (.aload_n 0, 1) := by decide +kernel
theorem d_Mo_forward_1 : decode prog_12_method_18_code 1 = .ok (.getfield 17, 3) := by decide +kernel
theorem d_Mo_forward_4 : decode prog_12_method_18_code 4 = .ok (.iload_n 2, 1) := by decide +kernel
theorem d_Mo_forward_5 : decode prog_12_method_18_code 5 = .ok (.iaload, 1) := by decide +kernel
theorem d_Mo_forward_6 : decode prog_12_method_18_code 6 = .ok (.istore 4, 2) := by decide +kernel
theorem d_Mo_forward_8 : decode prog_12_method_18_code 8 = .ok (.bipush 8, 2) := by decide +kernel
theorem d_Mo_forward_10 : decode prog_12_method_18_code 10 = .ok (.iload_n 1, 1) := by decide +kernel
theorem d_Mo_forward_11 : decode prog_12_method_18_code 11 = .ok (.imul, 1) := by decide +kernel
theorem d_Mo_forward_12 : decode prog_12_method_18_code 12 = .ok (.iload 4, 2) := by decide +kernel
theorem d_Mo_forward_14 : decode prog_12_method_18_code 14 = .ok (.iadd, 1) := by decide +kernel
theorem d_Mo_forward_15 : decode prog_12_method_18_code 15 = .ok (.istore 5, 2) := by decide +kernel
theorem d_Mo_forward_17 : decode prog_12_method_18_code 17 = .ok (.aload_n 0, 1) := by decide +kernel
theorem d_Mo_forward_18 : decode prog_12_method_18_code 18 = .ok (.getfield 68, 3) := by decide +kernel
theorem d_Mo_forward_21 : decode prog_12_method_18_code 21 = .ok (.iload 5, 2) := by decide +kernel
theorem d_Mo_forward_23 : decode prog_12_method_18_code 23 = .ok (.iaload, 1) := by decide +kernel
theorem d_Mo_forward_24 : decode prog_12_method_18_code 24 = .ok (.istore 6, 2) := by decide +kernel
theorem d_Mo_forward_26 : decode prog_12_method_18_code 26 = .ok (.iload 6, 2) := by decide +kernel
theorem d_Mo_forward_28 : decode prog_12_method_18_code 28 = .ok (.bipush 7, 2) := by decide +kernel
theorem d_Mo_forward_30 : decode prog_12_method_18_code 30 = .ok (.if_icmp .eq 12, 3) := by decide +kernel
theorem d_Mo_forward_33 : decode prog_12_method_18_code 33 = .ok (.iload 6, 2) := by decide +kernel
theorem d_Mo_forward_35 : decode prog_12_method_18_code 35 = .ok (.bipush 8, 2) := by decide +kernel
theorem d_Mo_forward_37 : decode prog_12_method_18_code 37 = .ok (.if_icmp .eq 5, 3) := by decide +kernel
theorem d_Mo_forward_40 : decode prog_12_method_18_code 40 = .ok (.iconst 0, 1) := by decide +kernel
theorem d_Mo_forward_41 : decode prog_12_method_18_code 41 = .ok (.ireturn, 1) := by decide +kernel
theorem d_Mo_forward_42 : decode prog_12_method_18_code 42 = .ok (.aload_n 0, 1) := by decide +kernel
theorem d_Mo_forward_43 : decode prog_12_method_18_code 43 = .ok (.iload_n 1, 1) := by decide +kernel
theorem d_Mo_forward_44 : decode prog_12_method_18_code 44 = .ok (.bipush 8, 2) := by decide +kernel
theorem d_Mo_forward_46 : decode prog_12_method_18_code 46 = .ok (.iload 4, 2) := by decide +kernel
theorem d_Mo_forward_48 : decode prog_12_method_18_code 48 = .ok (.aload_n 0, 1) := by decide +kernel
theorem d_Mo_forward_49 : decode prog_12_method_18_code 49 = .ok (.getfield 26, 3) := by decide +kernel
theorem d_Mo_forward_52 : decode prog_12_method_18_code 52 = .ok (.iload_n 2, 1) := by decide +kernel
theorem d_Mo_forward_53 : decode prog_12_method_18_code 53 = .ok (.iaload, 1) := by decide +kernel
theorem d_Mo_forward_54 : decode prog_12_method_18_code 54 = .ok (.iconst 0, 1) := by decide +kernel
theorem d_Mo_forward_55 : decode prog_12_method_18_code 55 = .ok (.aload_n 0, 1) := by decide +kernel
theorem d_Mo_forward_56 : decode prog_12_method_18_code 56 = .ok (.getfield 71, 3) := by decide +kernel
theorem d_Mo_forward_59 : decode prog_12_method_18_code 59 = .ok (.iload 5, 2) := by decide +kernel
theorem d_Mo_forward_61 : decode prog_12_method_18_code 61 = .ok (.iaload, 1) := by decide +kernel
theorem d_Mo_forward_62 : decode prog_12_method_18_code 62 = .ok (.iconst 0, 1) := by decide +kernel
theorem d_Mo_forward_63 : decode prog_12_method_18_code 63 = .ok (.invokevirtual 165, 3) := by decide +kernel
theorem d_Mo_forward_66 : decode prog_12_method_18_code 66 = .ok (.iload_n 3, 1) := by decide +kernel
theorem d_Mo_forward_67 : decode prog_12_method_18_code 67 = .ok (.ifCond .eq 26, 3) := by decide +kernel
theorem d_Mo_forward_70 : decode prog_12_method_18_code 70 = .ok (.aload_n 0, 1) := by decide +kernel
theorem d_Mo_forward_71 : decode prog_12_method_18_code 71 = .ok (.iload_n 1, 1) := by decide +kernel
theorem d_Mo_forward_72 : decode prog_12_method_18_code 72 = .ok (.bipush 10, 2) := by decide +kernel
theorem d_Mo_forward_74 : decode prog_12_method_18_code 74 = .ok (.iload 4, 2) := by decide +kernel
theorem d_Mo_forward_76 : decode prog_12_method_18_code 76 = .ok (.iload 4, 2) := by decide +kernel
theorem d_Mo_forward_78 : decode prog_12_method_18_code 78 = .ok (.invokestatic 169, 3) := by decide +kernel
theorem d_Mo_forward_81 : decode prog_12_method_18_code 81 = .ok (.iconst 0, 1) := by decide +kernel
theorem d_Mo_forward_82 : decode prog_12_method_18_code 82 = .ok (.aload_n 0, 1) := by decide +kernel
theorem d_Mo_forward_83 : decode prog_12_method_18_code 83 = .ok (.getfield 71, 3) := by decide +kernel
theorem d_Mo_forward_86 : decode prog_12_method_18_code 86 = .ok (.iload 5, 2) := by decide +kernel
theorem d_Mo_forward_88 : decode prog_12_method_18_code 88 = .ok (.iaload, 1) := by decide +kernel
theorem d_Mo_forward_89 : decode prog_12_method_18_code 89 = .ok (.iconst 0, 1) := by decide +kernel
theorem d_Mo_forward_90 : decode prog_12_method_18_code 90 = .ok (.invokevirtual 165, 3) := by decide +kernel
theorem d_Mo_forward_93 : decode prog_12_method_18_code 93 = .ok (.aload_n 0, 1) := by decide +kernel
theorem d_Mo_forward_94 : decode prog_12_method_18_code 94 = .ok (.getfield 68, 3) := by decide +kernel
theorem d_Mo_forward_97 : decode prog_12_method_18_code 97 = .ok (.iload 5, 2) := by decide +kernel
theorem d_Mo_forward_99 : decode prog_12_method_18_code 99 = .ok (.iload_n 3, 1) := by decide +kernel
theorem d_Mo_forward_100 : decode prog_12_method_18_code 100 = .ok (.ifCond .eq 19, 3) := by decide +kernel
theorem d_Mo_forward_103 : decode prog_12_method_18_code 103 = .ok (.iload 6, 2) := by decide +kernel
theorem d_Mo_forward_105 : decode prog_12_method_18_code 105 = .ok (.bipush 7, 2) := by decide +kernel
theorem d_Mo_forward_107 : decode prog_12_method_18_code 107 = .ok (.if_icmp .ne 7, 3) := by decide +kernel
theorem d_Mo_forward_110 : decode prog_12_method_18_code 110 = .ok (.iconst 4, 1) := by decide +kernel
theorem d_Mo_forward_111 : decode prog_12_method_18_code 111 = .ok (.goto 21, 3) := by decide +kernel
theorem d_Mo_forward_114 : decode prog_12_method_18_code 114 = .ok (.bipush 9, 2) := by decide +kernel
theorem d_Mo_forward_116 : decode prog_12_method_18_code 116 = .ok (.goto 16, 3) := by decide +kernel
theorem d_Mo_forward_119 : decode prog_12_method_18_code 119 = .ok (.iload 6, 2) := by decide +kernel
theorem d_Mo_forward_121 : decode prog_12_method_18_code 121 = .ok (.bipush 7, 2) := by decide +kernel
theorem d_Mo_forward_123 : decode prog_12_method_18_code 123 = .ok (.if_icmp .ne 7, 3) := by decide +kernel
theorem d_Mo_forward_126 : decode prog_12_method_18_code 126 = .ok (.iconst 0, 1) := by decide +kernel
theorem d_Mo_forward_127 : decode prog_12_method_18_code 127 = .ok (.goto 5, 3) := by decide +kernel
theorem d_Mo_forward_130 : decode prog_12_method_18_code 130 = .ok (.bipush 10, 2) := by decide +kernel
theorem d_Mo_forward_132 : decode prog_12_method_18_code 132 = .ok (.iastore, 1) := by decide +kernel
theorem d_Mo_forward_133 : decode prog_12_method_18_code 133 = .ok (.aload_n 0, 1) := by decide +kernel
theorem d_Mo_forward_134 : decode prog_12_method_18_code 134 = .ok (.getfield 71, 3) := by decide +kernel
theorem d_Mo_forward_137 : decode prog_12_method_18_code 137 = .ok (.iload 5, 2) := by decide +kernel
theorem d_Mo_forward_139 : decode prog_12_method_18_code 139 = .ok (.aload_n 0, 1) := by decide +kernel
theorem d_Mo_forward_140 : decode prog_12_method_18_code 140 = .ok (.getfield 68, 3) := by decide +kernel
theorem d_Mo_forward_143 : decode prog_12_method_18_code 143 = .ok (.iload 5, 2) := by decide +kernel
theorem d_Mo_forward_145 : decode prog_12_method_18_code 145 = .ok (.iaload, 1) := by decide +kernel
theorem d_Mo_forward_146 : decode prog_12_method_18_code 146 = .ok (.ifCond .ne 7, 3) := by decide +kernel
theorem d_Mo_forward_149 : decode prog_12_method_18_code 149 = .ok (.iconst 0, 1) := by decide +kernel
theorem d_Mo_forward_150 : decode prog_12_method_18_code 150 = .ok (.goto 10, 3) := by decide +kernel
theorem d_Mo_forward_153 : decode prog_12_method_18_code 153 = .ok (.aload_n 0, 1) := by decide +kernel
theorem d_Mo_forward_154 : decode prog_12_method_18_code 154 = .ok (.getfield 71, 3) := by decide +kernel
theorem d_Mo_forward_157 : decode prog_12_method_18_code 157 = .ok (.iload 5, 2) := by decide +kernel
theorem d_Mo_forward_159 : decode prog_12_method_18_code 159 = .ok (.iaload, 1) := by decide +kernel
theorem d_Mo_forward_160 : decode prog_12_method_18_code 160 = .ok (.iastore, 1) := by decide +kernel
theorem d_Mo_forward_161 : decode prog_12_method_18_code 161 = .ok (.iconst 1, 1) := by decide +kernel
theorem d_Mo_forward_162 : decode prog_12_method_18_code 162 = .ok (.ireturn, 1) := by decide +kernel
theorem d_Mo_invalidate_0 : decode prog_12_method_17_code 0 = .ok (.aload_n 0, 1) := by decide +kernel
theorem d_Mo_invalidate_1 : decode prog_12_method_17_code 1 = .ok (.getfield 17, 3) := by decide +kernel
theorem d_Mo_invalidate_4 : decode prog_12_method_17_code 4 = .ok (.iload_n 2, 1) := by decide +kernel
theorem d_Mo_invalidate_5 : decode prog_12_method_17_code 5 = .ok (.iaload, 1) := by decide +kernel
theorem d_Mo_invalidate_6 : decode prog_12_method_17_code 6 = .ok (.istore_n 3, 1) := by decide +kernel
theorem d_Mo_invalidate_7 : decode prog_12_method_17_code 7 = .ok (.bipush 8, 2) := by decide +kernel
theorem d_Mo_invalidate_9 : decode prog_12_method_17_code 9 = .ok (.iload_n 1, 1) := by decide +kernel
theorem d_Mo_invalidate_10 : decode prog_12_method_17_code 10 = .ok (.imul, 1) := by decide +kernel
theorem d_Mo_invalidate_11 : decode prog_12_method_17_code 11 = .ok (.iload_n 3, 1) := by decide +kernel
theorem d_Mo_invalidate_12 : decode prog_12_method_17_code 12 = .ok (.iadd, 1) := by decide +kernel
theorem d_Mo_invalidate_13 : decode prog_12_method_17_code 13 = .ok (.istore 4, 2) := by decide +kernel
theorem d_Mo_invalidate_15 : decode prog_12_method_17_code 15 = .ok (.aload_n 0, 1) := by decide +kernel
theorem d_Mo_invalidate_16 : decode prog_12_method_17_code 16 = .ok (.getfield 68, 3) := by decide +kernel
theorem d_Mo_invalidate_19 : decode prog_12_method_17_code 19 = .ok (.iload 4, 2) := by decide +kernel
theorem d_Mo_invalidate_21 : decode prog_12_method_17_code 21 = .ok (.iaload, 1) := by decide +kernel
theorem d_Mo_invalidate_22 : decode prog_12_method_17_code 22 = .ok (.istore 5, 2) := by decide +kernel
theorem d_Mo_invalidate_24 : decode prog_12_method_17_code 24 = .ok (.iload 5, 2) := by decide +kernel
theorem d_Mo_invalidate_26 : decode prog_12_method_17_code 26 = .ok (.iconst 4, 1) := by decide +kernel
theorem d_Mo_invalidate_27 : decode prog_12_method_17_code 27 = .ok (.if_icmp .eq 18, 3) := by decide +kernel
theorem d_Mo_invalidate_30 : decode prog_12_method_17_code 30 = .ok (.iload 5, 2) := by decide +kernel
theorem d_Mo_invalidate_32 : decode prog_12_method_17_code 32 = .ok (.iconst 5, 1) := by decide +kernel
theorem d_Mo_invalidate_33 : decode prog_12_method_17_code 33 = .ok (.if_icmp .eq 12, 3) := by decide +kernel
theorem d_Mo_invalidate_36 : decode prog_12_method_17_code 36 = .ok (.iload 5, 2) := by decide +kernel
theorem d_Mo_invalidate_38 : decode prog_12_method_17_code 38 = .ok (.bipush 9, 2) := by decide +kernel
theorem d_Mo_invalidate_40 : decode prog_12_method_17_code 40 = .ok (.if_icmp .eq 5, 3) := by decide +kernel
theorem d_Mo_invalidate_43 : decode prog_12_method_17_code 43 = .ok (.iconst 0, 1) := by decide +kernel
theorem d_Mo_invalidate_44 : decode prog_12_method_17_code 44 = .ok (.ireturn, 1) := by decide +kernel
theorem d_Mo_invalidate_45 : decode prog_12_method_17_code 45 = .ok (.aload_n 0, 1) := by decide +kernel
theorem d_Mo_invalidate_46 : decode prog_12_method_17_code 46 = .ok (.getfield 68, 3) := by decide +kernel
theorem d_Mo_invalidate_49 : decode prog_12_method_17_code 49 = .ok (.iload 4, 2) := by decide +kernel
theorem d_Mo_invalidate_51 : decode prog_12_method_17_code 51 = .ok (.iload 5, 2) := by decide +kernel
theorem d_Mo_invalidate_53 : decode prog_12_method_17_code 53 = .ok (.iconst 4, 1) := by decide +kernel
theorem d_Mo_invalidate_54 : decode prog_12_method_17_code 54 = .ok (.if_icmp .ne 7, 3) := by decide +kernel
theorem d_Mo_invalidate_57 : decode prog_12_method_17_code 57 = .ok (.iconst 0, 1) := by decide +kernel
theorem d_Mo_invalidate_58 : decode prog_12_method_17_code 58 = .ok (.goto 15, 3) := by decide +kernel
theorem d_Mo_invalidate_61 : decode prog_12_method_17_code 61 = .ok (.iload 5, 2) := by decide +kernel
theorem d_Mo_invalidate_63 : decode prog_12_method_17_code 63 = .ok (.iconst 5, 1) := by decide +kernel
theorem d_Mo_invalidate_64 : decode prog_12_method_17_code 64 = .ok (.if_icmp .ne 7, 3) := by decide +kernel
theorem d_Mo_invalidate_67 : decode prog_12_method_17_code 67 = .ok (.iconst 2, 1) := by decide +kernel
theorem d_Mo_invalidate_68 : decode prog_12_method_17_code 68 = .ok (.goto 5, 3) := by decide +kernel
theorem d_Mo_invalidate_71 : decode prog_12_method_17_code 71 = .ok (.bipush 10, 2) := by decide +kernel
theorem d_Mo_invalidate_73 : decode prog_12_method_17_code 73 = .ok (.iastore, 1) := by decide +kernel
theorem d_Mo_invalidate_74 : decode prog_12_method_17_code 74 = .ok (.aload_n 0, 1) := by decide +kernel
theorem d_Mo_invalidate_75 : decode prog_12_method_17_code 75 = .ok (.getfield 71, 3) := by decide +kernel
theorem d_Mo_invalidate_78 : decode prog_12_method_17_code 78 = .ok (.iload 4, 2) := by decide +kernel
theorem d_Mo_invalidate_80 : decode prog_12_method_17_code 80 = .ok (.iload 5, 2) := by decide +kernel
theorem d_Mo_invalidate_82 : decode prog_12_method_17_code 82 = .ok (.iconst 4, 1) := by decide +kernel
theorem d_Mo_invalidate_83 : decode prog_12_method_17_code 83 = .ok (.if_icmp .ne 7, 3) := by decide +kernel
theorem d_Mo_invalidate_86 : decode prog_12_method_17_code 86 = .ok (.iconst 0, 1) := by decide +kernel
theorem d_Mo_invalidate_87 : decode prog_12_method_17_code 87 = .ok (.goto 10, 3) := by decide +kernel
theorem d_Mo_invalidate_90 : decode prog_12_method_17_code 90 = .ok (.aload_n 0, 1) := by decide +kernel
theorem d_Mo_invalidate_91 : decode prog_12_method_17_code 91 = .ok (.getfield 71, 3) := by decide +kernel
theorem d_Mo_invalidate_94 : decode prog_12_method_17_code 94 = .ok (.iload 4, 2) := by decide +kernel
theorem d_Mo_invalidate_96 : decode prog_12_method_17_code 96 = .ok (.iaload, 1) := by decide +kernel
theorem d_Mo_invalidate_97 : decode prog_12_method_17_code 97 = .ok (.iastore, 1) := by decide +kernel
theorem d_Mo_invalidate_98 : decode prog_12_method_17_code 98 = .ok (.aload_n 0, 1) := by decide +kernel
theorem d_Mo_invalidate_99 : decode prog_12_method_17_code 99 = .ok (.iload_n 1, 1) := by decide +kernel
theorem d_Mo_invalidate_100 : decode prog_12_method_17_code 100 = .ok (.bipush 9, 2) := by decide +kernel
theorem d_Mo_invalidate_102 : decode prog_12_method_17_code 102 = .ok (.iload_n 3, 1) := by decide +kernel
theorem d_Mo_invalidate_103 : decode prog_12_method_17_code 103 = .ok (.aload_n 0, 1) := by decide +kernel
theorem d_Mo_invalidate_104 : decode prog_12_method_17_code 104 = .ok (.getfield 26, 3) := by decide +kernel
theorem d_Mo_invalidate_107 : decode prog_12_method_17_code 107 = .ok (.iload_n 2, 1) := by decide +kernel
theorem d_Mo_invalidate_108 : decode prog_12_method_17_code 108 = .ok (.iaload, 1) := by decide +kernel
theorem d_Mo_invalidate_109 : decode prog_12_method_17_code 109 = .ok (.iconst 0, 1) := by decide +kernel
theorem d_Mo_invalidate_110 : decode prog_12_method_17_code 110 = .ok (.iconst 0, 1) := by decide +kernel
theorem d_Mo_invalidate_111 : decode prog_12_method_17_code 111 = .ok (.iconst 0, 1) := by decide +kernel
theorem d_Mo_invalidate_112 : decode prog_12_method_17_code 112 = .ok (.invokevirtual 165, 3) := by decide +kernel
theorem d_Mo_invalidate_115 : decode prog_12_method_17_code 115 = .ok (.iconst 1, 1) := by decide +kernel
theorem d_Mo_invalidate_116 : decode prog_12_method_17_code 116 = .ok (.ireturn, 1) := by decide +kernel
theorem d_Mo_finish_0 : decode prog_12_method_15_code 0 = .ok (.bipush 40, 2) := by decide +kernel
theorem d_Mo_finish_2 : decode prog_12_method_15_code 2 = .ok (.iload_n 1, 1) := by decide +kernel
theorem d_Mo_finish_3 : decode prog_12_method_15_code 3 = .ok (.imul, 1) := by decide +kernel
theorem d_Mo_finish_4 : decode prog_12_method_15_code 4 = .ok (.aload_n 0, 1) := by decide +kernel
theorem d_Mo_finish_5 : decode prog_12_method_15_code 5 = .ok (.getfield 110, 3) := by decide +kernel
theorem d_Mo_finish_8 : decode prog_12_method_15_code 8 = .ok (.iload_n 1, 1) := by decide +kernel
theorem d_Mo_finish_9 : decode prog_12_method_15_code 9 = .ok (.iaload, 1) := by decide +kernel
theorem d_Mo_finish_10 : decode prog_12_method_15_code 10 = .ok (.iadd, 1) := by decide +kernel
theorem d_Mo_finish_11 : decode prog_12_method_15_code 11 = .ok (.istore_n 3, 1) := by decide +kernel
theorem d_Mo_finish_12 : decode prog_12_method_15_code 12 = .ok (.bipush 8, 2) := by decide +kernel
theorem d_Mo_finish_14 : decode prog_12_method_15_code 14 = .ok (.iload_n 1, 1) := by decide +kernel
theorem d_Mo_finish_15 : decode prog_12_method_15_code 15 = .ok (.imul, 1) := by decide +kernel
theorem d_Mo_finish_16 : decode prog_12_method_15_code 16 = .ok (.iload_n 2, 1) := by decide +kernel
theorem d_Mo_finish_17 : decode prog_12_method_15_code 17 = .ok (.iadd, 1) := by decide +kernel
theorem d_Mo_finish_18 : decode prog_12_method_15_code 18 = .ok (.istore 4, 2) := by decide +kernel
theorem d_Mo_finish_20 : decode prog_12_method_15_code 20 = .ok (.aload_n 0, 1) := by decide +kernel
theorem d_Mo_finish_21 : decode prog_12_method_15_code 21 = .ok (.getfield 104, 3) := by decide +kernel
theorem d_Mo_finish_24 : decode prog_12_method_15_code 24 = .ok (.iload_n 3, 1) := by decide +kernel
theorem d_Mo_finish_25 : decode prog_12_method_15_code 25 = .ok (.aload_n 0, 1) := by decide +kernel
theorem d_Mo_finish_26 : decode prog_12_method_15_code 26 = .ok (.getfield 92, 3) := by decide +kernel
theorem d_Mo_finish_29 : decode prog_12_method_15_code 29 = .ok (.iload_n 3, 1) := by decide +kernel
theorem d_Mo_finish_30 : decode prog_12_method_15_code 30 = .ok (.iaload, 1) := by decide +kernel
theorem d_Mo_finish_31 : decode prog_12_method_15_code 31 = .ok (.iconst 1, 1) := by decide +kernel
theorem d_Mo_finish_32 : decode prog_12_method_15_code 32 = .ok (.if_icmp .ne 7, 3) := by decide +kernel
theorem d_Mo_finish_35 : decode prog_12_method_15_code 35 = .ok (.iconst 0, 1) := by decide +kernel
theorem d_Mo_finish_36 : decode prog_12_method_15_code 36 = .ok (.goto 10, 3) := by decide +kernel
theorem d_Mo_finish_39 : decode prog_12_method_15_code 39 = .ok (.aload_n 0, 1) := by decide +kernel
theorem d_Mo_finish_40 : decode prog_12_method_15_code 40 = .ok (.getfield 71, 3) := by decide +kernel
theorem d_Mo_finish_43 : decode prog_12_method_15_code 43 = .ok (.iload 4, 2) := by decide +kernel
theorem d_Mo_finish_45 : decode prog_12_method_15_code 45 = .ok (.iaload, 1) := by decide +kernel
theorem d_Mo_finish_46 : decode prog_12_method_15_code 46 = .ok (.iastore, 1) := by decide +kernel
theorem d_Mo_finish_47 : decode prog_12_method_15_code 47 = .ok (.aload_n 0, 1) := by decide +kernel
theorem d_Mo_finish_48 : decode prog_12_method_15_code 48 = .ok (.getfield 71, 3) := by decide +kernel
theorem d_Mo_finish_51 : decode prog_12_method_15_code 51 = .ok (.iload 4, 2) := by decide +kernel
theorem d_Mo_finish_53 : decode prog_12_method_15_code 53 = .ok (.aload_n 0, 1) := by decide +kernel
theorem d_Mo_finish_54 : decode prog_12_method_15_code 54 = .ok (.getfield 92, 3) := by decide +kernel
theorem d_Mo_finish_57 : decode prog_12_method_15_code 57 = .ok (.iload_n 3, 1) := by decide +kernel
theorem d_Mo_finish_58 : decode prog_12_method_15_code 58 = .ok (.iaload, 1) := by decide +kernel
theorem d_Mo_finish_59 : decode prog_12_method_15_code 59 = .ok (.ifCond .ne 13, 3) := by decide +kernel
theorem d_Mo_finish_62 : decode prog_12_method_15_code 62 = .ok (.aload_n 0, 1) := by decide +kernel
theorem d_Mo_finish_63 : decode prog_12_method_15_code 63 = .ok (.getfield 71, 3) := by decide +kernel
theorem d_Mo_finish_66 : decode prog_12_method_15_code 66 = .ok (.iload 4, 2) := by decide +kernel
theorem d_Mo_finish_68 : decode prog_12_method_15_code 68 = .ok (.iaload, 1) := by decide +kernel
theorem d_Mo_finish_69 : decode prog_12_method_15_code 69 = .ok (.goto 9, 3) := by decide +kernel
theorem d_Mo_finish_72 : decode prog_12_method_15_code 72 = .ok (.aload_n 0, 1) := by decide +kernel
theorem d_Mo_finish_73 : decode prog_12_method_15_code 73 = .ok (.getfield 98, 3) := by decide +kernel
theorem d_Mo_finish_76 : decode prog_12_method_15_code 76 = .ok (.iload_n 3, 1) := by decide +kernel
theorem d_Mo_finish_77 : decode prog_12_method_15_code 77 = .ok (.iaload, 1) := by decide +kernel
theorem d_Mo_finish_78 : decode prog_12_method_15_code 78 = .ok (.iastore, 1) := by decide +kernel
theorem d_Mo_finish_79 : decode prog_12_method_15_code 79 = .ok (.aload_n 0, 1) := by decide +kernel
theorem d_Mo_finish_80 : decode prog_12_method_15_code 80 = .ok (.getfield 77, 3) := by decide +kernel
theorem d_Mo_finish_83 : decode prog_12_method_15_code 83 = .ok (.iload 4, 2) := by decide +kernel
theorem d_Mo_finish_85 : decode prog_12_method_15_code 85 = .ok (.aload_n 0, 1) := by decide +kernel
theorem d_Mo_finish_86 : decode prog_12_method_15_code 86 = .ok (.getfield 130, 3) := by decide +kernel
theorem d_Mo_finish_89 : decode prog_12_method_15_code 89 = .ok (.iastore, 1) := by decide +kernel
theorem d_Mo_finish_90 : decode prog_12_method_15_code 90 = .ok (.aload_n 0, 1) := by decide +kernel
theorem d_Mo_finish_91 : decode prog_12_method_15_code 91 = .ok (.getfield 110, 3) := by decide +kernel
theorem d_Mo_finish_94 : decode prog_12_method_15_code 94 = .ok (.iload_n 1, 1) := by decide +kernel
theorem d_Mo_finish_95 : decode prog_12_method_15_code 95 = .ok (.dup2, 1) := by decide +kernel
theorem d_Mo_finish_96 : decode prog_12_method_15_code 96 = .ok (.iaload, 1) := by decide +kernel
theorem d_Mo_finish_97 : decode prog_12_method_15_code 97 = .ok (.iconst 1, 1) := by decide +kernel
theorem d_Mo_finish_98 : decode prog_12_method_15_code 98 = .ok (.iadd, 1) := by decide +kernel
theorem d_Mo_finish_99 : decode prog_12_method_15_code 99 = .ok (.iastore, 1) := by decide +kernel
theorem d_Mo_finish_100 : decode prog_12_method_15_code 100 = .ok (.return_, 1) := by decide +kernel
theorem d_Mo_become_0 : decode prog_12_method_16_code 0 = .ok (.aload_n 0, 1) := by decide +kernel
theorem d_Mo_become_1 : decode prog_12_method_16_code 1 = .ok (.getfield 68, 3) := by decide +kernel
theorem d_Mo_become_4 : decode prog_12_method_16_code 4 = .ok (.bipush 8, 2) := by decide +kernel
theorem d_Mo_become_6 : decode prog_12_method_16_code 6 = .ok (.iload_n 1, 1) := by decide +kernel
theorem d_Mo_become_7 : decode prog_12_method_16_code 7 = .ok (.imul, 1) := by decide +kernel
theorem d_Mo_become_8 : decode prog_12_method_16_code 8 = .ok (.iload_n 2, 1) := by decide +kernel
theorem d_Mo_become_9 : decode prog_12_method_16_code 9 = .ok (.iadd, 1) := by decide +kernel
theorem d_Mo_become_10 : decode prog_12_method_16_code 10 = .ok (.iload_n 3, 1) := by decide +kernel
theorem d_Mo_become_11 : decode prog_12_method_16_code 11 = .ok (.iastore, 1) := by decide +kernel
theorem d_Mo_become_12 : decode prog_12_method_16_code 12 = .ok (.iload_n 3, 1) := by decide +kernel
theorem d_Mo_become_13 : decode prog_12_method_16_code 13 = .ok (.iconst 4, 1) := by decide +kernel
theorem d_Mo_become_14 : decode prog_12_method_16_code 14 = .ok (.if_icmp .eq 9, 3) := by decide +kernel
theorem d_Mo_become_17 : decode prog_12_method_16_code 17 = .ok (.iload_n 3, 1) := by decide +kernel
theorem d_Mo_become_18 : decode prog_12_method_16_code 18 = .ok (.bipush 7, 2) := by decide +kernel
theorem d_Mo_become_20 : decode prog_12_method_16_code 20 = .ok (.if_icmp .ne 16, 3) := by decide +kernel
theorem d_Mo_become_23 : decode prog_12_method_16_code 23 = .ok (.aload_n 0, 1) := by decide +kernel
theorem d_Mo_become_24 : decode prog_12_method_16_code 24 = .ok (.iload_n 1, 1) := by decide +kernel
theorem d_Mo_become_25 : decode prog_12_method_16_code 25 = .ok (.iload_n 2, 1) := by decide +kernel
theorem d_Mo_become_26 : decode prog_12_method_16_code 26 = .ok (.invokevirtual 161, 3) := by decide +kernel
theorem d_Mo_become_29 : decode prog_12_method_16_code 29 = .ok (.aload_n 0, 1) := by decide +kernel
theorem d_Mo_become_30 : decode prog_12_method_16_code 30 = .ok (.getfield 113, 3) := by decide +kernel
theorem d_Mo_become_33 : decode prog_12_method_16_code 33 = .ok (.iload_n 1, 1) := by decide +kernel
theorem d_Mo_become_34 : decode prog_12_method_16_code 34 = .ok (.iconst 1, 1) := by decide +kernel
theorem d_Mo_become_35 : decode prog_12_method_16_code 35 = .ok (.bastore, 1) := by decide +kernel
theorem d_Mo_become_36 : decode prog_12_method_16_code 36 = .ok (.return_, 1) := by decide +kernel
theorem d_Mo_data_0 : decode prog_12_method_19_code 0 = .ok (.aload_n 0, 1) := by decide +kernel
theorem d_Mo_data_1 : decode prog_12_method_19_code 1 = .ok (.getfield 17, 3) := by decide +kernel
theorem d_Mo_data_4 : decode prog_12_method_19_code 4 = .ok (.iload_n 2, 1) := by decide +kernel
theorem d_Mo_data_5 : decode prog_12_method_19_code 5 = .ok (.iaload, 1) := by decide +kernel
theorem d_Mo_data_6 : decode prog_12_method_19_code 6 = .ok (.istore_n 3, 1) := by decide +kernel
theorem d_Mo_data_7 : decode prog_12_method_19_code 7 = .ok (.bipush 8, 2) := by decide +kernel
theorem d_Mo_data_9 : decode prog_12_method_19_code 9 = .ok (.iload_n 1, 1) := by decide +kernel
theorem d_Mo_data_10 : decode prog_12_method_19_code 10 = .ok (.imul, 1) := by decide +kernel
theorem d_Mo_data_11 : decode prog_12_method_19_code 11 = .ok (.iload_n 3, 1) := by decide +kernel
theorem d_Mo_data_12 : decode prog_12_method_19_code 12 = .ok (.iadd, 1) := by decide +kernel
theorem d_Mo_data_13 : decode prog_12_method_19_code 13 = .ok (.istore 4, 2) := by decide +kernel
theorem d_Mo_data_15 : decode prog_12_method_19_code 15 = .ok (.aload_n 0, 1) := by decide +kernel
theorem d_Mo_data_16 : decode prog_12_method_19_code 16 = .ok (.getfield 68, 3) := by decide +kernel
theorem d_Mo_data_19 : decode prog_12_method_19_code 19 = .ok (.iload 4, 2) := by decide +kernel
theorem d_Mo_data_21 : decode prog_12_method_19_code 21 = .ok (.iaload, 1) := by decide +kernel
theorem d_Mo_data_22 : decode prog_12_method_19_code 22 = .ok (.istore 5, 2) := by decide +kernel
theorem d_Mo_data_24 : decode prog_12_method_19_code 24 = .ok (.aload_n 0, 1) := by decide +kernel
theorem d_Mo_data_25 : decode prog_12_method_19_code 25 = .ok (.getfield 74, 3) := by decide +kernel
theorem d_Mo_data_28 : decode prog_12_method_19_code 28 = .ok (.iload 4, 2) := by decide +kernel
theorem d_Mo_data_30 : decode prog_12_method_19_code 30 = .ok (.dup2, 1) := by decide +kernel
theorem d_Mo_data_31 : decode prog_12_method_19_code 31 = .ok (.iaload, 1) := by decide +kernel
theorem d_Mo_data_32 : decode prog_12_method_19_code 32 = .ok (.aload_n 0, 1) := by decide +kernel
theorem d_Mo_data_33 : decode prog_12_method_19_code 33 = .ok (.getfield 32, 3) := by decide +kernel
theorem d_Mo_data_36 : decode prog_12_method_19_code 36 = .ok (.iload_n 2, 1) := by decide +kernel
theorem d_Mo_data_37 : decode prog_12_method_19_code 37 = .ok (.iaload, 1) := by decide +kernel
theorem d_Mo_data_38 : decode prog_12_method_19_code 38 = .ok (.iadd, 1) := by decide +kernel
theorem d_Mo_data_39 : decode prog_12_method_19_code 39 = .ok (.iastore, 1) := by decide +kernel
theorem d_Mo_data_40 : decode prog_12_method_19_code 40 = .ok (.aload_n 0, 1) := by decide +kernel
theorem d_Mo_data_41 : decode prog_12_method_19_code 41 = .ok (.getfield 71, 3) := by decide +kernel
theorem d_Mo_data_44 : decode prog_12_method_19_code 44 = .ok (.iload 4, 2) := by decide +kernel
theorem d_Mo_data_46 : decode prog_12_method_19_code 46 = .ok (.aload_n 0, 1) := by decide +kernel
theorem d_Mo_data_47 : decode prog_12_method_19_code 47 = .ok (.getfield 29, 3) := by decide +kernel
theorem d_Mo_data_50 : decode prog_12_method_19_code 50 = .ok (.iload_n 2, 1) := by decide +kernel
theorem d_Mo_data_51 : decode prog_12_method_19_code 51 = .ok (.iaload, 1) := by decide +kernel
theorem d_Mo_data_52 : decode prog_12_method_19_code 52 = .ok (.iastore, 1) := by decide +kernel
theorem d_Mo_data_53 : decode prog_12_method_19_code 53 = .ok (.iload 5, 2) := by decide +kernel
theorem d_Mo_data_55 : decode prog_12_method_19_code 55 = .ok (.iconst 1, 1) := by decide +kernel
theorem d_Mo_data_56 : decode prog_12_method_19_code 56 = .ok (.if_icmp .ne 13, 3) := by decide +kernel
theorem d_Mo_data_59 : decode prog_12_method_19_code 59 = .ok (.aload_n 0, 1) := by decide +kernel
theorem d_Mo_data_60 : decode prog_12_method_19_code 60 = .ok (.iload_n 1, 1) := by decide +kernel
theorem d_Mo_data_61 : decode prog_12_method_19_code 61 = .ok (.iload_n 3, 1) := by decide +kernel
theorem d_Mo_data_62 : decode prog_12_method_19_code 62 = .ok (.iconst 4, 1) := by decide +kernel
theorem d_Mo_data_63 : decode prog_12_method_19_code 63 = .ok (.invokevirtual 172, 3) := by decide +kernel
theorem d_Mo_data_66 : decode prog_12_method_19_code 66 = .ok (.goto 43, 3) := by decide +kernel
theorem d_Mo_data_69 : decode prog_12_method_19_code 69 = .ok (.aload_n 0, 1) := by decide +kernel
theorem d_Mo_data_70 : decode prog_12_method_19_code 70 = .ok (.getfield 74, 3) := by decide +kernel
theorem d_Mo_data_73 : decode prog_12_method_19_code 73 = .ok (.iload 4, 2) := by decide +kernel
theorem d_Mo_data_75 : decode prog_12_method_19_code 75 = .ok (.iaload, 1) := by decide +kernel
theorem d_Mo_data_76 : decode prog_12_method_19_code 76 = .ok (.ifCond .ne 14, 3) := by decide +kernel
theorem d_Mo_data_79 : decode prog_12_method_19_code 79 = .ok (.aload_n 0, 1) := by decide +kernel
theorem d_Mo_data_80 : decode prog_12_method_19_code 80 = .ok (.iload_n 1, 1) := by decide +kernel
theorem d_Mo_data_81 : decode prog_12_method_19_code 81 = .ok (.iload_n 3, 1) := by decide +kernel
theorem d_Mo_data_82 : decode prog_12_method_19_code 82 = .ok (.bipush 7, 2) := by decide +kernel
theorem d_Mo_data_84 : decode prog_12_method_19_code 84 = .ok (.invokevirtual 172, 3) := by decide +kernel
theorem d_Mo_data_87 : decode prog_12_method_19_code 87 = .ok (.goto 22, 3) := by decide +kernel
theorem d_Mo_data_90 : decode prog_12_method_19_code 90 = .ok (.aload_n 0, 1) := by decide +kernel
theorem d_Mo_data_91 : decode prog_12_method_19_code 91 = .ok (.getfield 68, 3) := by decide +kernel
theorem d_Mo_data_94 : decode prog_12_method_19_code 94 = .ok (.iload 4, 2) := by decide +kernel
theorem d_Mo_data_96 : decode prog_12_method_19_code 96 = .ok (.iload 5, 2) := by decide +kernel
theorem d_Mo_data_98 : decode prog_12_method_19_code 98 = .ok (.iconst 2, 1) := by decide +kernel
theorem d_Mo_data_99 : decode prog_12_method_19_code 99 = .ok (.if_icmp .ne 7, 3) := by decide +kernel
theorem d_Mo_data_102 : decode prog_12_method_19_code 102 = .ok (.iconst 3, 1) := by decide +kernel
theorem d_Mo_data_103 : decode prog_12_method_19_code 103 = .ok (.goto 5, 3) := by decide +kernel
theorem d_Mo_data_106 : decode prog_12_method_19_code 106 = .ok (.bipush 6, 2) := by decide +kernel
theorem d_Mo_data_108 : decode prog_12_method_19_code 108 = .ok (.iastore, 1) := by decide +kernel
theorem d_Mo_data_109 : decode prog_12_method_19_code 109 = .ok (.return_, 1) := by decide +kernel
theorem d_Mo_acknowledged_0 : decode prog_12_method_20_code 0 = .ok (.aload_n 0, 1) := by decide +kernel
theorem d_Mo_acknowledged_1 : decode prog_12_method_20_code 1 = .ok (.getfield 17, 3) := by decide +kernel
theorem d_Mo_acknowledged_4 : decode prog_12_method_20_code 4 = .ok (.iload_n 2, 1) := by decide +kernel
theorem d_Mo_acknowledged_5 : decode prog_12_method_20_code 5 = .ok (.iaload, 1) := by decide +kernel
theorem d_Mo_acknowledged_6 : decode prog_12_method_20_code 6 = .ok (.istore_n 3, 1) := by decide +kernel
theorem d_Mo_acknowledged_7 : decode prog_12_method_20_code 7 = .ok (.bipush 8, 2) := by decide +kernel
theorem d_Mo_acknowledged_9 : decode prog_12_method_20_code 9 = .ok (.iload_n 1, 1) := by decide +kernel
theorem d_Mo_acknowledged_10 : decode prog_12_method_20_code 10 = .ok (.imul, 1) := by decide +kernel
theorem d_Mo_acknowledged_11 : decode prog_12_method_20_code 11 = .ok (.iload_n 3, 1) := by decide +kernel
theorem d_Mo_acknowledged_12 : decode prog_12_method_20_code 12 = .ok (.iadd, 1) := by decide +kernel
theorem d_Mo_acknowledged_13 : decode prog_12_method_20_code 13 = .ok (.istore 4, 2) := by decide +kernel
theorem d_Mo_acknowledged_15 : decode prog_12_method_20_code 15 = .ok (.aload_n 0, 1) := by decide +kernel
theorem d_Mo_acknowledged_16 : decode prog_12_method_20_code 16 = .ok (.getfield 74, 3) := by decide +kernel
theorem d_Mo_acknowledged_19 : decode prog_12_method_20_code 19 = .ok (.iload 4, 2) := by decide +kernel
theorem d_Mo_acknowledged_21 : decode prog_12_method_20_code 21 = .ok (.dup2, 1) := by decide +kernel
theorem d_Mo_acknowledged_22 : decode prog_12_method_20_code 22 = .ok (.iaload, 1) := by decide +kernel
theorem d_Mo_acknowledged_23 : decode prog_12_method_20_code 23 = .ok (.iconst 1, 1) := by decide +kernel
theorem d_Mo_acknowledged_24 : decode prog_12_method_20_code 24 = .ok (.isub, 1) := by decide +kernel
theorem d_Mo_acknowledged_25 : decode prog_12_method_20_code 25 = .ok (.iastore, 1) := by decide +kernel
theorem d_Mo_acknowledged_26 : decode prog_12_method_20_code 26 = .ok (.aload_n 0, 1) := by decide +kernel
theorem d_Mo_acknowledged_27 : decode prog_12_method_20_code 27 = .ok (.getfield 74, 3) := by decide +kernel
theorem d_Mo_acknowledged_30 : decode prog_12_method_20_code 30 = .ok (.iload 4, 2) := by decide +kernel
theorem d_Mo_acknowledged_32 : decode prog_12_method_20_code 32 = .ok (.iaload, 1) := by decide +kernel
theorem d_Mo_acknowledged_33 : decode prog_12_method_20_code 33 = .ok (.ifCond .ne 34, 3) := by decide +kernel
theorem d_Mo_acknowledged_36 : decode prog_12_method_20_code 36 = .ok (.aload_n 0, 1) := by decide +kernel
theorem d_Mo_acknowledged_37 : decode prog_12_method_20_code 37 = .ok (.getfield 68, 3) := by decide +kernel
theorem d_Mo_acknowledged_40 : decode prog_12_method_20_code 40 = .ok (.iload 4, 2) := by decide +kernel
theorem d_Mo_acknowledged_42 : decode prog_12_method_20_code 42 = .ok (.iaload, 1) := by decide +kernel
theorem d_Mo_acknowledged_43 : decode prog_12_method_20_code 43 = .ok (.iconst 3, 1) := by decide +kernel
theorem d_Mo_acknowledged_44 : decode prog_12_method_20_code 44 = .ok (.if_icmp .eq 15, 3) := by decide +kernel
theorem d_Mo_acknowledged_47 : decode prog_12_method_20_code 47 = .ok (.aload_n 0, 1) := by decide +kernel
theorem d_Mo_acknowledged_48 : decode prog_12_method_20_code 48 = .ok (.getfield 68, 3) := by decide +kernel
theorem d_Mo_acknowledged_51 : decode prog_12_method_20_code 51 = .ok (.iload 4, 2) := by decide +kernel
theorem d_Mo_acknowledged_53 : decode prog_12_method_20_code 53 = .ok (.iaload, 1) := by decide +kernel
theorem d_Mo_acknowledged_54 : decode prog_12_method_20_code 54 = .ok (.bipush 6, 2) := by decide +kernel
theorem d_Mo_acknowledged_56 : decode prog_12_method_20_code 56 = .ok (.if_icmp .ne 11, 3) := by decide +kernel
theorem d_Mo_acknowledged_59 : decode prog_12_method_20_code 59 = .ok (.aload_n 0, 1) := by decide +kernel
theorem d_Mo_acknowledged_60 : decode prog_12_method_20_code 60 = .ok (.iload_n 1, 1) := by decide +kernel
theorem d_Mo_acknowledged_61 : decode prog_12_method_20_code 61 = .ok (.iload_n 3, 1) := by decide +kernel
theorem d_Mo_acknowledged_62 : decode prog_12_method_20_code 62 = .ok (.bipush 7, 2) := by decide +kernel
theorem d_Mo_acknowledged_64 : decode prog_12_method_20_code 64 = .ok (.invokevirtual 172, 3) := by decide +kernel
theorem d_Mo_acknowledged_67 : decode prog_12_method_20_code 67 = .ok (.return_, 1) := by decide +kernel
theorem d_Mo_takes_0 : decode prog_12_method_25_code 0 = .ok (.aload_n 0, 1) := by decide +kernel
theorem d_Mo_takes_1 : decode prog_12_method_25_code 1 = .ok (.getfield 17, 3) := by decide +kernel
theorem d_Mo_takes_4 : decode prog_12_method_25_code 4 = .ok (.iload_n 2, 1) := by decide +kernel
theorem d_Mo_takes_5 : decode prog_12_method_25_code 5 = .ok (.iaload, 1) := by decide +kernel
theorem d_Mo_takes_6 : decode prog_12_method_25_code 6 = .ok (.istore_n 3, 1) := by decide +kernel
theorem d_Mo_takes_7 : decode prog_12_method_25_code 7 = .ok (.aload_n 0, 1) := by decide +kernel
theorem d_Mo_takes_8 : decode prog_12_method_25_code 8 = .ok (.getfield 23, 3) := by decide +kernel
theorem d_Mo_takes_11 : decode prog_12_method_25_code 11 = .ok (.iload_n 2, 1) := by decide +kernel
theorem d_Mo_takes_12 : decode prog_12_method_25_code 12 = .ok (.iaload, 1) := by decide +kernel
theorem d_Mo_takes_13 : decode prog_12_method_25_code 13 = .ok (.istore 4, 2) := by decide +kernel
theorem d_Mo_takes_15 : decode prog_12_method_25_code 15 = .ok (.aload_n 0, 1) := by decide +kernel
theorem d_Mo_takes_16 : decode prog_12_method_25_code 16 = .ok (.getfield 13, 3) := by decide +kernel
theorem d_Mo_takes_19 : decode prog_12_method_25_code 19 = .ok (.iload_n 2, 1) := by decide +kernel
theorem d_Mo_takes_20 : decode prog_12_method_25_code 20 = .ok (.iaload, 1) := by decide +kernel
theorem d_Mo_takes_21 : decode prog_12_method_25_code 21 = .ok (.tableswitch 188 0 9 #[55, 64, 73, 95, 123, 131, 139, 146, 172, 180], 55) := by decide +kernel
theorem d_Mo_takes_76 : decode prog_12_method_25_code 76 = .ok (.aload_n 0, 1) := by decide +kernel
theorem d_Mo_takes_77 : decode prog_12_method_25_code 77 = .ok (.iload_n 1, 1) := by decide +kernel
theorem d_Mo_takes_78 : decode prog_12_method_25_code 78 = .ok (.iload_n 3, 1) := by decide +kernel
theorem d_Mo_takes_79 : decode prog_12_method_25_code 79 = .ok (.iload 4, 2) := by decide +kernel
theorem d_Mo_takes_81 : decode prog_12_method_25_code 81 = .ok (.invokevirtual 178, 3) := by decide +kernel
theorem d_Mo_takes_84 : decode prog_12_method_25_code 84 = .ok (.ireturn, 1) := by decide +kernel
theorem d_Mo_takes_85 : decode prog_12_method_25_code 85 = .ok (.aload_n 0, 1) := by decide +kernel
theorem d_Mo_takes_86 : decode prog_12_method_25_code 86 = .ok (.iload_n 1, 1) := by decide +kernel
theorem d_Mo_takes_87 : decode prog_12_method_25_code 87 = .ok (.iload_n 3, 1) := by decide +kernel
theorem d_Mo_takes_88 : decode prog_12_method_25_code 88 = .ok (.iload 4, 2) := by decide +kernel
theorem d_Mo_takes_90 : decode prog_12_method_25_code 90 = .ok (.invokevirtual 182, 3) := by decide +kernel
theorem d_Mo_takes_93 : decode prog_12_method_25_code 93 = .ok (.ireturn, 1) := by decide +kernel
theorem d_Mo_takes_94 : decode prog_12_method_25_code 94 = .ok (.aload_n 0, 1) := by decide +kernel
theorem d_Mo_takes_95 : decode prog_12_method_25_code 95 = .ok (.iload_n 3, 1) := by decide +kernel
theorem d_Mo_takes_96 : decode prog_12_method_25_code 96 = .ok (.iload 4, 2) := by decide +kernel
theorem d_Mo_takes_98 : decode prog_12_method_25_code 98 = .ok (.invokevirtual 175, 3) := by decide +kernel
theorem d_Mo_takes_101 : decode prog_12_method_25_code 101 = .ok (.aload_n 0, 1) := by decide +kernel
theorem d_Mo_takes_102 : decode prog_12_method_25_code 102 = .ok (.iload_n 1, 1) := by decide +kernel
theorem d_Mo_takes_103 : decode prog_12_method_25_code 103 = .ok (.bipush 7, 2) := by decide +kernel
theorem d_Mo_takes_105 : decode prog_12_method_25_code 105 = .ok (.iload_n 3, 1) := by decide +kernel
theorem d_Mo_takes_106 : decode prog_12_method_25_code 106 = .ok (.iload 4, 2) := by decide +kernel
theorem d_Mo_takes_108 : decode prog_12_method_25_code 108 = .ok (.iconst 0, 1) := by decide +kernel
theorem d_Mo_takes_109 : decode prog_12_method_25_code 109 = .ok (.iconst 0, 1) := by decide +kernel
theorem d_Mo_takes_110 : decode prog_12_method_25_code 110 = .ok (.iconst 0, 1) := by decide +kernel
theorem d_Mo_takes_111 : decode prog_12_method_25_code 111 = .ok (.invokevirtual 165, 3) := by decide +kernel
theorem d_Mo_takes_114 : decode prog_12_method_25_code 114 = .ok (.iconst 1, 1) := by decide +kernel
theorem d_Mo_takes_115 : decode prog_12_method_25_code 115 = .ok (.ireturn, 1) := by decide +kernel
theorem d_Mo_takes_116 : decode prog_12_method_25_code 116 = .ok (.aload_n 0, 1) := by decide +kernel
theorem d_Mo_takes_117 : decode prog_12_method_25_code 117 = .ok (.iload_n 3, 1) := by decide +kernel
theorem d_Mo_takes_118 : decode prog_12_method_25_code 118 = .ok (.iload 4, 2) := by decide +kernel
theorem d_Mo_takes_120 : decode prog_12_method_25_code 120 = .ok (.aload_n 0, 1) := by decide +kernel
theorem d_Mo_takes_121 : decode prog_12_method_25_code 121 = .ok (.getfield 29, 3) := by decide +kernel
theorem d_Mo_takes_124 : decode prog_12_method_25_code 124 = .ok (.iload_n 2, 1) := by decide +kernel
theorem d_Mo_takes_125 : decode prog_12_method_25_code 125 = .ok (.iaload, 1) := by decide +kernel
theorem d_Mo_takes_126 : decode prog_12_method_25_code 126 = .ok (.invokevirtual 185, 3) := by decide +kernel
theorem d_Mo_takes_129 : decode prog_12_method_25_code 129 = .ok (.aload_n 0, 1) := by decide +kernel
theorem d_Mo_takes_130 : decode prog_12_method_25_code 130 = .ok (.iload_n 1, 1) := by decide +kernel
theorem d_Mo_takes_131 : decode prog_12_method_25_code 131 = .ok (.bipush 7, 2) := by decide +kernel
theorem d_Mo_takes_133 : decode prog_12_method_25_code 133 = .ok (.iload_n 3, 1) := by decide +kernel
theorem d_Mo_takes_134 : decode prog_12_method_25_code 134 = .ok (.iload 4, 2) := by decide +kernel
theorem d_Mo_takes_136 : decode prog_12_method_25_code 136 = .ok (.iconst 0, 1) := by decide +kernel
theorem d_Mo_takes_137 : decode prog_12_method_25_code 137 = .ok (.iconst 0, 1) := by decide +kernel
theorem d_Mo_takes_138 : decode prog_12_method_25_code 138 = .ok (.iconst 0, 1) := by decide +kernel
theorem d_Mo_takes_139 : decode prog_12_method_25_code 139 = .ok (.invokevirtual 165, 3) := by decide +kernel
theorem d_Mo_takes_142 : decode prog_12_method_25_code 142 = .ok (.iconst 1, 1) := by decide +kernel
theorem d_Mo_takes_143 : decode prog_12_method_25_code 143 = .ok (.ireturn, 1) := by decide +kernel
theorem d_Mo_takes_144 : decode prog_12_method_25_code 144 = .ok (.aload_n 0, 1) := by decide +kernel
theorem d_Mo_takes_145 : decode prog_12_method_25_code 145 = .ok (.iload_n 1, 1) := by decide +kernel
theorem d_Mo_takes_146 : decode prog_12_method_25_code 146 = .ok (.iload_n 2, 1) := by decide +kernel
theorem d_Mo_takes_147 : decode prog_12_method_25_code 147 = .ok (.iconst 1, 1) := by decide +kernel
theorem d_Mo_takes_148 : decode prog_12_method_25_code 148 = .ok (.invokevirtual 188, 3) := by decide +kernel
theorem d_Mo_takes_151 : decode prog_12_method_25_code 151 = .ok (.ireturn, 1) := by decide +kernel
theorem d_Mo_takes_152 : decode prog_12_method_25_code 152 = .ok (.aload_n 0, 1) := by decide +kernel
