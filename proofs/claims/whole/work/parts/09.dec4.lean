theorem d_Mo_takes_153 : decode prog_12_method_25_code 153 = .ok (.iload_n 1, 1) := by decide +kernel
theorem d_Mo_takes_154 : decode prog_12_method_25_code 154 = .ok (.iload_n 2, 1) := by decide +kernel
theorem d_Mo_takes_155 : decode prog_12_method_25_code 155 = .ok (.iconst 0, 1) := by decide +kernel
theorem d_Mo_takes_156 : decode prog_12_method_25_code 156 = .ok (.invokevirtual 188, 3) := by decide +kernel
theorem d_Mo_takes_159 : decode prog_12_method_25_code 159 = .ok (.ireturn, 1) := by decide +kernel
theorem d_Mo_takes_160 : decode prog_12_method_25_code 160 = .ok (.aload_n 0, 1) := by decide +kernel
theorem d_Mo_takes_161 : decode prog_12_method_25_code 161 = .ok (.iload_n 1, 1) := by decide +kernel
theorem d_Mo_takes_162 : decode prog_12_method_25_code 162 = .ok (.iload_n 2, 1) := by decide +kernel
theorem d_Mo_takes_163 : decode prog_12_method_25_code 163 = .ok (.invokevirtual 192, 3) := by decide +kernel
theorem d_Mo_takes_166 : decode prog_12_method_25_code 166 = .ok (.ireturn, 1) := by decide +kernel
theorem d_Mo_takes_167 : decode prog_12_method_25_code 167 = .ok (.aload_n 0, 1) := by decide +kernel
theorem d_Mo_takes_168 : decode prog_12_method_25_code 168 = .ok (.getfield 68, 3) := by decide +kernel
theorem d_Mo_takes_171 : decode prog_12_method_25_code 171 = .ok (.bipush 8, 2) := by decide +kernel
theorem d_Mo_takes_173 : decode prog_12_method_25_code 173 = .ok (.iload_n 1, 1) := by decide +kernel
theorem d_Mo_takes_174 : decode prog_12_method_25_code 174 = .ok (.imul, 1) := by decide +kernel
theorem d_Mo_takes_175 : decode prog_12_method_25_code 175 = .ok (.iload_n 3, 1) := by decide +kernel
theorem d_Mo_takes_176 : decode prog_12_method_25_code 176 = .ok (.iadd, 1) := by decide +kernel
theorem d_Mo_takes_177 : decode prog_12_method_25_code 177 = .ok (.iconst 0, 1) := by decide +kernel
theorem d_Mo_takes_178 : decode prog_12_method_25_code 178 = .ok (.iastore, 1) := by decide +kernel
theorem d_Mo_takes_179 : decode prog_12_method_25_code 179 = .ok (.aload_n 0, 1) := by decide +kernel
theorem d_Mo_takes_180 : decode prog_12_method_25_code 180 = .ok (.getfield 71, 3) := by decide +kernel
theorem d_Mo_takes_183 : decode prog_12_method_25_code 183 = .ok (.bipush 8, 2) := by decide +kernel
theorem d_Mo_takes_185 : decode prog_12_method_25_code 185 = .ok (.iload_n 1, 1) := by decide +kernel
theorem d_Mo_takes_186 : decode prog_12_method_25_code 186 = .ok (.imul, 1) := by decide +kernel
theorem d_Mo_takes_187 : decode prog_12_method_25_code 187 = .ok (.iload_n 3, 1) := by decide +kernel
theorem d_Mo_takes_188 : decode prog_12_method_25_code 188 = .ok (.iadd, 1) := by decide +kernel
theorem d_Mo_takes_189 : decode prog_12_method_25_code 189 = .ok (.iconst 0, 1) := by decide +kernel
theorem d_Mo_takes_190 : decode prog_12_method_25_code 190 = .ok (.iastore, 1) := by decide +kernel
theorem d_Mo_takes_191 : decode prog_12_method_25_code 191 = .ok (.iconst 1, 1) := by decide +kernel
theorem d_Mo_takes_192 : decode prog_12_method_25_code 192 = .ok (.ireturn, 1) := by decide +kernel
theorem d_Mo_takes_193 : decode prog_12_method_25_code 193 = .ok (.aload_n 0, 1) := by decide +kernel
theorem d_Mo_takes_194 : decode prog_12_method_25_code 194 = .ok (.iload_n 1, 1) := by decide +kernel
theorem d_Mo_takes_195 : decode prog_12_method_25_code 195 = .ok (.iload_n 2, 1) := by decide +kernel
theorem d_Mo_takes_196 : decode prog_12_method_25_code 196 = .ok (.invokevirtual 196, 3) := by decide +kernel
theorem d_Mo_takes_199 : decode prog_12_method_25_code 199 = .ok (.iconst 1, 1) := by decide +kernel
theorem d_Mo_takes_200 : decode prog_12_method_25_code 200 = .ok (.ireturn, 1) := by decide +kernel
theorem d_Mo_takes_201 : decode prog_12_method_25_code 201 = .ok (.aload_n 0, 1) := by decide +kernel
theorem d_Mo_takes_202 : decode prog_12_method_25_code 202 = .ok (.iload_n 1, 1) := by decide +kernel
theorem d_Mo_takes_203 : decode prog_12_method_25_code 203 = .ok (.iload_n 2, 1) := by decide +kernel
theorem d_Mo_takes_204 : decode prog_12_method_25_code 204 = .ok (.invokevirtual 199, 3) := by decide +kernel
theorem d_Mo_takes_207 : decode prog_12_method_25_code 207 = .ok (.iconst 1, 1) := by decide +kernel
theorem d_Mo_takes_208 : decode prog_12_method_25_code 208 = .ok (.ireturn, 1) := by decide +kernel
theorem d_Mo_takes_209 : decode prog_12_method_25_code 209 = .ok (.aload_n 0, 1) := by decide +kernel
theorem d_Mo_takes_210 : decode prog_12_method_25_code 210 = .ok (.getfield 83, 3) := by decide +kernel
theorem d_Mo_takes_213 : decode prog_12_method_25_code 213 = .ok (.iload_n 3, 1) := by decide +kernel
theorem d_Mo_takes_214 : decode prog_12_method_25_code 214 = .ok (.aload_n 0, 1) := by decide +kernel
theorem d_Mo_takes_215 : decode prog_12_method_25_code 215 = .ok (.getfield 29, 3) := by decide +kernel
theorem d_Mo_takes_218 : decode prog_12_method_25_code 218 = .ok (.iload_n 2, 1) := by decide +kernel
theorem d_Mo_takes_219 : decode prog_12_method_25_code 219 = .ok (.iaload, 1) := by decide +kernel
theorem d_Mo_takes_220 : decode prog_12_method_25_code 220 = .ok (.iastore, 1) := by decide +kernel
theorem d_Mo_takes_221 : decode prog_12_method_25_code 221 = .ok (.aload_n 0, 1) := by decide +kernel
theorem d_Mo_takes_222 : decode prog_12_method_25_code 222 = .ok (.getfield 80, 3) := by decide +kernel
theorem d_Mo_takes_225 : decode prog_12_method_25_code 225 = .ok (.iload_n 3, 1) := by decide +kernel
theorem d_Mo_takes_226 : decode prog_12_method_25_code 226 = .ok (.aload_n 0, 1) := by decide +kernel
theorem d_Mo_takes_227 : decode prog_12_method_25_code 227 = .ok (.getfield 80, 3) := by decide +kernel
theorem d_Mo_takes_230 : decode prog_12_method_25_code 230 = .ok (.iload_n 3, 1) := by decide +kernel
theorem d_Mo_takes_231 : decode prog_12_method_25_code 231 = .ok (.iaload, 1) := by decide +kernel
theorem d_Mo_takes_232 : decode prog_12_method_25_code 232 = .ok (.iconst 3, 1) := by decide +kernel
theorem d_Mo_takes_233 : decode prog_12_method_25_code 233 = .ok (.if_icmp .ne 7, 3) := by decide +kernel
theorem d_Mo_takes_236 : decode prog_12_method_25_code 236 = .ok (.iconst 1, 1) := by decide +kernel
theorem d_Mo_takes_237 : decode prog_12_method_25_code 237 = .ok (.goto 9, 3) := by decide +kernel
theorem d_Mo_takes_240 : decode prog_12_method_25_code 240 = .ok (.aload_n 0, 1) := by decide +kernel
theorem d_Mo_takes_241 : decode prog_12_method_25_code 241 = .ok (.getfield 80, 3) := by decide +kernel
theorem d_Mo_takes_244 : decode prog_12_method_25_code 244 = .ok (.iload_n 3, 1) := by decide +kernel
theorem d_Mo_takes_245 : decode prog_12_method_25_code 245 = .ok (.iaload, 1) := by decide +kernel
theorem d_Mo_takes_246 : decode prog_12_method_25_code 246 = .ok (.iastore, 1) := by decide +kernel
theorem d_Mo_takes_247 : decode prog_12_method_25_code 247 = .ok (.iconst 1, 1) := by decide +kernel
theorem d_Mo_takes_248 : decode prog_12_method_25_code 248 = .ok (.ireturn, 1) := by decide +kernel
theorem d_Mo_takeFirst_0 : decode prog_12_method_27_code 0 = .ok (.iconst 3, 1) := by decide +kernel
theorem d_Mo_takeFirst_1 : decode prog_12_method_27_code 1 = .ok (.iload_n 1, 1) := by decide +kernel
theorem d_Mo_takeFirst_2 : decode prog_12_method_27_code 2 = .ok (.imul, 1) := by decide +kernel
theorem d_Mo_takeFirst_3 : decode prog_12_method_27_code 3 = .ok (.iload_n 2, 1) := by decide +kernel
theorem d_Mo_takeFirst_4 : decode prog_12_method_27_code 4 = .ok (.iadd, 1) := by decide +kernel
theorem d_Mo_takeFirst_5 : decode prog_12_method_27_code 5 = .ok (.istore_n 3, 1) := by decide +kernel
theorem d_Mo_takeFirst_6 : decode prog_12_method_27_code 6 = .ok (.iconst 0, 1) := by decide +kernel
theorem d_Mo_takeFirst_7 : decode prog_12_method_27_code 7 = .ok (.istore 4, 2) := by decide +kernel
theorem d_Mo_takeFirst_9 : decode prog_12_method_27_code 9 = .ok (.iload 4, 2) := by decide +kernel
theorem d_Mo_takeFirst_11 : decode prog_12_method_27_code 11 = .ok (.aload_n 0, 1) := by decide +kernel
theorem d_Mo_takeFirst_12 : decode prog_12_method_27_code 12 = .ok (.getfield 47, 3) := by decide +kernel
theorem d_Mo_takeFirst_15 : decode prog_12_method_27_code 15 = .ok (.iload_n 3, 1) := by decide +kernel
theorem d_Mo_takeFirst_16 : decode prog_12_method_27_code 16 = .ok (.iaload, 1) := by decide +kernel
theorem d_Mo_takeFirst_17 : decode prog_12_method_27_code 17 = .ok (.if_icmp .ge 40, 3) := by decide +kernel
theorem d_Mo_takeFirst_20 : decode prog_12_method_27_code 20 = .ok (.aload_n 0, 1) := by decide +kernel
theorem d_Mo_takeFirst_21 : decode prog_12_method_27_code 21 = .ok (.iload_n 3, 1) := by decide +kernel
theorem d_Mo_takeFirst_22 : decode prog_12_method_27_code 22 = .ok (.iload 4, 2) := by decide +kernel
theorem d_Mo_takeFirst_24 : decode prog_12_method_27_code 24 = .ok (.invokevirtual 202, 3) := by decide +kernel
theorem d_Mo_takeFirst_27 : decode prog_12_method_27_code 27 = .ok (.ifCond .ne 24, 3) := by decide +kernel
theorem d_Mo_takeFirst_30 : decode prog_12_method_27_code 30 = .ok (.aload_n 0, 1) := by decide +kernel
theorem d_Mo_takeFirst_31 : decode prog_12_method_27_code 31 = .ok (.iload_n 1, 1) := by decide +kernel
theorem d_Mo_takeFirst_32 : decode prog_12_method_27_code 32 = .ok (.aload_n 0, 1) := by decide +kernel
theorem d_Mo_takeFirst_33 : decode prog_12_method_27_code 33 = .ok (.getfield 44, 3) := by decide +kernel
theorem d_Mo_takeFirst_36 : decode prog_12_method_27_code 36 = .ok (.sipush 128, 3) := by decide +kernel
theorem d_Mo_takeFirst_39 : decode prog_12_method_27_code 39 = .ok (.iload_n 3, 1) := by decide +kernel
theorem d_Mo_takeFirst_40 : decode prog_12_method_27_code 40 = .ok (.imul, 1) := by decide +kernel
theorem d_Mo_takeFirst_41 : decode prog_12_method_27_code 41 = .ok (.iload 4, 2) := by decide +kernel
theorem d_Mo_takeFirst_43 : decode prog_12_method_27_code 43 = .ok (.iadd, 1) := by decide +kernel
theorem d_Mo_takeFirst_44 : decode prog_12_method_27_code 44 = .ok (.iaload, 1) := by decide +kernel
theorem d_Mo_takeFirst_45 : decode prog_12_method_27_code 45 = .ok (.invokevirtual 205, 3) := by decide +kernel
theorem d_Mo_takeFirst_48 : decode prog_12_method_27_code 48 = .ok (.ifCond .ne 9, 3) := by decide +kernel
theorem d_Mo_takeFirst_51 : decode prog_12_method_27_code 51 = .ok (.iinc 4 1, 3) := by decide +kernel
theorem d_Mo_takeFirst_54 : decode prog_12_method_27_code 54 = .ok (.goto (-45), 3) := by decide +kernel
theorem d_Mo_takeFirst_57 : decode prog_12_method_27_code 57 = .ok (.iload 4, 2) := by decide +kernel
theorem d_Mo_takeFirst_59 : decode prog_12_method_27_code 59 = .ok (.aload_n 0, 1) := by decide +kernel
theorem d_Mo_takeFirst_60 : decode prog_12_method_27_code 60 = .ok (.getfield 47, 3) := by decide +kernel
theorem d_Mo_takeFirst_63 : decode prog_12_method_27_code 63 = .ok (.iload_n 3, 1) := by decide +kernel
theorem d_Mo_takeFirst_64 : decode prog_12_method_27_code 64 = .ok (.iaload, 1) := by decide +kernel
theorem d_Mo_takeFirst_65 : decode prog_12_method_27_code 65 = .ok (.if_icmp .ne 4, 3) := by decide +kernel
theorem d_Mo_takeFirst_68 : decode prog_12_method_27_code 68 = .ok (.return_, 1) := by decide +kernel
theorem d_Mo_takeFirst_69 : decode prog_12_method_27_code 69 = .ok (.aload_n 0, 1) := by decide +kernel
theorem d_Mo_takeFirst_70 : decode prog_12_method_27_code 70 = .ok (.getfield 7, 3) := by decide +kernel
theorem d_Mo_takeFirst_73 : decode prog_12_method_27_code 73 = .ok (.aload_n 0, 1) := by decide +kernel
theorem d_Mo_takeFirst_74 : decode prog_12_method_27_code 74 = .ok (.getfield 44, 3) := by decide +kernel
theorem d_Mo_takeFirst_77 : decode prog_12_method_27_code 77 = .ok (.sipush 128, 3) := by decide +kernel
theorem d_Mo_takeFirst_80 : decode prog_12_method_27_code 80 = .ok (.iload_n 3, 1) := by decide +kernel
theorem d_Mo_takeFirst_81 : decode prog_12_method_27_code 81 = .ok (.imul, 1) := by decide +kernel
theorem d_Mo_takeFirst_82 : decode prog_12_method_27_code 82 = .ok (.iload 4, 2) := by decide +kernel
theorem d_Mo_takeFirst_84 : decode prog_12_method_27_code 84 = .ok (.iadd, 1) := by decide +kernel
theorem d_Mo_takeFirst_85 : decode prog_12_method_27_code 85 = .ok (.iaload, 1) := by decide +kernel
theorem d_Mo_takeFirst_86 : decode prog_12_method_27_code 86 = .ok (.iconst 0, 1) := by decide +kernel
theorem d_Mo_takeFirst_87 : decode prog_12_method_27_code 87 = .ok (.bastore, 1) := by decide +kernel
theorem d_Mo_takeFirst_88 : decode prog_12_method_27_code 88 = .ok (.aload_n 0, 1) := by decide +kernel
theorem d_Mo_takeFirst_89 : decode prog_12_method_27_code 89 = .ok (.getfield 47, 3) := by decide +kernel
theorem d_Mo_takeFirst_92 : decode prog_12_method_27_code 92 = .ok (.iload_n 3, 1) := by decide +kernel
theorem d_Mo_takeFirst_93 : decode prog_12_method_27_code 93 = .ok (.dup2, 1) := by decide +kernel
theorem d_Mo_takeFirst_94 : decode prog_12_method_27_code 94 = .ok (.iaload, 1) := by decide +kernel
theorem d_Mo_takeFirst_95 : decode prog_12_method_27_code 95 = .ok (.iconst 1, 1) := by decide +kernel
theorem d_Mo_takeFirst_96 : decode prog_12_method_27_code 96 = .ok (.isub, 1) := by decide +kernel
theorem d_Mo_takeFirst_97 : decode prog_12_method_27_code 97 = .ok (.iastore, 1) := by decide +kernel
theorem d_Mo_takeFirst_98 : decode prog_12_method_27_code 98 = .ok (.sipush 128, 3) := by decide +kernel
theorem d_Mo_takeFirst_101 : decode prog_12_method_27_code 101 = .ok (.iload_n 3, 1) := by decide +kernel
theorem d_Mo_takeFirst_102 : decode prog_12_method_27_code 102 = .ok (.imul, 1) := by decide +kernel
theorem d_Mo_takeFirst_103 : decode prog_12_method_27_code 103 = .ok (.iload 4, 2) := by decide +kernel
theorem d_Mo_takeFirst_105 : decode prog_12_method_27_code 105 = .ok (.iadd, 1) := by decide +kernel
theorem d_Mo_takeFirst_106 : decode prog_12_method_27_code 106 = .ok (.istore 5, 2) := by decide +kernel
theorem d_Mo_takeFirst_108 : decode prog_12_method_27_code 108 = .ok (.iload 5, 2) := by decide +kernel
theorem d_Mo_takeFirst_110 : decode prog_12_method_27_code 110 = .ok (.sipush 128, 3) := by decide +kernel
theorem d_Mo_takeFirst_113 : decode prog_12_method_27_code 113 = .ok (.iload_n 3, 1) := by decide +kernel
theorem d_Mo_takeFirst_114 : decode prog_12_method_27_code 114 = .ok (.imul, 1) := by decide +kernel
theorem d_Mo_takeFirst_115 : decode prog_12_method_27_code 115 = .ok (.aload_n 0, 1) := by decide +kernel
theorem d_Mo_takeFirst_116 : decode prog_12_method_27_code 116 = .ok (.getfield 47, 3) := by decide +kernel
theorem d_Mo_takeFirst_119 : decode prog_12_method_27_code 119 = .ok (.iload_n 3, 1) := by decide +kernel
theorem d_Mo_takeFirst_120 : decode prog_12_method_27_code 120 = .ok (.iaload, 1) := by decide +kernel
theorem d_Mo_takeFirst_121 : decode prog_12_method_27_code 121 = .ok (.iadd, 1) := by decide +kernel
theorem d_Mo_takeFirst_122 : decode prog_12_method_27_code 122 = .ok (.if_icmp .ge 25, 3) := by decide +kernel
theorem d_Mo_takeFirst_125 : decode prog_12_method_27_code 125 = .ok (.aload_n 0, 1) := by decide +kernel
theorem d_Mo_takeFirst_126 : decode prog_12_method_27_code 126 = .ok (.getfield 44, 3) := by decide +kernel
theorem d_Mo_takeFirst_129 : decode prog_12_method_27_code 129 = .ok (.iload 5, 2) := by decide +kernel
theorem d_Mo_takeFirst_131 : decode prog_12_method_27_code 131 = .ok (.aload_n 0, 1) := by decide +kernel
theorem d_Mo_takeFirst_132 : decode prog_12_method_27_code 132 = .ok (.getfield 44, 3) := by decide +kernel
theorem d_Mo_takeFirst_135 : decode prog_12_method_27_code 135 = .ok (.iload 5, 2) := by decide +kernel
theorem d_Mo_takeFirst_137 : decode prog_12_method_27_code 137 = .ok (.iconst 1, 1) := by decide +kernel
theorem d_Mo_takeFirst_138 : decode prog_12_method_27_code 138 = .ok (.iadd, 1) := by decide +kernel
theorem d_Mo_takeFirst_139 : decode prog_12_method_27_code 139 = .ok (.iaload, 1) := by decide +kernel
theorem d_Mo_takeFirst_140 : decode prog_12_method_27_code 140 = .ok (.iastore, 1) := by decide +kernel
theorem d_Mo_takeFirst_141 : decode prog_12_method_27_code 141 = .ok (.iinc 5 1, 3) := by decide +kernel
theorem d_Mo_takeFirst_144 : decode prog_12_method_27_code 144 = .ok (.goto (-36), 3) := by decide +kernel
theorem d_Mo_takeFirst_147 : decode prog_12_method_27_code 147 = .ok (.return_, 1) := by decide +kernel
theorem d_Mo_isLeaving_0 : decode prog_12_method_28_code 0 = .ok (.iload_n 0, 1) := by decide +kernel
theorem d_Mo_isLeaving_1 : decode prog_12_method_28_code 1 = .ok (.bipush 8, 2) := by decide +kernel
theorem d_Mo_isLeaving_3 : decode prog_12_method_28_code 3 = .ok (.if_icmp .lt 7, 3) := by decide +kernel
theorem d_Mo_isLeaving_6 : decode prog_12_method_28_code 6 = .ok (.iconst 1, 1) := by decide +kernel
theorem d_Mo_isLeaving_7 : decode prog_12_method_28_code 7 = .ok (.goto 4, 3) := by decide +kernel
theorem d_Mo_isLeaving_10 : decode prog_12_method_28_code 10 = .ok (.iconst 0, 1) := by decide +kernel
theorem d_Mo_isLeaving_11 : decode prog_12_method_28_code 11 = .ok (.ireturn, 1) := by decide +kernel
theorem d_Mo_evict_0 : decode prog_12_method_29_code 0 = .ok (.iconst (-1), 1) := by decide +kernel
theorem d_Mo_evict_1 : decode prog_12_method_29_code 1 = .ok (.istore_n 3, 1) := by decide +kernel
theorem d_Mo_evict_2 : decode prog_12_method_29_code 2 = .ok (.iload_n 2, 1) := by decide +kernel
theorem d_Mo_evict_3 : decode prog_12_method_29_code 3 = .ok (.iconst 2, 1) := by decide +kernel
theorem d_Mo_evict_4 : decode prog_12_method_29_code 4 = .ok (.irem, 1) := by decide +kernel
theorem d_Mo_evict_5 : decode prog_12_method_29_code 5 = .ok (.istore 4, 2) := by decide +kernel
theorem d_Mo_evict_7 : decode prog_12_method_29_code 7 = .ok (.iload 4, 2) := by decide +kernel
theorem d_Mo_evict_9 : decode prog_12_method_29_code 9 = .ok (.bipush 8, 2) := by decide +kernel
theorem d_Mo_evict_11 : decode prog_12_method_29_code 11 = .ok (.if_icmp .ge 95, 3) := by decide +kernel
theorem d_Mo_evict_14 : decode prog_12_method_29_code 14 = .ok (.bipush 8, 2) := by decide +kernel
theorem d_Mo_evict_16 : decode prog_12_method_29_code 16 = .ok (.iload_n 1, 1) := by decide +kernel
theorem d_Mo_evict_17 : decode prog_12_method_29_code 17 = .ok (.imul, 1) := by decide +kernel
theorem d_Mo_evict_18 : decode prog_12_method_29_code 18 = .ok (.iload 4, 2) := by decide +kernel
theorem d_Mo_evict_20 : decode prog_12_method_29_code 20 = .ok (.iadd, 1) := by decide +kernel
theorem d_Mo_evict_21 : decode prog_12_method_29_code 21 = .ok (.istore 5, 2) := by decide +kernel
theorem d_Mo_evict_23 : decode prog_12_method_29_code 23 = .ok (.aload_n 0, 1) := by decide +kernel
theorem d_Mo_evict_24 : decode prog_12_method_29_code 24 = .ok (.getfield 68, 3) := by decide +kernel
theorem d_Mo_evict_27 : decode prog_12_method_29_code 27 = .ok (.iload 5, 2) := by decide +kernel
theorem d_Mo_evict_29 : decode prog_12_method_29_code 29 = .ok (.iaload, 1) := by decide +kernel
theorem d_Mo_evict_30 : decode prog_12_method_29_code 30 = .ok (.invokestatic 208, 3) := by decide +kernel
theorem d_Mo_evict_33 : decode prog_12_method_29_code 33 = .ok (.ifCond .eq 4, 3) := by decide +kernel
theorem d_Mo_evict_36 : decode prog_12_method_29_code 36 = .ok (.return_, 1) := by decide +kernel
theorem d_Mo_evict_37 : decode prog_12_method_29_code 37 = .ok (.aload_n 0, 1) := by decide +kernel
theorem d_Mo_evict_38 : decode prog_12_method_29_code 38 = .ok (.getfield 68, 3) := by decide +kernel
theorem d_Mo_evict_41 : decode prog_12_method_29_code 41 = .ok (.iload 5, 2) := by decide +kernel
theorem d_Mo_evict_43 : decode prog_12_method_29_code 43 = .ok (.iaload, 1) := by decide +kernel
theorem d_Mo_evict_44 : decode prog_12_method_29_code 44 = .ok (.iconst 4, 1) := by decide +kernel
theorem d_Mo_evict_45 : decode prog_12_method_29_code 45 = .ok (.if_icmp .eq 15, 3) := by decide +kernel
theorem d_Mo_evict_48 : decode prog_12_method_29_code 48 = .ok (.aload_n 0, 1) := by decide +kernel
theorem d_Mo_evict_49 : decode prog_12_method_29_code 49 = .ok (.getfield 68, 3) := by decide +kernel
theorem d_Mo_evict_52 : decode prog_12_method_29_code 52 = .ok (.iload 5, 2) := by decide +kernel
theorem d_Mo_evict_54 : decode prog_12_method_29_code 54 = .ok (.iaload, 1) := by decide +kernel
theorem d_Mo_evict_55 : decode prog_12_method_29_code 55 = .ok (.bipush 7, 2) := by decide +kernel
theorem d_Mo_evict_57 : decode prog_12_method_29_code 57 = .ok (.if_icmp .ne 7, 3) := by decide +kernel
theorem d_Mo_evict_60 : decode prog_12_method_29_code 60 = .ok (.iconst 1, 1) := by decide +kernel
theorem d_Mo_evict_61 : decode prog_12_method_29_code 61 = .ok (.goto 4, 3) := by decide +kernel
theorem d_Mo_evict_64 : decode prog_12_method_29_code 64 = .ok (.iconst 0, 1) := by decide +kernel
theorem d_Mo_evict_65 : decode prog_12_method_29_code 65 = .ok (.istore 6, 2) := by decide +kernel
theorem d_Mo_evict_67 : decode prog_12_method_29_code 67 = .ok (.iload 6, 2) := by decide +kernel
theorem d_Mo_evict_69 : decode prog_12_method_29_code 69 = .ok (.ifCond .eq 31, 3) := by decide +kernel
theorem d_Mo_evict_72 : decode prog_12_method_29_code 72 = .ok (.iload_n 3, 1) := by decide +kernel
theorem d_Mo_evict_73 : decode prog_12_method_29_code 73 = .ok (.ifCond .lt 24, 3) := by decide +kernel
theorem d_Mo_evict_76 : decode prog_12_method_29_code 76 = .ok (.aload_n 0, 1) := by decide +kernel
theorem d_Mo_evict_77 : decode prog_12_method_29_code 77 = .ok (.getfield 77, 3) := by decide +kernel
theorem d_Mo_evict_80 : decode prog_12_method_29_code 80 = .ok (.iload 5, 2) := by decide +kernel
theorem d_Mo_evict_82 : decode prog_12_method_29_code 82 = .ok (.iaload, 1) := by decide +kernel
theorem d_Mo_evict_83 : decode prog_12_method_29_code 83 = .ok (.aload_n 0, 1) := by decide +kernel
theorem d_Mo_evict_84 : decode prog_12_method_29_code 84 = .ok (.getfield 77, 3) := by decide +kernel
theorem d_Mo_evict_87 : decode prog_12_method_29_code 87 = .ok (.bipush 8, 2) := by decide +kernel
theorem d_Mo_evict_89 : decode prog_12_method_29_code 89 = .ok (.iload_n 1, 1) := by decide +kernel
theorem d_Mo_evict_90 : decode prog_12_method_29_code 90 = .ok (.imul, 1) := by decide +kernel
theorem d_Mo_evict_91 : decode prog_12_method_29_code 91 = .ok (.iload_n 3, 1) := by decide +kernel
theorem d_Mo_evict_92 : decode prog_12_method_29_code 92 = .ok (.iadd, 1) := by decide +kernel
theorem d_Mo_evict_93 : decode prog_12_method_29_code 93 = .ok (.iaload, 1) := by decide +kernel
theorem d_Mo_evict_94 : decode prog_12_method_29_code 94 = .ok (.if_icmp .ge 6, 3) := by decide +kernel
theorem d_Mo_evict_97 : decode prog_12_method_29_code 97 = .ok (.iload 4, 2) := by decide +kernel
theorem d_Mo_evict_99 : decode prog_12_method_29_code 99 = .ok (.istore_n 3, 1) := by decide +kernel
theorem d_Mo_evict_100 : decode prog_12_method_29_code 100 = .ok (.iinc 4 2, 3) := by decide +kernel
theorem d_Mo_evict_103 : decode prog_12_method_29_code 103 = .ok (.goto (-96), 3) := by decide +kernel
theorem d_Mo_evict_106 : decode prog_12_method_29_code 106 = .ok (.iload_n 3, 1) := by decide +kernel
theorem d_Mo_evict_107 : decode prog_12_method_29_code 107 = .ok (.ifCond .ge 4, 3) := by decide +kernel
theorem d_Mo_evict_110 : decode prog_12_method_29_code 110 = .ok (.return_, 1) := by decide +kernel
theorem d_Mo_evict_111 : decode prog_12_method_29_code 111 = .ok (.bipush 8, 2) := by decide +kernel
theorem d_Mo_evict_113 : decode prog_12_method_29_code 113 = .ok (.iload_n 1, 1) := by decide +kernel
theorem d_Mo_evict_114 : decode prog_12_method_29_code 114 = .ok (.imul, 1) := by decide +kernel
theorem d_Mo_evict_115 : decode prog_12_method_29_code 115 = .ok (.iload_n 3, 1) := by decide +kernel
theorem d_Mo_evict_116 : decode prog_12_method_29_code 116 = .ok (.iadd, 1) := by decide +kernel
theorem d_Mo_evict_117 : decode prog_12_method_29_code 117 = .ok (.istore 4, 2) := by decide +kernel
theorem d_Mo_evict_119 : decode prog_12_method_29_code 119 = .ok (.aload_n 0, 1) := by decide +kernel
theorem d_Mo_evict_120 : decode prog_12_method_29_code 120 = .ok (.getfield 68, 3) := by decide +kernel
theorem d_Mo_evict_123 : decode prog_12_method_29_code 123 = .ok (.iload 4, 2) := by decide +kernel
theorem d_Mo_evict_125 : decode prog_12_method_29_code 125 = .ok (.iaload, 1) := by decide +kernel
theorem d_Mo_evict_126 : decode prog_12_method_29_code 126 = .ok (.bipush 7, 2) := by decide +kernel
theorem d_Mo_evict_128 : decode prog_12_method_29_code 128 = .ok (.if_icmp .ne 7, 3) := by decide +kernel
theorem d_Mo_evict_131 : decode prog_12_method_29_code 131 = .ok (.iconst 1, 1) := by decide +kernel
theorem d_Mo_evict_132 : decode prog_12_method_29_code 132 = .ok (.goto 4, 3) := by decide +kernel
theorem d_Mo_evict_135 : decode prog_12_method_29_code 135 = .ok (.iconst 0, 1) := by decide +kernel
theorem d_Mo_evict_136 : decode prog_12_method_29_code 136 = .ok (.istore 5, 2) := by decide +kernel
theorem d_Mo_evict_138 : decode prog_12_method_29_code 138 = .ok (.aload_n 0, 1) := by decide +kernel
theorem d_Mo_evict_139 : decode prog_12_method_29_code 139 = .ok (.iload_n 1, 1) := by decide +kernel
theorem d_Mo_evict_140 : decode prog_12_method_29_code 140 = .ok (.iload 5, 2) := by decide +kernel
theorem d_Mo_evict_142 : decode prog_12_method_29_code 142 = .ok (.ifCond .eq 7, 3) := by decide +kernel
theorem d_Mo_evict_145 : decode prog_12_method_29_code 145 = .ok (.iconst 3, 1) := by decide +kernel
theorem d_Mo_evict_146 : decode prog_12_method_29_code 146 = .ok (.goto 4, 3) := by decide +kernel
theorem d_Mo_evict_149 : decode prog_12_method_29_code 149 = .ok (.iconst 2, 1) := by decide +kernel
theorem d_Mo_evict_150 : decode prog_12_method_29_code 150 = .ok (.iload_n 3, 1) := by decide +kernel
theorem d_Mo_evict_151 : decode prog_12_method_29_code 151 = .ok (.iload_n 3, 1) := by decide +kernel
theorem d_Mo_evict_152 : decode prog_12_method_29_code 152 = .ok (.invokestatic 169, 3) := by decide +kernel
theorem d_Mo_evict_155 : decode prog_12_method_29_code 155 = .ok (.iconst 0, 1) := by decide +kernel
theorem d_Mo_evict_156 : decode prog_12_method_29_code 156 = .ok (.aload_n 0, 1) := by decide +kernel
theorem d_Mo_evict_157 : decode prog_12_method_29_code 157 = .ok (.getfield 71, 3) := by decide +kernel
theorem d_Mo_evict_160 : decode prog_12_method_29_code 160 = .ok (.iload 4, 2) := by decide +kernel
theorem d_Mo_evict_162 : decode prog_12_method_29_code 162 = .ok (.iaload, 1) := by decide +kernel
theorem d_Mo_evict_163 : decode prog_12_method_29_code 163 = .ok (.iconst 0, 1) := by decide +kernel
theorem d_Mo_evict_164 : decode prog_12_method_29_code 164 = .ok (.invokevirtual 165, 3) := by decide +kernel
theorem d_Mo_evict_167 : decode prog_12_method_29_code 167 = .ok (.aload_n 0, 1) := by decide +kernel
theorem d_Mo_evict_168 : decode prog_12_method_29_code 168 = .ok (.getfield 68, 3) := by decide +kernel
theorem d_Mo_evict_171 : decode prog_12_method_29_code 171 = .ok (.iload 4, 2) := by decide +kernel
theorem d_Mo_evict_173 : decode prog_12_method_29_code 173 = .ok (.iload 5, 2) := by decide +kernel
theorem d_Mo_evict_175 : decode prog_12_method_29_code 175 = .ok (.ifCond .eq 8, 3) := by decide +kernel
theorem d_Mo_evict_178 : decode prog_12_method_29_code 178 = .ok (.bipush 8, 2) := by decide +kernel
theorem d_Mo_evict_180 : decode prog_12_method_29_code 180 = .ok (.goto 5, 3) := by decide +kernel
theorem d_Mo_evict_183 : decode prog_12_method_29_code 183 = .ok (.bipush 9, 2) := by decide +kernel
theorem d_Mo_evict_185 : decode prog_12_method_29_code 185 = .ok (.iastore, 1) := by decide +kernel
theorem d_Mo_evict_186 : decode prog_12_method_29_code 186 = .ok (.return_, 1) := by decide +kernel
theorem d_Mo_core_0 : decode prog_12_method_30_code 0 = .ok (.aload_n 0, 1) := by decide +kernel
theorem d_Mo_core_1 : decode prog_12_method_30_code 1 = .ok (.getfield 113, 3) := by decide +kernel
theorem d_Mo_core_4 : decode prog_12_method_30_code 4 = .ok (.iload_n 1, 1) := by decide +kernel
theorem d_Mo_core_5 : decode prog_12_method_30_code 5 = .ok (.baload, 1) := by decide +kernel
theorem d_Mo_core_6 : decode prog_12_method_30_code 6 = .ok (.ifCond .ne 18, 3) := by decide +kernel
theorem d_Mo_core_9 : decode prog_12_method_30_code 9 = .ok (.aload_n 0, 1) := by decide +kernel
theorem d_Mo_core_10 : decode prog_12_method_30_code 10 = .ok (.getfield 110, 3) := by decide +kernel
theorem d_Mo_core_13 : decode prog_12_method_30_code 13 = .ok (.iload_n 1, 1) := by decide +kernel
theorem d_Mo_core_14 : decode prog_12_method_30_code 14 = .ok (.iaload, 1) := by decide +kernel
theorem d_Mo_core_15 : decode prog_12_method_30_code 15 = .ok (.aload_n 0, 1) := by decide +kernel
theorem d_Mo_core_16 : decode prog_12_method_30_code 16 = .ok (.getfield 107, 3) := by decide +kernel
theorem d_Mo_core_19 : decode prog_12_method_30_code 19 = .ok (.iload_n 1, 1) := by decide +kernel
theorem d_Mo_core_20 : decode prog_12_method_30_code 20 = .ok (.iaload, 1) := by decide +kernel
theorem d_Mo_core_21 : decode prog_12_method_30_code 21 = .ok (.if_icmp .ne 4, 3) := by decide +kernel
theorem d_Mo_core_24 : decode prog_12_method_30_code 24 = .ok (.return_, 1) := by decide +kernel
theorem d_Mo_core_25 : decode prog_12_method_30_code 25 = .ok (.bipush 40, 2) := by decide +kernel
theorem d_Mo_core_27 : decode prog_12_method_30_code 27 = .ok (.iload_n 1, 1) := by decide +kernel
theorem d_Mo_core_28 : decode prog_12_method_30_code 28 = .ok (.imul, 1) := by decide +kernel
theorem d_Mo_core_29 : decode prog_12_method_30_code 29 = .ok (.aload_n 0, 1) := by decide +kernel
theorem d_Mo_core_30 : decode prog_12_method_30_code 30 = .ok (.getfield 110, 3) := by decide +kernel
theorem d_Mo_core_33 : decode prog_12_method_30_code 33 = .ok (.iload_n 1, 1) := by decide +kernel
theorem d_Mo_core_34 : decode prog_12_method_30_code 34 = .ok (.iaload, 1) := by decide +kernel
theorem d_Mo_core_35 : decode prog_12_method_30_code 35 = .ok (.iadd, 1) := by decide +kernel
theorem d_Mo_core_36 : decode prog_12_method_30_code 36 = .ok (.istore_n 2, 1) := by decide +kernel
theorem d_Mo_core_37 : decode prog_12_method_30_code 37 = .ok (.aload_n 0, 1) := by decide +kernel
theorem d_Mo_core_38 : decode prog_12_method_30_code 38 = .ok (.getfield 101, 3) := by decide +kernel
theorem d_Mo_core_41 : decode prog_12_method_30_code 41 = .ok (.iload_n 2, 1) := by decide +kernel
theorem d_Mo_core_42 : decode prog_12_method_30_code 42 = .ok (.iaload, 1) := by decide +kernel
theorem d_Mo_core_43 : decode prog_12_method_30_code 43 = .ok (.ifCond .le 14, 3) := by decide +kernel
theorem d_Mo_core_46 : decode prog_12_method_30_code 46 = .ok (.aload_n 0, 1) := by decide +kernel
theorem d_Mo_core_47 : decode prog_12_method_30_code 47 = .ok (.getfield 101, 3) := by decide +kernel
theorem d_Mo_core_50 : decode prog_12_method_30_code 50 = .ok (.iload_n 2, 1) := by decide +kernel
theorem d_Mo_core_51 : decode prog_12_method_30_code 51 = .ok (.dup2, 1) := by decide +kernel
theorem d_Mo_core_52 : decode prog_12_method_30_code 52 = .ok (.iaload, 1) := by decide +kernel
theorem d_Mo_core_53 : decode prog_12_method_30_code 53 = .ok (.iconst 1, 1) := by decide +kernel
theorem d_Mo_core_54 : decode prog_12_method_30_code 54 = .ok (.isub, 1) := by decide +kernel
theorem d_Mo_core_55 : decode prog_12_method_30_code 55 = .ok (.iastore, 1) := by decide +kernel
theorem d_Mo_core_56 : decode prog_12_method_30_code 56 = .ok (.return_, 1) := by decide +kernel
theorem d_Mo_core_57 : decode prog_12_method_30_code 57 = .ok (.aload_n 0, 1) := by decide +kernel
theorem d_Mo_core_58 : decode prog_12_method_30_code 58 = .ok (.getfield 95, 3) := by decide +kernel
theorem d_Mo_core_61 : decode prog_12_method_30_code 61 = .ok (.iload_n 2, 1) := by decide +kernel
theorem d_Mo_core_62 : decode prog_12_method_30_code 62 = .ok (.iaload, 1) := by decide +kernel
theorem d_Mo_core_63 : decode prog_12_method_30_code 63 = .ok (.istore_n 3, 1) := by decide +kernel
theorem d_Mo_core_64 : decode prog_12_method_30_code 64 = .ok (.aload_n 0, 1) := by decide +kernel
theorem d_Mo_core_65 : decode prog_12_method_30_code 65 = .ok (.getfield 68, 3) := by decide +kernel
theorem d_Mo_core_68 : decode prog_12_method_30_code 68 = .ok (.bipush 8, 2) := by decide +kernel
theorem d_Mo_core_70 : decode prog_12_method_30_code 70 = .ok (.iload_n 1, 1) := by decide +kernel
theorem d_Mo_core_71 : decode prog_12_method_30_code 71 = .ok (.imul, 1) := by decide +kernel
theorem d_Mo_core_72 : decode prog_12_method_30_code 72 = .ok (.iload_n 3, 1) := by decide +kernel
theorem d_Mo_core_73 : decode prog_12_method_30_code 73 = .ok (.iadd, 1) := by decide +kernel
theorem d_Mo_core_74 : decode prog_12_method_30_code 74 = .ok (.iaload, 1) := by decide +kernel
theorem d_Mo_core_75 : decode prog_12_method_30_code 75 = .ok (.istore 4, 2) := by decide +kernel
theorem d_Mo_core_77 : decode prog_12_method_30_code 77 = .ok (.aload_n 0, 1) := by decide +kernel
theorem d_Mo_core_78 : decode prog_12_method_30_code 78 = .ok (.getfield 92, 3) := by decide +kernel
theorem d_Mo_core_81 : decode prog_12_method_30_code 81 = .ok (.iload_n 2, 1) := by decide +kernel
theorem d_Mo_core_82 : decode prog_12_method_30_code 82 = .ok (.iaload, 1) := by decide +kernel
theorem d_Mo_core_83 : decode prog_12_method_30_code 83 = .ok (.ifCond .ne 7, 3) := by decide +kernel
theorem d_Mo_core_86 : decode prog_12_method_30_code 86 = .ok (.iconst 1, 1) := by decide +kernel
theorem d_Mo_core_87 : decode prog_12_method_30_code 87 = .ok (.goto 4, 3) := by decide +kernel
theorem d_Mo_core_90 : decode prog_12_method_30_code 90 = .ok (.iconst 0, 1) := by decide +kernel
theorem d_Mo_core_91 : decode prog_12_method_30_code 91 = .ok (.istore 5, 2) := by decide +kernel
theorem d_Mo_core_93 : decode prog_12_method_30_code 93 = .ok (.iload 4, 2) := by decide +kernel
theorem d_Mo_core_95 : decode prog_12_method_30_code 95 = .ok (.bipush 7, 2) := by decide +kernel
theorem d_Mo_core_97 : decode prog_12_method_30_code 97 = .ok (.if_icmp .eq 14, 3) := by decide +kernel
theorem d_Mo_core_100 : decode prog_12_method_30_code 100 = .ok (.iload 4, 2) := by decide +kernel
theorem d_Mo_core_102 : decode prog_12_method_30_code 102 = .ok (.iconst 4, 1) := by decide +kernel
theorem d_Mo_core_103 : decode prog_12_method_30_code 103 = .ok (.if_icmp .ne 17, 3) := by decide +kernel
theorem d_Mo_core_106 : decode prog_12_method_30_code 106 = .ok (.iload 5, 2) := by decide +kernel
theorem d_Mo_core_108 : decode prog_12_method_30_code 108 = .ok (.ifCond .eq 12, 3) := by decide +kernel
theorem d_Mo_core_111 : decode prog_12_method_30_code 111 = .ok (.aload_n 0, 1) := by decide +kernel
theorem d_Mo_core_112 : decode prog_12_method_30_code 112 = .ok (.iload_n 1, 1) := by decide +kernel
theorem d_Mo_core_113 : decode prog_12_method_30_code 113 = .ok (.iload_n 3, 1) := by decide +kernel
theorem d_Mo_core_114 : decode prog_12_method_30_code 114 = .ok (.invokevirtual 161, 3) := by decide +kernel
theorem d_Mo_core_117 : decode prog_12_method_30_code 117 = .ok (.goto 148, 3) := by decide +kernel
theorem d_Mo_core_120 : decode prog_12_method_30_code 120 = .ok (.iload 4, 2) := by decide +kernel
theorem d_Mo_core_122 : decode prog_12_method_30_code 122 = .ok (.iconst 4, 1) := by decide +kernel
theorem d_Mo_core_123 : decode prog_12_method_30_code 123 = .ok (.if_icmp .ne 32, 3) := by decide +kernel
theorem d_Mo_core_126 : decode prog_12_method_30_code 126 = .ok (.aload_n 0, 1) := by decide +kernel
theorem d_Mo_core_127 : decode prog_12_method_30_code 127 = .ok (.iload_n 1, 1) := by decide +kernel
theorem d_Mo_core_128 : decode prog_12_method_30_code 128 = .ok (.iconst 1, 1) := by decide +kernel
theorem d_Mo_core_129 : decode prog_12_method_30_code 129 = .ok (.iload_n 3, 1) := by decide +kernel
theorem d_Mo_core_130 : decode prog_12_method_30_code 130 = .ok (.iload_n 3, 1) := by decide +kernel
theorem d_Mo_core_131 : decode prog_12_method_30_code 131 = .ok (.invokestatic 169, 3) := by decide +kernel
theorem d_Mo_core_134 : decode prog_12_method_30_code 134 = .ok (.iconst 0, 1) := by decide +kernel
theorem d_Mo_core_135 : decode prog_12_method_30_code 135 = .ok (.iconst 0, 1) := by decide +kernel
theorem d_Mo_core_136 : decode prog_12_method_30_code 136 = .ok (.iconst 0, 1) := by decide +kernel
theorem d_Mo_core_137 : decode prog_12_method_30_code 137 = .ok (.invokevirtual 165, 3) := by decide +kernel
theorem d_Mo_core_140 : decode prog_12_method_30_code 140 = .ok (.aload_n 0, 1) := by decide +kernel
theorem d_Mo_core_141 : decode prog_12_method_30_code 141 = .ok (.getfield 68, 3) := by decide +kernel
theorem d_Mo_core_144 : decode prog_12_method_30_code 144 = .ok (.bipush 8, 2) := by decide +kernel
theorem d_Mo_core_146 : decode prog_12_method_30_code 146 = .ok (.iload_n 1, 1) := by decide +kernel
theorem d_Mo_core_147 : decode prog_12_method_30_code 147 = .ok (.imul, 1) := by decide +kernel
theorem d_Mo_core_148 : decode prog_12_method_30_code 148 = .ok (.iload_n 3, 1) := by decide +kernel
theorem d_Mo_core_149 : decode prog_12_method_30_code 149 = .ok (.iadd, 1) := by decide +kernel
theorem d_Mo_core_150 : decode prog_12_method_30_code 150 = .ok (.iconst 5, 1) := by decide +kernel
theorem d_Mo_core_151 : decode prog_12_method_30_code 151 = .ok (.iastore, 1) := by decide +kernel
theorem d_Mo_core_152 : decode prog_12_method_30_code 152 = .ok (.goto 113, 3) := by decide +kernel
theorem d_Mo_core_155 : decode prog_12_method_30_code 155 = .ok (.iload 4, 2) := by decide +kernel
theorem d_Mo_core_157 : decode prog_12_method_30_code 157 = .ok (.ifCond .ne 108, 3) := by decide +kernel
theorem d_Mo_core_160 : decode prog_12_method_30_code 160 = .ok (.iconst 0, 1) := by decide +kernel
theorem d_Mo_core_161 : decode prog_12_method_30_code 161 = .ok (.istore 6, 2) := by decide +kernel
theorem d_Mo_core_163 : decode prog_12_method_30_code 163 = .ok (.iload_n 3, 1) := by decide +kernel
theorem d_Mo_core_164 : decode prog_12_method_30_code 164 = .ok (.iconst 2, 1) := by decide +kernel
theorem d_Mo_core_165 : decode prog_12_method_30_code 165 = .ok (.irem, 1) := by decide +kernel
theorem d_Mo_core_166 : decode prog_12_method_30_code 166 = .ok (.istore 7, 2) := by decide +kernel
theorem d_Mo_core_168 : decode prog_12_method_30_code 168 = .ok (.iload 7, 2) := by decide +kernel
theorem d_Mo_core_170 : decode prog_12_method_30_code 170 = .ok (.bipush 8, 2) := by decide +kernel
theorem d_Mo_core_172 : decode prog_12_method_30_code 172 = .ok (.if_icmp .ge 34, 3) := by decide +kernel
theorem d_Mo_core_175 : decode prog_12_method_30_code 175 = .ok (.iload 6, 2) := by decide +kernel
theorem d_Mo_core_177 : decode prog_12_method_30_code 177 = .ok (.aload_n 0, 1) := by decide +kernel
theorem d_Mo_core_178 : decode prog_12_method_30_code 178 = .ok (.getfield 68, 3) := by decide +kernel
theorem d_Mo_core_181 : decode prog_12_method_30_code 181 = .ok (.bipush 8, 2) := by decide +kernel
theorem d_Mo_core_183 : decode prog_12_method_30_code 183 = .ok (.iload_n 1, 1) := by decide +kernel
theorem d_Mo_core_184 : decode prog_12_method_30_code 184 = .ok (.imul, 1) := by decide +kernel
theorem d_Mo_core_185 : decode prog_12_method_30_code 185 = .ok (.iload 7, 2) := by decide +kernel
theorem d_Mo_core_187 : decode prog_12_method_30_code 187 = .ok (.iadd, 1) := by decide +kernel
theorem d_Mo_core_188 : decode prog_12_method_30_code 188 = .ok (.iaload, 1) := by decide +kernel
theorem d_Mo_core_189 : decode prog_12_method_30_code 189 = .ok (.ifCond .ne 7, 3) := by decide +kernel
theorem d_Mo_core_192 : decode prog_12_method_30_code 192 = .ok (.iconst 0, 1) := by decide +kernel
theorem d_Mo_core_193 : decode prog_12_method_30_code 193 = .ok (.goto 4, 3) := by decide +kernel
theorem d_Mo_core_196 : decode prog_12_method_30_code 196 = .ok (.iconst 1, 1) := by decide +kernel
theorem d_Mo_core_197 : decode prog_12_method_30_code 197 = .ok (.iadd, 1) := by decide +kernel
theorem d_Mo_core_198 : decode prog_12_method_30_code 198 = .ok (.istore 6, 2) := by decide +kernel
theorem d_Mo_core_200 : decode prog_12_method_30_code 200 = .ok (.iinc 7 2, 3) := by decide +kernel
theorem d_Mo_core_203 : decode prog_12_method_30_code 203 = .ok (.goto (-35), 3) := by decide +kernel
theorem d_Mo_core_206 : decode prog_12_method_30_code 206 = .ok (.iload 6, 2) := by decide +kernel
theorem d_Mo_core_208 : decode prog_12_method_30_code 208 = .ok (.iconst 2, 1) := by decide +kernel
theorem d_Mo_core_209 : decode prog_12_method_30_code 209 = .ok (.if_icmp .ne 12, 3) := by decide +kernel
theorem d_Mo_core_212 : decode prog_12_method_30_code 212 = .ok (.aload_n 0, 1) := by decide +kernel
theorem d_Mo_core_213 : decode prog_12_method_30_code 213 = .ok (.iload_n 1, 1) := by decide +kernel
theorem d_Mo_core_214 : decode prog_12_method_30_code 214 = .ok (.iload_n 3, 1) := by decide +kernel
theorem d_Mo_core_215 : decode prog_12_method_30_code 215 = .ok (.invokevirtual 212, 3) := by decide +kernel
theorem d_Mo_core_218 : decode prog_12_method_30_code 218 = .ok (.goto 47, 3) := by decide +kernel
theorem d_Mo_core_221 : decode prog_12_method_30_code 221 = .ok (.aload_n 0, 1) := by decide +kernel
theorem d_Mo_core_222 : decode prog_12_method_30_code 222 = .ok (.iload_n 1, 1) := by decide +kernel
theorem d_Mo_core_223 : decode prog_12_method_30_code 223 = .ok (.iload 5, 2) := by decide +kernel
theorem d_Mo_core_225 : decode prog_12_method_30_code 225 = .ok (.ifCond .eq 7, 3) := by decide +kernel
theorem d_Mo_core_228 : decode prog_12_method_30_code 228 = .ok (.iconst 0, 1) := by decide +kernel
theorem d_Mo_core_229 : decode prog_12_method_30_code 229 = .ok (.goto 4, 3) := by decide +kernel
theorem d_Mo_core_232 : decode prog_12_method_30_code 232 = .ok (.iconst 1, 1) := by decide +kernel
theorem d_Mo_core_233 : decode prog_12_method_30_code 233 = .ok (.iload_n 3, 1) := by decide +kernel
theorem d_Mo_core_234 : decode prog_12_method_30_code 234 = .ok (.iload_n 3, 1) := by decide +kernel
theorem d_Mo_core_235 : decode prog_12_method_30_code 235 = .ok (.invokestatic 169, 3) := by decide +kernel
theorem d_Mo_core_238 : decode prog_12_method_30_code 238 = .ok (.iconst 0, 1) := by decide +kernel
theorem d_Mo_core_239 : decode prog_12_method_30_code 239 = .ok (.iconst 0, 1) := by decide +kernel
theorem d_Mo_core_240 : decode prog_12_method_30_code 240 = .ok (.iconst 0, 1) := by decide +kernel
theorem d_Mo_core_241 : decode prog_12_method_30_code 241 = .ok (.invokevirtual 165, 3) := by decide +kernel
theorem d_Mo_core_244 : decode prog_12_method_30_code 244 = .ok (.aload_n 0, 1) := by decide +kernel
theorem d_Mo_core_245 : decode prog_12_method_30_code 245 = .ok (.getfield 68, 3) := by decide +kernel
theorem d_Mo_core_248 : decode prog_12_method_30_code 248 = .ok (.bipush 8, 2) := by decide +kernel
theorem d_Mo_core_250 : decode prog_12_method_30_code 250 = .ok (.iload_n 1, 1) := by decide +kernel
theorem d_Mo_core_251 : decode prog_12_method_30_code 251 = .ok (.imul, 1) := by decide +kernel
theorem d_Mo_core_252 : decode prog_12_method_30_code 252 = .ok (.iload_n 3, 1) := by decide +kernel
theorem d_Mo_core_253 : decode prog_12_method_30_code 253 = .ok (.iadd, 1) := by decide +kernel
theorem d_Mo_core_254 : decode prog_12_method_30_code 254 = .ok (.iload 5, 2) := by decide +kernel
theorem d_Mo_core_256 : decode prog_12_method_30_code 256 = .ok (.ifCond .eq 7, 3) := by decide +kernel
theorem d_Mo_core_259 : decode prog_12_method_30_code 259 = .ok (.iconst 1, 1) := by decide +kernel
theorem d_Mo_core_260 : decode prog_12_method_30_code 260 = .ok (.goto 4, 3) := by decide +kernel
theorem d_Mo_core_263 : decode prog_12_method_30_code 263 = .ok (.iconst 2, 1) := by decide +kernel
theorem d_Mo_core_264 : decode prog_12_method_30_code 264 = .ok (.iastore, 1) := by decide +kernel
theorem d_Mo_core_265 : decode prog_12_method_30_code 265 = .ok (.return_, 1) := by decide +kernel
theorem d_Mo_oneCycle_0 : decode prog_12_method_31_code 0 = .ok (.aload_n 0, 1) := by decide +kernel
theorem d_Mo_oneCycle_1 : decode prog_12_method_31_code 1 = .ok (.dup, 1) := by decide +kernel
theorem d_Mo_oneCycle_2 : decode prog_12_method_31_code 2 = .ok (.getfield 130, 3) := by decide +kernel
theorem d_Mo_oneCycle_5 : decode prog_12_method_31_code 5 = .ok (.iconst 1, 1) := by decide +kernel
theorem d_Mo_oneCycle_6 : decode prog_12_method_31_code 6 = .ok (.iadd, 1) := by decide +kernel
theorem d_Mo_oneCycle_7 : decode prog_12_method_31_code 7 = .ok (.putfield 130, 3) := by decide +kernel
theorem d_Mo_oneCycle_10 : decode prog_12_method_31_code 10 = .ok (.iconst 0, 1) := by decide +kernel
theorem d_Mo_oneCycle_11 : decode prog_12_method_31_code 11 = .ok (.istore_n 1, 1) := by decide +kernel
theorem d_Mo_oneCycle_12 : decode prog_12_method_31_code 12 = .ok (.iload_n 1, 1) := by decide +kernel
theorem d_Mo_oneCycle_13 : decode prog_12_method_31_code 13 = .ok (.bipush 6, 2) := by decide +kernel
theorem d_Mo_oneCycle_15 : decode prog_12_method_31_code 15 = .ok (.if_icmp .ge 28, 3) := by decide +kernel
theorem d_Mo_oneCycle_18 : decode prog_12_method_31_code 18 = .ok (.iconst 0, 1) := by decide +kernel
theorem d_Mo_oneCycle_19 : decode prog_12_method_31_code 19 = .ok (.istore_n 2, 1) := by decide +kernel
theorem d_Mo_oneCycle_20 : decode prog_12_method_31_code 20 = .ok (.iload_n 2, 1) := by decide +kernel
theorem d_Mo_oneCycle_21 : decode prog_12_method_31_code 21 = .ok (.iconst 3, 1) := by decide +kernel
theorem d_Mo_oneCycle_22 : decode prog_12_method_31_code 22 = .ok (.if_icmp .ge 15, 3) := by decide +kernel
theorem d_Mo_oneCycle_25 : decode prog_12_method_31_code 25 = .ok (.aload_n 0, 1) := by decide +kernel
theorem d_Mo_oneCycle_26 : decode prog_12_method_31_code 26 = .ok (.iload_n 1, 1) := by decide +kernel
theorem d_Mo_oneCycle_27 : decode prog_12_method_31_code 27 = .ok (.iload_n 2, 1) := by decide +kernel
theorem d_Mo_oneCycle_28 : decode prog_12_method_31_code 28 = .ok (.invokevirtual 215, 3) := by decide +kernel
theorem d_Mo_oneCycle_31 : decode prog_12_method_31_code 31 = .ok (.iinc 2 1, 3) := by decide +kernel
theorem d_Mo_oneCycle_34 : decode prog_12_method_31_code 34 = .ok (.goto (-14), 3) := by decide +kernel
theorem d_Mo_oneCycle_37 : decode prog_12_method_31_code 37 = .ok (.iinc 1 1, 3) := by decide +kernel
theorem d_Mo_oneCycle_40 : decode prog_12_method_31_code 40 = .ok (.goto (-28), 3) := by decide +kernel
theorem d_Mo_oneCycle_43 : decode prog_12_method_31_code 43 = .ok (.iconst 0, 1) := by decide +kernel
theorem d_Mo_oneCycle_44 : decode prog_12_method_31_code 44 = .ok (.istore_n 1, 1) := by decide +kernel
theorem d_Mo_oneCycle_45 : decode prog_12_method_31_code 45 = .ok (.iload_n 1, 1) := by decide +kernel
theorem d_Mo_oneCycle_46 : decode prog_12_method_31_code 46 = .ok (.bipush 6, 2) := by decide +kernel
theorem d_Mo_oneCycle_48 : decode prog_12_method_31_code 48 = .ok (.if_icmp .ge 51, 3) := by decide +kernel
theorem d_Mo_oneCycle_51 : decode prog_12_method_31_code 51 = .ok (.iconst 0, 1) := by decide +kernel
theorem d_Mo_oneCycle_52 : decode prog_12_method_31_code 52 = .ok (.istore_n 2, 1) := by decide +kernel
theorem d_Mo_oneCycle_53 : decode prog_12_method_31_code 53 = .ok (.iload_n 2, 1) := by decide +kernel
theorem d_Mo_oneCycle_54 : decode prog_12_method_31_code 54 = .ok (.iconst 5, 1) := by decide +kernel
theorem d_Mo_oneCycle_55 : decode prog_12_method_31_code 55 = .ok (.if_icmp .ge 38, 3) := by decide +kernel
theorem d_Mo_oneCycle_58 : decode prog_12_method_31_code 58 = .ok (.iconst 0, 1) := by decide +kernel
theorem d_Mo_oneCycle_59 : decode prog_12_method_31_code 59 = .ok (.istore_n 3, 1) := by decide +kernel
theorem d_Mo_oneCycle_60 : decode prog_12_method_31_code 60 = .ok (.iconst 2, 1) := by decide +kernel
theorem d_Mo_oneCycle_61 : decode prog_12_method_31_code 61 = .ok (.istore 4, 2) := by decide +kernel
theorem d_Mo_oneCycle_63 : decode prog_12_method_31_code 63 = .ok (.iload 4, 2) := by decide +kernel
theorem d_Mo_oneCycle_65 : decode prog_12_method_31_code 65 = .ok (.ifCond .lt 22, 3) := by decide +kernel
theorem d_Mo_oneCycle_68 : decode prog_12_method_31_code 68 = .ok (.iload_n 3, 1) := by decide +kernel
theorem d_Mo_oneCycle_69 : decode prog_12_method_31_code 69 = .ok (.ifCond .ne 18, 3) := by decide +kernel
theorem d_Mo_oneCycle_72 : decode prog_12_method_31_code 72 = .ok (.aload_n 0, 1) := by decide +kernel
theorem d_Mo_oneCycle_73 : decode prog_12_method_31_code 73 = .ok (.iload_n 1, 1) := by decide +kernel
theorem d_Mo_oneCycle_74 : decode prog_12_method_31_code 74 = .ok (.iload_n 2, 1) := by decide +kernel
theorem d_Mo_oneCycle_75 : decode prog_12_method_31_code 75 = .ok (.iload 4, 2) := by decide +kernel
theorem d_Mo_oneCycle_77 : decode prog_12_method_31_code 77 = .ok (.invokevirtual 218, 3) := by decide +kernel
theorem d_Mo_oneCycle_80 : decode prog_12_method_31_code 80 = .ok (.istore_n 3, 1) := by decide +kernel
theorem d_Mo_oneCycle_81 : decode prog_12_method_31_code 81 = .ok (.iinc 4 (-1), 3) := by decide +kernel
theorem d_Mo_oneCycle_84 : decode prog_12_method_31_code 84 = .ok (.goto (-21), 3) := by decide +kernel
theorem d_Mo_oneCycle_87 : decode prog_12_method_31_code 87 = .ok (.iinc 2 1, 3) := by decide +kernel
theorem d_Mo_oneCycle_90 : decode prog_12_method_31_code 90 = .ok (.goto (-37), 3) := by decide +kernel
theorem d_Mo_oneCycle_93 : decode prog_12_method_31_code 93 = .ok (.iinc 1 1, 3) := by decide +kernel
theorem d_Mo_oneCycle_96 : decode prog_12_method_31_code 96 = .ok (.goto (-51), 3) := by decide +kernel
theorem d_Mo_oneCycle_99 : decode prog_12_method_31_code 99 = .ok (.iconst 0, 1) := by decide +kernel
theorem d_Mo_oneCycle_100 : decode prog_12_method_31_code 100 = .ok (.istore_n 1, 1) := by decide +kernel
theorem d_Mo_oneCycle_101 : decode prog_12_method_31_code 101 = .ok (.iload_n 1, 1) := by decide +kernel
theorem d_Mo_oneCycle_102 : decode prog_12_method_31_code 102 = .ok (.bipush 6, 2) := by decide +kernel
theorem d_Mo_oneCycle_104 : decode prog_12_method_31_code 104 = .ok (.if_icmp .ge 16, 3) := by decide +kernel
theorem d_Mo_oneCycle_107 : decode prog_12_method_31_code 107 = .ok (.aload_n 0, 1) := by decide +kernel
theorem d_Mo_oneCycle_108 : decode prog_12_method_31_code 108 = .ok (.getfield 113, 3) := by decide +kernel
theorem d_Mo_oneCycle_111 : decode prog_12_method_31_code 111 = .ok (.iload_n 1, 1) := by decide +kernel
theorem d_Mo_oneCycle_112 : decode prog_12_method_31_code 112 = .ok (.iconst 0, 1) := by decide +kernel
theorem d_Mo_oneCycle_113 : decode prog_12_method_31_code 113 = .ok (.bastore, 1) := by decide +kernel
theorem d_Mo_oneCycle_114 : decode prog_12_method_31_code 114 = .ok (.iinc 1 1, 3) := by decide +kernel
theorem d_Mo_oneCycle_117 : decode prog_12_method_31_code 117 = .ok (.goto (-16), 3) := by decide +kernel
theorem d_Mo_oneCycle_120 : decode prog_12_method_31_code 120 = .ok (.iconst 0, 1) := by decide +kernel
theorem d_Mo_oneCycle_121 : decode prog_12_method_31_code 121 = .ok (.istore_n 1, 1) := by decide +kernel
theorem d_Mo_oneCycle_122 : decode prog_12_method_31_code 122 = .ok (.iload_n 1, 1) := by decide +kernel
theorem d_Mo_oneCycle_123 : decode prog_12_method_31_code 123 = .ok (.bipush 6, 2) := by decide +kernel
theorem d_Mo_oneCycle_125 : decode prog_12_method_31_code 125 = .ok (.if_icmp .ge 27, 3) := by decide +kernel
theorem d_Mo_oneCycle_128 : decode prog_12_method_31_code 128 = .ok (.iconst 2, 1) := by decide +kernel
theorem d_Mo_oneCycle_129 : decode prog_12_method_31_code 129 = .ok (.istore_n 2, 1) := by decide +kernel
theorem d_Mo_oneCycle_130 : decode prog_12_method_31_code 130 = .ok (.iload_n 2, 1) := by decide +kernel
theorem d_Mo_oneCycle_131 : decode prog_12_method_31_code 131 = .ok (.ifCond .lt 15, 3) := by decide +kernel
theorem d_Mo_oneCycle_134 : decode prog_12_method_31_code 134 = .ok (.aload_n 0, 1) := by decide +kernel
theorem d_Mo_oneCycle_135 : decode prog_12_method_31_code 135 = .ok (.iload_n 1, 1) := by decide +kernel
theorem d_Mo_oneCycle_136 : decode prog_12_method_31_code 136 = .ok (.iload_n 2, 1) := by decide +kernel
theorem d_Mo_oneCycle_137 : decode prog_12_method_31_code 137 = .ok (.invokevirtual 221, 3) := by decide +kernel
theorem d_Mo_oneCycle_140 : decode prog_12_method_31_code 140 = .ok (.iinc 2 (-1), 3) := by decide +kernel
theorem d_Mo_oneCycle_143 : decode prog_12_method_31_code 143 = .ok (.goto (-13), 3) := by decide +kernel
theorem d_Mo_oneCycle_146 : decode prog_12_method_31_code 146 = .ok (.iinc 1 1, 3) := by decide +kernel
theorem d_Mo_oneCycle_149 : decode prog_12_method_31_code 149 = .ok (.goto (-27), 3) := by decide +kernel
theorem d_Mo_oneCycle_152 : decode prog_12_method_31_code 152 = .ok (.iconst 0, 1) := by decide +kernel
theorem d_Mo_oneCycle_153 : decode prog_12_method_31_code 153 = .ok (.istore_n 1, 1) := by decide +kernel
theorem d_Mo_oneCycle_154 : decode prog_12_method_31_code 154 = .ok (.iload_n 1, 1) := by decide +kernel
theorem d_Mo_oneCycle_155 : decode prog_12_method_31_code 155 = .ok (.bipush 6, 2) := by decide +kernel
theorem d_Mo_oneCycle_157 : decode prog_12_method_31_code 157 = .ok (.if_icmp .ge 14, 3) := by decide +kernel
theorem d_Mo_oneCycle_160 : decode prog_12_method_31_code 160 = .ok (.aload_n 0, 1) := by decide +kernel
theorem d_Mo_oneCycle_161 : decode prog_12_method_31_code 161 = .ok (.iload_n 1, 1) := by decide +kernel
theorem d_Mo_oneCycle_162 : decode prog_12_method_31_code 162 = .ok (.invokevirtual 224, 3) := by decide +kernel
theorem d_Mo_oneCycle_165 : decode prog_12_method_31_code 165 = .ok (.iinc 1 1, 3) := by decide +kernel
theorem d_Mo_oneCycle_168 : decode prog_12_method_31_code 168 = .ok (.goto (-14), 3) := by decide +kernel
theorem d_Mo_oneCycle_171 : decode prog_12_method_31_code 171 = .ok (.return_, 1) := by decide +kernel
theorem d_Mo_run_0 : decode prog_12_method_33_code 0 = .ok (.iload_n 1, 1) := by decide +kernel
theorem d_Mo_run_1 : decode prog_12_method_33_code 1 = .ok (.ifCond .lt 9, 3) := by decide +kernel
theorem d_Mo_run_4 : decode prog_12_method_33_code 4 = .ok (.iload_n 1, 1) := by decide +kernel
theorem d_Mo_run_5 : decode prog_12_method_33_code 5 = .ok (.bipush 100, 2) := by decide +kernel
theorem d_Mo_run_7 : decode prog_12_method_33_code 7 = .ok (.if_icmp .le 5, 3) := by decide +kernel
theorem d_Mo_run_10 : decode prog_12_method_33_code 10 = .ok (.iconst (-1), 1) := by decide +kernel
theorem d_Mo_run_11 : decode prog_12_method_33_code 11 = .ok (.ireturn, 1) := by decide +kernel
theorem d_Mo_run_12 : decode prog_12_method_33_code 12 = .ok (.iconst 0, 1) := by decide +kernel
theorem d_Mo_run_13 : decode prog_12_method_33_code 13 = .ok (.istore_n 2, 1) := by decide +kernel
theorem d_Mo_run_14 : decode prog_12_method_33_code 14 = .ok (.iload_n 2, 1) := by decide +kernel
theorem d_Mo_run_15 : decode prog_12_method_33_code 15 = .ok (.iload_n 1, 1) := by decide +kernel
theorem d_Mo_run_16 : decode prog_12_method_33_code 16 = .ok (.if_icmp .ge 13, 3) := by decide +kernel
theorem d_Mo_run_19 : decode prog_12_method_33_code 19 = .ok (.aload_n 0, 1) := by decide +kernel
theorem d_Mo_run_20 : decode prog_12_method_33_code 20 = .ok (.invokevirtual 233, 3) := by decide +kernel
theorem d_Mo_run_23 : decode prog_12_method_33_code 23 = .ok (.iinc 2 1, 3) := by decide +kernel
theorem d_Mo_run_26 : decode prog_12_method_33_code 26 = .ok (.goto (-12), 3) := by decide +kernel
theorem d_Mo_run_29 : decode prog_12_method_33_code 29 = .ok (.aload_n 0, 1) := by decide +kernel
theorem d_Mo_run_30 : decode prog_12_method_33_code 30 = .ok (.getfield 130, 3) := by decide +kernel
theorem d_Mo_run_33 : decode prog_12_method_33_code 33 = .ok (.ireturn, 1) := by decide +kernel
theorem d_ML_result_0 : decode prog_1_method_4_code 0 = .ok (.iload_n 1, 1) := by decide +kernel
theorem d_ML_result_1 : decode prog_1_method_4_code 1 = .ok (.bipush 6, 2) := by decide +kernel
theorem d_ML_result_3 : decode prog_1_method_4_code 3 = .ok (.invokestatic 40, 3) := by decide +kernel
theorem d_ML_result_6 : decode prog_1_method_4_code 6 = .ok (.ifCond .ne 5, 3) := by decide +kernel
theorem d_ML_result_9 : decode prog_1_method_4_code 9 = .ok (.iconst 0, 1) := by decide +kernel
theorem d_ML_result_10 : decode prog_1_method_4_code 10 = .ok (.ireturn, 1) := by decide +kernel
theorem d_ML_result_11 : decode prog_1_method_4_code 11 = .ok (.aload_n 0, 1) := by decide +kernel
theorem d_ML_result_12 : decode prog_1_method_4_code 12 = .ok (.getfield 33, 3) := by decide +kernel
theorem d_ML_result_15 : decode prog_1_method_4_code 15 = .ok (.iload_n 1, 1) := by decide +kernel
theorem d_ML_result_16 : decode prog_1_method_4_code 16 = .ok (.aaload, 1) := by decide +kernel
theorem d_ML_result_17 : decode prog_1_method_4_code 17 = .ok (.getfield 44, 3) := by decide +kernel
theorem d_ML_result_20 : decode prog_1_method_4_code 20 = .ok (.astore_n 3, 1) := by decide +kernel
theorem d_ML_result_21 : decode prog_1_method_4_code 21 = .ok (.iload_n 2, 1) := by decide +kernel
theorem d_ML_result_22 : decode prog_1_method_4_code 22 = .ok (.aload_n 3, 1) := by decide +kernel
theorem d_ML_result_23 : decode prog_1_method_4_code 23 = .ok (.getfield 71, 3) := by decide +kernel
theorem d_ML_result_26 : decode prog_1_method_4_code 26 = .ok (.invokestatic 40, 3) := by decide +kernel
theorem d_ML_result_29 : decode prog_1_method_4_code 29 = .ok (.ifCond .eq 12, 3) := by decide +kernel
theorem d_ML_result_32 : decode prog_1_method_4_code 32 = .ok (.aload_n 3, 1) := by decide +kernel
theorem d_ML_result_33 : decode prog_1_method_4_code 33 = .ok (.getfield 74, 3) := by decide +kernel
theorem d_ML_result_36 : decode prog_1_method_4_code 36 = .ok (.iload_n 2, 1) := by decide +kernel
theorem d_ML_result_37 : decode prog_1_method_4_code 37 = .ok (.iaload, 1) := by decide +kernel
theorem d_ML_result_38 : decode prog_1_method_4_code 38 = .ok (.goto 4, 3) := by decide +kernel
theorem d_ML_result_41 : decode prog_1_method_4_code 41 = .ok (.iconst 0, 1) := by decide +kernel
theorem d_ML_result_42 : decode prog_1_method_4_code 42 = .ok (.ireturn, 1) := by decide +kernel
theorem d_Mo_result_0 : decode prog_12_method_34_code 0 = .ok (.iload_n 1, 1) := by decide +kernel
theorem d_Mo_result_1 : decode prog_12_method_34_code 1 = .ok (.invokestatic 227, 3) := by decide +kernel
theorem d_Mo_result_4 : decode prog_12_method_34_code 4 = .ok (.ifCond .eq 17, 3) := by decide +kernel
theorem d_Mo_result_7 : decode prog_12_method_34_code 7 = .ok (.iload_n 2, 1) := by decide +kernel
theorem d_Mo_result_8 : decode prog_12_method_34_code 8 = .ok (.ifCond .lt 13, 3) := by decide +kernel
theorem d_Mo_result_11 : decode prog_12_method_34_code 11 = .ok (.iload_n 2, 1) := by decide +kernel
theorem d_Mo_result_12 : decode prog_12_method_34_code 12 = .ok (.aload_n 0, 1) := by decide +kernel
theorem d_Mo_result_13 : decode prog_12_method_34_code 13 = .ok (.getfield 110, 3) := by decide +kernel
theorem d_Mo_result_16 : decode prog_12_method_34_code 16 = .ok (.iload_n 1, 1) := by decide +kernel
theorem d_Mo_result_17 : decode prog_12_method_34_code 17 = .ok (.iaload, 1) := by decide +kernel
theorem d_Mo_result_18 : decode prog_12_method_34_code 18 = .ok (.if_icmp .lt 7, 3) := by decide +kernel
theorem d_Mo_result_21 : decode prog_12_method_34_code 21 = .ok (.iconst 0, 1) := by decide +kernel
theorem d_Mo_result_22 : decode prog_12_method_34_code 22 = .ok (.goto 14, 3) := by decide +kernel
theorem d_Mo_result_25 : decode prog_12_method_34_code 25 = .ok (.aload_n 0, 1) := by decide +kernel
theorem d_Mo_result_26 : decode prog_12_method_34_code 26 = .ok (.getfield 104, 3) := by decide +kernel
theorem d_Mo_result_29 : decode prog_12_method_34_code 29 = .ok (.bipush 40, 2) := by decide +kernel
theorem d_Mo_result_31 : decode prog_12_method_34_code 31 = .ok (.iload_n 1, 1) := by decide +kernel
theorem d_Mo_result_32 : decode prog_12_method_34_code 32 = .ok (.imul, 1) := by decide +kernel
theorem d_Mo_result_33 : decode prog_12_method_34_code 33 = .ok (.iload_n 2, 1) := by decide +kernel
theorem d_Mo_result_34 : decode prog_12_method_34_code 34 = .ok (.iadd, 1) := by decide +kernel
theorem d_Mo_result_35 : decode prog_12_method_34_code 35 = .ok (.iaload, 1) := by decide +kernel
theorem d_Mo_result_36 : decode prog_12_method_34_code 36 = .ok (.ireturn, 1) := by decide +kernel
theorem d_ML_done_0 : decode prog_1_method_5_code 0 = .ok (.iload_n 1, 1) := by decide +kernel
theorem d_ML_done_1 : decode prog_1_method_5_code 1 = .ok (.bipush 6, 2) := by decide +kernel
theorem d_ML_done_3 : decode prog_1_method_5_code 3 = .ok (.invokestatic 40, 3) := by decide +kernel
theorem d_ML_done_6 : decode prog_1_method_5_code 6 = .ok (.ifCond .eq 18, 3) := by decide +kernel
theorem d_ML_done_9 : decode prog_1_method_5_code 9 = .ok (.aload_n 0, 1) := by decide +kernel
theorem d_ML_done_10 : decode prog_1_method_5_code 10 = .ok (.getfield 33, 3) := by decide +kernel
theorem d_ML_done_13 : decode prog_1_method_5_code 13 = .ok (.iload_n 1, 1) := by decide +kernel
theorem d_ML_done_14 : decode prog_1_method_5_code 14 = .ok (.aaload, 1) := by decide +kernel
theorem d_ML_done_15 : decode prog_1_method_5_code 15 = .ok (.getfield 44, 3) := by decide +kernel
theorem d_ML_done_18 : decode prog_1_method_5_code 18 = .ok (.getfield 71, 3) := by decide +kernel
theorem d_ML_done_21 : decode prog_1_method_5_code 21 = .ok (.goto 4, 3) := by decide +kernel
theorem d_ML_done_24 : decode prog_1_method_5_code 24 = .ok (.iconst (-1), 1) := by decide +kernel
theorem d_ML_done_25 : decode prog_1_method_5_code 25 = .ok (.ireturn, 1) := by decide +kernel
theorem d_Mo_done_0 : decode prog_12_method_35_code 0 = .ok (.iload_n 1, 1) := by decide +kernel
theorem d_Mo_done_1 : decode prog_12_method_35_code 1 = .ok (.invokestatic 227, 3) := by decide +kernel
theorem d_Mo_done_4 : decode prog_12_method_35_code 4 = .ok (.ifCond .eq 12, 3) := by decide +kernel
theorem d_Mo_done_7 : decode prog_12_method_35_code 7 = .ok (.aload_n 0, 1) := by decide +kernel
theorem d_Mo_done_8 : decode prog_12_method_35_code 8 = .ok (.getfield 110, 3) := by decide +kernel
theorem d_Mo_done_11 : decode prog_12_method_35_code 11 = .ok (.iload_n 1, 1) := by decide +kernel
theorem d_Mo_done_12 : decode prog_12_method_35_code 12 = .ok (.iaload, 1) := by decide +kernel
theorem d_Mo_done_13 : decode prog_12_method_35_code 13 = .ok (.goto 4, 3) := by decide +kernel
theorem d_Mo_done_16 : decode prog_12_method_35_code 16 = .ok (.iconst (-1), 1) := by decide +kernel
theorem d_Mo_done_17 : decode prog_12_method_35_code 17 = .ok (.ireturn, 1) := by decide +kernel
theorem d_ML_cache_0 : decode prog_1_method_6_code 0 = .ok (.iload_n 1, 1) := by decide +kernel
theorem d_ML_cache_1 : decode prog_1_method_6_code 1 = .ok (.bipush 6, 2) := by decide +kernel
theorem d_ML_cache_3 : decode prog_1_method_6_code 3 = .ok (.invokestatic 40, 3) := by decide +kernel
theorem d_ML_cache_6 : decode prog_1_method_6_code 6 = .ok (.ifCond .eq 12, 3) := by decide +kernel
theorem d_ML_cache_9 : decode prog_1_method_6_code 9 = .ok (.iload_n 2, 1) := by decide +kernel
theorem d_ML_cache_10 : decode prog_1_method_6_code 10 = .ok (.bipush 8, 2) := by decide +kernel
theorem d_ML_cache_12 : decode prog_1_method_6_code 12 = .ok (.invokestatic 40, 3) := by decide +kernel
theorem d_ML_cache_15 : decode prog_1_method_6_code 15 = .ok (.ifCond .ne 5, 3) := by decide +kernel
theorem d_ML_cache_18 : decode prog_1_method_6_code 18 = .ok (.iconst (-1), 1) := by decide +kernel
theorem d_ML_cache_19 : decode prog_1_method_6_code 19 = .ok (.ireturn, 1) := by decide +kernel
theorem d_ML_cache_20 : decode prog_1_method_6_code 20 = .ok (.aload_n 0, 1) := by decide +kernel
theorem d_ML_cache_21 : decode prog_1_method_6_code 21 = .ok (.getfield 33, 3) := by decide +kernel
theorem d_ML_cache_24 : decode prog_1_method_6_code 24 = .ok (.iload_n 1, 1) := by decide +kernel
theorem d_ML_cache_25 : decode prog_1_method_6_code 25 = .ok (.aaload, 1) := by decide +kernel
theorem d_ML_cache_26 : decode prog_1_method_6_code 26 = .ok (.getfield 78, 3) := by decide +kernel
theorem d_ML_cache_29 : decode prog_1_method_6_code 29 = .ok (.astore 4, 2) := by decide +kernel
theorem d_ML_cache_31 : decode prog_1_method_6_code 31 = .ok (.iload_n 3, 1) := by decide +kernel
theorem d_ML_cache_32 : decode prog_1_method_6_code 32 = .ok (.tableswitch 64 0 3 #[32, 40, 48, 56], 32) := by decide +kernel
theorem d_ML_cache_64 : decode prog_1_method_6_code 64 = .ok (.aload 4, 2) := by decide +kernel
theorem d_ML_cache_66 : decode prog_1_method_6_code 66 = .ok (.getfield 82, 3) := by decide +kernel
theorem d_ML_cache_69 : decode prog_1_method_6_code 69 = .ok (.iload_n 2, 1) := by decide +kernel
theorem d_ML_cache_70 : decode prog_1_method_6_code 70 = .ok (.iaload, 1) := by decide +kernel
theorem d_ML_cache_71 : decode prog_1_method_6_code 71 = .ok (.ireturn, 1) := by decide +kernel
theorem d_ML_cache_72 : decode prog_1_method_6_code 72 = .ok (.aload 4, 2) := by decide +kernel
theorem d_ML_cache_74 : decode prog_1_method_6_code 74 = .ok (.getfield 87, 3) := by decide +kernel
theorem d_ML_cache_77 : decode prog_1_method_6_code 77 = .ok (.iload_n 2, 1) := by decide +kernel
theorem d_ML_cache_78 : decode prog_1_method_6_code 78 = .ok (.iaload, 1) := by decide +kernel
theorem d_ML_cache_79 : decode prog_1_method_6_code 79 = .ok (.ireturn, 1) := by decide +kernel
theorem d_ML_cache_80 : decode prog_1_method_6_code 80 = .ok (.aload 4, 2) := by decide +kernel
theorem d_ML_cache_82 : decode prog_1_method_6_code 82 = .ok (.getfield 90, 3) := by decide +kernel
theorem d_ML_cache_85 : decode prog_1_method_6_code 85 = .ok (.iload_n 2, 1) := by decide +kernel
theorem d_ML_cache_86 : decode prog_1_method_6_code 86 = .ok (.iaload, 1) := by decide +kernel
theorem d_ML_cache_87 : decode prog_1_method_6_code 87 = .ok (.ireturn, 1) := by decide +kernel
theorem d_ML_cache_88 : decode prog_1_method_6_code 88 = .ok (.aload 4, 2) := by decide +kernel
theorem d_ML_cache_90 : decode prog_1_method_6_code 90 = .ok (.getfield 93, 3) := by decide +kernel
theorem d_ML_cache_93 : decode prog_1_method_6_code 93 = .ok (.iload_n 2, 1) := by decide +kernel
theorem d_ML_cache_94 : decode prog_1_method_6_code 94 = .ok (.iaload, 1) := by decide +kernel
theorem d_ML_cache_95 : decode prog_1_method_6_code 95 = .ok (.ireturn, 1) := by decide +kernel
theorem d_ML_cache_96 : decode prog_1_method_6_code 96 = .ok (.iconst (-1), 1) := by decide +kernel
theorem d_ML_cache_97 : decode prog_1_method_6_code 97 = .ok (.ireturn, 1) := by decide +kernel
theorem d_Mo_cache_0 : decode prog_12_method_36_code 0 = .ok (.iload_n 1, 1) := by decide +kernel
theorem d_Mo_cache_1 : decode prog_12_method_36_code 1 = .ok (.invokestatic 227, 3) := by decide +kernel
theorem d_Mo_cache_4 : decode prog_12_method_36_code 4 = .ok (.ifCond .eq 19, 3) := by decide +kernel
theorem d_Mo_cache_7 : decode prog_12_method_36_code 7 = .ok (.iload_n 2, 1) := by decide +kernel
theorem d_Mo_cache_8 : decode prog_12_method_36_code 8 = .ok (.invokestatic 230, 3) := by decide +kernel
theorem d_Mo_cache_11 : decode prog_12_method_36_code 11 = .ok (.ifCond .eq 12, 3) := by decide +kernel
theorem d_Mo_cache_14 : decode prog_12_method_36_code 14 = .ok (.iload_n 3, 1) := by decide +kernel
theorem d_Mo_cache_15 : decode prog_12_method_36_code 15 = .ok (.ifCond .lt 8, 3) := by decide +kernel
theorem d_Mo_cache_18 : decode prog_12_method_36_code 18 = .ok (.iload_n 3, 1) := by decide +kernel
theorem d_Mo_cache_19 : decode prog_12_method_36_code 19 = .ok (.iconst 3, 1) := by decide +kernel
theorem d_Mo_cache_20 : decode prog_12_method_36_code 20 = .ok (.if_icmp .le 5, 3) := by decide +kernel
theorem d_Mo_cache_23 : decode prog_12_method_36_code 23 = .ok (.iconst (-1), 1) := by decide +kernel
theorem d_Mo_cache_24 : decode prog_12_method_36_code 24 = .ok (.ireturn, 1) := by decide +kernel
theorem d_Mo_cache_25 : decode prog_12_method_36_code 25 = .ok (.bipush 8, 2) := by decide +kernel
theorem d_Mo_cache_27 : decode prog_12_method_36_code 27 = .ok (.iload_n 1, 1) := by decide +kernel
theorem d_Mo_cache_28 : decode prog_12_method_36_code 28 = .ok (.imul, 1) := by decide +kernel
theorem d_Mo_cache_29 : decode prog_12_method_36_code 29 = .ok (.iload_n 2, 1) := by decide +kernel
theorem d_Mo_cache_30 : decode prog_12_method_36_code 30 = .ok (.iadd, 1) := by decide +kernel
theorem d_Mo_cache_31 : decode prog_12_method_36_code 31 = .ok (.istore 4, 2) := by decide +kernel
theorem d_Mo_cache_33 : decode prog_12_method_36_code 33 = .ok (.iload_n 3, 1) := by decide +kernel
theorem d_Mo_cache_34 : decode prog_12_method_36_code 34 = .ok (.ifCond .ne 13, 3) := by decide +kernel
theorem d_Mo_cache_37 : decode prog_12_method_36_code 37 = .ok (.aload_n 0, 1) := by decide +kernel
theorem d_Mo_cache_38 : decode prog_12_method_36_code 38 = .ok (.getfield 68, 3) := by decide +kernel
theorem d_Mo_cache_41 : decode prog_12_method_36_code 41 = .ok (.iload 4, 2) := by decide +kernel
theorem d_Mo_cache_43 : decode prog_12_method_36_code 43 = .ok (.iaload, 1) := by decide +kernel
theorem d_Mo_cache_44 : decode prog_12_method_36_code 44 = .ok (.goto 40, 3) := by decide +kernel
theorem d_Mo_cache_47 : decode prog_12_method_36_code 47 = .ok (.iload_n 3, 1) := by decide +kernel
theorem d_Mo_cache_48 : decode prog_12_method_36_code 48 = .ok (.iconst 1, 1) := by decide +kernel
theorem d_Mo_cache_49 : decode prog_12_method_36_code 49 = .ok (.if_icmp .ne 13, 3) := by decide +kernel
theorem d_Mo_cache_52 : decode prog_12_method_36_code 52 = .ok (.aload_n 0, 1) := by decide +kernel
theorem d_Mo_cache_53 : decode prog_12_method_36_code 53 = .ok (.getfield 71, 3) := by decide +kernel
theorem d_Mo_cache_56 : decode prog_12_method_36_code 56 = .ok (.iload 4, 2) := by decide +kernel
theorem d_Mo_cache_58 : decode prog_12_method_36_code 58 = .ok (.iaload, 1) := by decide +kernel
theorem d_Mo_cache_59 : decode prog_12_method_36_code 59 = .ok (.goto 25, 3) := by decide +kernel
theorem d_Mo_cache_62 : decode prog_12_method_36_code 62 = .ok (.iload_n 3, 1) := by decide +kernel
theorem d_Mo_cache_63 : decode prog_12_method_36_code 63 = .ok (.iconst 2, 1) := by decide +kernel
theorem d_Mo_cache_64 : decode prog_12_method_36_code 64 = .ok (.if_icmp .ne 13, 3) := by decide +kernel
theorem d_Mo_cache_67 : decode prog_12_method_36_code 67 = .ok (.aload_n 0, 1) := by decide +kernel
theorem d_Mo_cache_68 : decode prog_12_method_36_code 68 = .ok (.getfield 74, 3) := by decide +kernel
theorem d_Mo_cache_71 : decode prog_12_method_36_code 71 = .ok (.iload 4, 2) := by decide +kernel
theorem d_Mo_cache_73 : decode prog_12_method_36_code 73 = .ok (.iaload, 1) := by decide +kernel
theorem d_Mo_cache_74 : decode prog_12_method_36_code 74 = .ok (.goto 10, 3) := by decide +kernel
theorem d_Mo_cache_77 : decode prog_12_method_36_code 77 = .ok (.aload_n 0, 1) := by decide +kernel
theorem d_Mo_cache_78 : decode prog_12_method_36_code 78 = .ok (.getfield 77, 3) := by decide +kernel
theorem d_Mo_cache_81 : decode prog_12_method_36_code 81 = .ok (.iload 4, 2) := by decide +kernel
theorem d_Mo_cache_83 : decode prog_12_method_36_code 83 = .ok (.iaload, 1) := by decide +kernel
theorem d_Mo_cache_84 : decode prog_12_method_36_code 84 = .ok (.ireturn, 1) := by decide +kernel
theorem d_ML_home_0 : decode prog_1_method_7_code 0 = .ok (.iload_n 1, 1) := by decide +kernel
theorem d_ML_home_1 : decode prog_1_method_7_code 1 = .ok (.bipush 8, 2) := by decide +kernel
theorem d_ML_home_3 : decode prog_1_method_7_code 3 = .ok (.invokestatic 40, 3) := by decide +kernel
theorem d_ML_home_6 : decode prog_1_method_7_code 6 = .ok (.ifCond .ne 5, 3) := by decide +kernel
theorem d_ML_home_9 : decode prog_1_method_7_code 9 = .ok (.iconst (-1), 1) := by decide +kernel
theorem d_ML_home_10 : decode prog_1_method_7_code 10 = .ok (.ireturn, 1) := by decide +kernel
theorem d_ML_home_11 : decode prog_1_method_7_code 11 = .ok (.aload_n 0, 1) := by decide +kernel
theorem d_ML_home_12 : decode prog_1_method_7_code 12 = .ok (.getfield 24, 3) := by decide +kernel
theorem d_ML_home_15 : decode prog_1_method_7_code 15 = .ok (.iload_n 1, 1) := by decide +kernel
theorem d_ML_home_16 : decode prog_1_method_7_code 16 = .ok (.aaload, 1) := by decide +kernel
theorem d_ML_home_17 : decode prog_1_method_7_code 17 = .ok (.astore_n 3, 1) := by decide +kernel
theorem d_ML_home_18 : decode prog_1_method_7_code 18 = .ok (.iload_n 2, 1) := by decide +kernel
theorem d_ML_home_19 : decode prog_1_method_7_code 19 = .ok (.tableswitch 63 0 3 #[29, 34, 39, 58], 29) := by decide +kernel
theorem d_ML_home_48 : decode prog_1_method_7_code 48 = .ok (.aload_n 3, 1) := by decide +kernel
theorem d_ML_home_49 : decode prog_1_method_7_code 49 = .ok (.getfield 96, 3) := by decide +kernel
theorem d_ML_home_52 : decode prog_1_method_7_code 52 = .ok (.ireturn, 1) := by decide +kernel
theorem d_ML_home_53 : decode prog_1_method_7_code 53 = .ok (.aload_n 3, 1) := by decide +kernel
theorem d_ML_home_54 : decode prog_1_method_7_code 54 = .ok (.getfield 99, 3) := by decide +kernel
theorem d_ML_home_57 : decode prog_1_method_7_code 57 = .ok (.ireturn, 1) := by decide +kernel
theorem d_ML_home_58 : decode prog_1_method_7_code 58 = .ok (.aload_n 3, 1) := by decide +kernel
theorem d_ML_home_59 : decode prog_1_method_7_code 59 = .ok (.getfield 102, 3) := by decide +kernel
theorem d_ML_home_62 : decode prog_1_method_7_code 62 = .ok (.iconst (-1), 1) := by decide +kernel
theorem d_ML_home_63 : decode prog_1_method_7_code 63 = .ok (.if_icmp .ne 7, 3) := by decide +kernel
theorem d_ML_home_66 : decode prog_1_method_7_code 66 = .ok (.iconst 0, 1) := by decide +kernel
theorem d_ML_home_67 : decode prog_1_method_7_code 67 = .ok (.goto 9, 3) := by decide +kernel
theorem d_ML_home_70 : decode prog_1_method_7_code 70 = .ok (.aload_n 3, 1) := by decide +kernel
theorem d_ML_home_71 : decode prog_1_method_7_code 71 = .ok (.getfield 102, 3) := by decide +kernel
theorem d_ML_home_74 : decode prog_1_method_7_code 74 = .ok (.iconst 1, 1) := by decide +kernel
theorem d_ML_home_75 : decode prog_1_method_7_code 75 = .ok (.iadd, 1) := by decide +kernel
theorem d_ML_home_76 : decode prog_1_method_7_code 76 = .ok (.ireturn, 1) := by decide +kernel
theorem d_ML_home_77 : decode prog_1_method_7_code 77 = .ok (.aload_n 3, 1) := by decide +kernel
theorem d_ML_home_78 : decode prog_1_method_7_code 78 = .ok (.getfield 105, 3) := by decide +kernel
theorem d_ML_home_81 : decode prog_1_method_7_code 81 = .ok (.ireturn, 1) := by decide +kernel
theorem d_ML_home_82 : decode prog_1_method_7_code 82 = .ok (.iconst (-1), 1) := by decide +kernel
theorem d_ML_home_83 : decode prog_1_method_7_code 83 = .ok (.ireturn, 1) := by decide +kernel
theorem d_Mo_home_0 : decode prog_12_method_37_code 0 = .ok (.iload_n 1, 1) := by decide +kernel
theorem d_Mo_home_1 : decode prog_12_method_37_code 1 = .ok (.invokestatic 230, 3) := by decide +kernel
theorem d_Mo_home_4 : decode prog_12_method_37_code 4 = .ok (.ifCond .eq 12, 3) := by decide +kernel
theorem d_Mo_home_7 : decode prog_12_method_37_code 7 = .ok (.iload_n 2, 1) := by decide +kernel
theorem d_Mo_home_8 : decode prog_12_method_37_code 8 = .ok (.ifCond .lt 8, 3) := by decide +kernel
theorem d_Mo_home_11 : decode prog_12_method_37_code 11 = .ok (.iload_n 2, 1) := by decide +kernel
theorem d_Mo_home_12 : decode prog_12_method_37_code 12 = .ok (.iconst 3, 1) := by decide +kernel
theorem d_Mo_home_13 : decode prog_12_method_37_code 13 = .ok (.if_icmp .le 5, 3) := by decide +kernel
theorem d_Mo_home_16 : decode prog_12_method_37_code 16 = .ok (.iconst (-1), 1) := by decide +kernel
theorem d_Mo_home_17 : decode prog_12_method_37_code 17 = .ok (.ireturn, 1) := by decide +kernel
theorem d_Mo_home_18 : decode prog_12_method_37_code 18 = .ok (.iload_n 2, 1) := by decide +kernel
theorem d_Mo_home_19 : decode prog_12_method_37_code 19 = .ok (.ifCond .ne 12, 3) := by decide +kernel
theorem d_Mo_home_22 : decode prog_12_method_37_code 22 = .ok (.aload_n 0, 1) := by decide +kernel
theorem d_Mo_home_23 : decode prog_12_method_37_code 23 = .ok (.getfield 80, 3) := by decide +kernel
theorem d_Mo_home_26 : decode prog_12_method_37_code 26 = .ok (.iload_n 1, 1) := by decide +kernel
theorem d_Mo_home_27 : decode prog_12_method_37_code 27 = .ok (.iaload, 1) := by decide +kernel
theorem d_Mo_home_28 : decode prog_12_method_37_code 28 = .ok (.goto 39, 3) := by decide +kernel
theorem d_Mo_home_31 : decode prog_12_method_37_code 31 = .ok (.iload_n 2, 1) := by decide +kernel
theorem d_Mo_home_32 : decode prog_12_method_37_code 32 = .ok (.iconst 1, 1) := by decide +kernel
theorem d_Mo_home_33 : decode prog_12_method_37_code 33 = .ok (.if_icmp .ne 12, 3) := by decide +kernel
theorem d_Mo_home_36 : decode prog_12_method_37_code 36 = .ok (.aload_n 0, 1) := by decide +kernel
theorem d_Mo_home_37 : decode prog_12_method_37_code 37 = .ok (.getfield 83, 3) := by decide +kernel
theorem d_Mo_home_40 : decode prog_12_method_37_code 40 = .ok (.iload_n 1, 1) := by decide +kernel
theorem d_Mo_home_41 : decode prog_12_method_37_code 41 = .ok (.iaload, 1) := by decide +kernel
theorem d_Mo_home_42 : decode prog_12_method_37_code 42 = .ok (.goto 25, 3) := by decide +kernel
theorem d_Mo_home_45 : decode prog_12_method_37_code 45 = .ok (.iload_n 2, 1) := by decide +kernel
theorem d_Mo_home_46 : decode prog_12_method_37_code 46 = .ok (.iconst 2, 1) := by decide +kernel
theorem d_Mo_home_47 : decode prog_12_method_37_code 47 = .ok (.if_icmp .ne 14, 3) := by decide +kernel
theorem d_Mo_home_50 : decode prog_12_method_37_code 50 = .ok (.aload_n 0, 1) := by decide +kernel
theorem d_Mo_home_51 : decode prog_12_method_37_code 51 = .ok (.getfield 86, 3) := by decide +kernel
theorem d_Mo_home_54 : decode prog_12_method_37_code 54 = .ok (.iload_n 1, 1) := by decide +kernel
theorem d_Mo_home_55 : decode prog_12_method_37_code 55 = .ok (.iaload, 1) := by decide +kernel
theorem d_Mo_home_56 : decode prog_12_method_37_code 56 = .ok (.iconst 1, 1) := by decide +kernel
theorem d_Mo_home_57 : decode prog_12_method_37_code 57 = .ok (.iadd, 1) := by decide +kernel
theorem d_Mo_home_58 : decode prog_12_method_37_code 58 = .ok (.goto 9, 3) := by decide +kernel
theorem d_Mo_home_61 : decode prog_12_method_37_code 61 = .ok (.aload_n 0, 1) := by decide +kernel
theorem d_Mo_home_62 : decode prog_12_method_37_code 62 = .ok (.getfield 89, 3) := by decide +kernel
theorem d_Mo_home_65 : decode prog_12_method_37_code 65 = .ok (.iload_n 1, 1) := by decide +kernel
theorem d_Mo_home_66 : decode prog_12_method_37_code 66 = .ok (.iaload, 1) := by decide +kernel
theorem d_Mo_home_67 : decode prog_12_method_37_code 67 = .ok (.ireturn, 1) := by decide +kernel
theorem d_ML_buffer_0 : decode prog_1_method_8_code 0 = .ok (.iload_n 1, 1) := by decide +kernel
theorem d_ML_buffer_1 : decode prog_1_method_8_code 1 = .ok (.bipush 6, 2) := by decide +kernel
theorem d_ML_buffer_3 : decode prog_1_method_8_code 3 = .ok (.invokestatic 40, 3) := by decide +kernel
theorem d_ML_buffer_6 : decode prog_1_method_8_code 6 = .ok (.ifCond .eq 20, 3) := by decide +kernel
theorem d_ML_buffer_9 : decode prog_1_method_8_code 9 = .ok (.iload_n 2, 1) := by decide +kernel
theorem d_ML_buffer_10 : decode prog_1_method_8_code 10 = .ok (.bipush 7, 2) := by decide +kernel
theorem d_ML_buffer_12 : decode prog_1_method_8_code 12 = .ok (.invokestatic 40, 3) := by decide +kernel
theorem d_ML_buffer_15 : decode prog_1_method_8_code 15 = .ok (.ifCond .eq 11, 3) := by decide +kernel
theorem d_ML_buffer_18 : decode prog_1_method_8_code 18 = .ok (.iload_n 3, 1) := by decide +kernel
theorem d_ML_buffer_19 : decode prog_1_method_8_code 19 = .ok (.iconst 3, 1) := by decide +kernel
theorem d_ML_buffer_20 : decode prog_1_method_8_code 20 = .ok (.invokestatic 40, 3) := by decide +kernel
theorem d_ML_buffer_23 : decode prog_1_method_8_code 23 = .ok (.ifCond .ne 5, 3) := by decide +kernel
theorem d_ML_buffer_26 : decode prog_1_method_8_code 26 = .ok (.iconst (-1), 1) := by decide +kernel
theorem d_ML_buffer_27 : decode prog_1_method_8_code 27 = .ok (.ireturn, 1) := by decide +kernel
theorem d_ML_buffer_28 : decode prog_1_method_8_code 28 = .ok (.aload_n 0, 1) := by decide +kernel
theorem d_ML_buffer_29 : decode prog_1_method_8_code 29 = .ok (.getfield 18, 3) := by decide +kernel
theorem d_ML_buffer_32 : decode prog_1_method_8_code 32 = .ok (.iload_n 1, 1) := by decide +kernel
theorem d_ML_buffer_33 : decode prog_1_method_8_code 33 = .ok (.iload_n 3, 1) := by decide +kernel
theorem d_ML_buffer_34 : decode prog_1_method_8_code 34 = .ok (.invokevirtual 108, 3) := by decide +kernel
theorem d_ML_buffer_37 : decode prog_1_method_8_code 37 = .ok (.astore 4, 2) := by decide +kernel
theorem d_ML_buffer_39 : decode prog_1_method_8_code 39 = .ok (.iload_n 2, 1) := by decide +kernel
theorem d_ML_buffer_40 : decode prog_1_method_8_code 40 = .ok (.iconst 5, 1) := by decide +kernel
theorem d_ML_buffer_41 : decode prog_1_method_8_code 41 = .ok (.if_icmp .ne 12, 3) := by decide +kernel
theorem d_ML_buffer_44 : decode prog_1_method_8_code 44 = .ok (.aload 4, 2) := by decide +kernel
theorem d_ML_buffer_46 : decode prog_1_method_8_code 46 = .ok (.getfield 112, 3) := by decide +kernel
theorem d_ML_buffer_49 : decode prog_1_method_8_code 49 = .ok (.invokevirtual 118, 3) := by decide +kernel
theorem d_ML_buffer_52 : decode prog_1_method_8_code 52 = .ok (.ireturn, 1) := by decide +kernel
theorem d_ML_buffer_53 : decode prog_1_method_8_code 53 = .ok (.iload_n 2, 1) := by decide +kernel
theorem d_ML_buffer_54 : decode prog_1_method_8_code 54 = .ok (.bipush 6, 2) := by decide +kernel
theorem d_ML_buffer_56 : decode prog_1_method_8_code 56 = .ok (.if_icmp .ne 12, 3) := by decide +kernel
theorem d_ML_buffer_59 : decode prog_1_method_8_code 59 = .ok (.aload 4, 2) := by decide +kernel
theorem d_ML_buffer_61 : decode prog_1_method_8_code 61 = .ok (.getfield 124, 3) := by decide +kernel
theorem d_ML_buffer_64 : decode prog_1_method_8_code 64 = .ok (.invokevirtual 118, 3) := by decide +kernel
theorem d_ML_buffer_67 : decode prog_1_method_8_code 67 = .ok (.ireturn, 1) := by decide +kernel
theorem d_ML_buffer_68 : decode prog_1_method_8_code 68 = .ok (.aload 4, 2) := by decide +kernel
theorem d_ML_buffer_70 : decode prog_1_method_8_code 70 = .ok (.getfield 127, 3) := by decide +kernel
theorem d_ML_buffer_73 : decode prog_1_method_8_code 73 = .ok (.iload_n 2, 1) := by decide +kernel
theorem d_ML_buffer_74 : decode prog_1_method_8_code 74 = .ok (.aaload, 1) := by decide +kernel
theorem d_ML_buffer_75 : decode prog_1_method_8_code 75 = .ok (.getfield 131, 3) := by decide +kernel
theorem d_ML_buffer_78 : decode prog_1_method_8_code 78 = .ok (.ireturn, 1) := by decide +kernel
theorem d_Mo_buffer_0 : decode prog_12_method_38_code 0 = .ok (.iload_n 1, 1) := by decide +kernel
theorem d_Mo_buffer_1 : decode prog_12_method_38_code 1 = .ok (.invokestatic 227, 3) := by decide +kernel
theorem d_Mo_buffer_4 : decode prog_12_method_38_code 4 = .ok (.ifCond .eq 22, 3) := by decide +kernel
theorem d_Mo_buffer_7 : decode prog_12_method_38_code 7 = .ok (.iload_n 2, 1) := by decide +kernel
theorem d_Mo_buffer_8 : decode prog_12_method_38_code 8 = .ok (.ifCond .lt 18, 3) := by decide +kernel
theorem d_Mo_buffer_11 : decode prog_12_method_38_code 11 = .ok (.iload_n 2, 1) := by decide +kernel
theorem d_Mo_buffer_12 : decode prog_12_method_38_code 12 = .ok (.bipush 6, 2) := by decide +kernel
theorem d_Mo_buffer_14 : decode prog_12_method_38_code 14 = .ok (.if_icmp .gt 12, 3) := by decide +kernel
theorem d_Mo_buffer_17 : decode prog_12_method_38_code 17 = .ok (.iload_n 3, 1) := by decide +kernel
theorem d_Mo_buffer_18 : decode prog_12_method_38_code 18 = .ok (.ifCond .lt 8, 3) := by decide +kernel
theorem d_Mo_buffer_21 : decode prog_12_method_38_code 21 = .ok (.iload_n 3, 1) := by decide +kernel
theorem d_Mo_buffer_22 : decode prog_12_method_38_code 22 = .ok (.iconst 2, 1) := by decide +kernel
theorem d_Mo_buffer_23 : decode prog_12_method_38_code 23 = .ok (.if_icmp .le 5, 3) := by decide +kernel
theorem d_Mo_buffer_26 : decode prog_12_method_38_code 26 = .ok (.iconst (-1), 1) := by decide +kernel
theorem d_Mo_buffer_27 : decode prog_12_method_38_code 27 = .ok (.ireturn, 1) := by decide +kernel
theorem d_Mo_buffer_28 : decode prog_12_method_38_code 28 = .ok (.iload_n 2, 1) := by decide +kernel
theorem d_Mo_buffer_29 : decode prog_12_method_38_code 29 = .ok (.iconst 5, 1) := by decide +kernel
theorem d_Mo_buffer_30 : decode prog_12_method_38_code 30 = .ok (.if_icmp .ge 19, 3) := by decide +kernel
theorem d_Mo_buffer_33 : decode prog_12_method_38_code 33 = .ok (.aload_n 0, 1) := by decide +kernel
theorem d_Mo_buffer_34 : decode prog_12_method_38_code 34 = .ok (.getfield 59, 3) := by decide +kernel
theorem d_Mo_buffer_37 : decode prog_12_method_38_code 37 = .ok (.bipush 15, 2) := by decide +kernel
theorem d_Mo_buffer_39 : decode prog_12_method_38_code 39 = .ok (.iload_n 1, 1) := by decide +kernel
theorem d_Mo_buffer_40 : decode prog_12_method_38_code 40 = .ok (.imul, 1) := by decide +kernel
theorem d_Mo_buffer_41 : decode prog_12_method_38_code 41 = .ok (.iconst 3, 1) := by decide +kernel
theorem d_Mo_buffer_42 : decode prog_12_method_38_code 42 = .ok (.iload_n 2, 1) := by decide +kernel
theorem d_Mo_buffer_43 : decode prog_12_method_38_code 43 = .ok (.imul, 1) := by decide +kernel
theorem d_Mo_buffer_44 : decode prog_12_method_38_code 44 = .ok (.iadd, 1) := by decide +kernel
theorem d_Mo_buffer_45 : decode prog_12_method_38_code 45 = .ok (.iload_n 3, 1) := by decide +kernel
theorem d_Mo_buffer_46 : decode prog_12_method_38_code 46 = .ok (.iadd, 1) := by decide +kernel
theorem d_Mo_buffer_47 : decode prog_12_method_38_code 47 = .ok (.iaload, 1) := by decide +kernel
theorem d_Mo_buffer_48 : decode prog_12_method_38_code 48 = .ok (.ireturn, 1) := by decide +kernel
theorem d_Mo_buffer_49 : decode prog_12_method_38_code 49 = .ok (.iload_n 2, 1) := by decide +kernel
theorem d_Mo_buffer_50 : decode prog_12_method_38_code 50 = .ok (.iconst 5, 1) := by decide +kernel
theorem d_Mo_buffer_51 : decode prog_12_method_38_code 51 = .ok (.if_icmp .ne 16, 3) := by decide +kernel
theorem d_Mo_buffer_54 : decode prog_12_method_38_code 54 = .ok (.aload_n 0, 1) := by decide +kernel
theorem d_Mo_buffer_55 : decode prog_12_method_38_code 55 = .ok (.getfield 38, 3) := by decide +kernel
theorem d_Mo_buffer_58 : decode prog_12_method_38_code 58 = .ok (.iconst 3, 1) := by decide +kernel
theorem d_Mo_buffer_59 : decode prog_12_method_38_code 59 = .ok (.iload_n 1, 1) := by decide +kernel
theorem d_Mo_buffer_60 : decode prog_12_method_38_code 60 = .ok (.imul, 1) := by decide +kernel
theorem d_Mo_buffer_61 : decode prog_12_method_38_code 61 = .ok (.iload_n 3, 1) := by decide +kernel
theorem d_Mo_buffer_62 : decode prog_12_method_38_code 62 = .ok (.iadd, 1) := by decide +kernel
theorem d_Mo_buffer_63 : decode prog_12_method_38_code 63 = .ok (.iaload, 1) := by decide +kernel
theorem d_Mo_buffer_64 : decode prog_12_method_38_code 64 = .ok (.goto 13, 3) := by decide +kernel
theorem d_Mo_buffer_67 : decode prog_12_method_38_code 67 = .ok (.aload_n 0, 1) := by decide +kernel
theorem d_Mo_buffer_68 : decode prog_12_method_38_code 68 = .ok (.getfield 47, 3) := by decide +kernel
theorem d_Mo_buffer_71 : decode prog_12_method_38_code 71 = .ok (.iconst 3, 1) := by decide +kernel
theorem d_Mo_buffer_72 : decode prog_12_method_38_code 72 = .ok (.iload_n 1, 1) := by decide +kernel
theorem d_Mo_buffer_73 : decode prog_12_method_38_code 73 = .ok (.imul, 1) := by decide +kernel
theorem d_Mo_buffer_74 : decode prog_12_method_38_code 74 = .ok (.iload_n 3, 1) := by decide +kernel
theorem d_Mo_buffer_75 : decode prog_12_method_38_code 75 = .ok (.iadd, 1) := by decide +kernel
theorem d_Mo_buffer_76 : decode prog_12_method_38_code 76 = .ok (.iaload, 1) := by decide +kernel
theorem d_Mo_buffer_77 : decode prog_12_method_38_code 77 = .ok (.ireturn, 1) := by decide +kernel
theorem d_ML_held_0 : decode prog_1_method_9_code 0 = .ok (.iload_n 1, 1) := by decide +kernel
theorem d_ML_held_1 : decode prog_1_method_9_code 1 = .ok (.bipush 6, 2) := by decide +kernel
theorem d_ML_held_3 : decode prog_1_method_9_code 3 = .ok (.invokestatic 40, 3) := by decide +kernel
theorem d_ML_held_6 : decode prog_1_method_9_code 6 = .ok (.ifCond .eq 19, 3) := by decide +kernel
theorem d_ML_held_9 : decode prog_1_method_9_code 9 = .ok (.iload_n 2, 1) := by decide +kernel
theorem d_ML_held_10 : decode prog_1_method_9_code 10 = .ok (.iconst 5, 1) := by decide +kernel
theorem d_ML_held_11 : decode prog_1_method_9_code 11 = .ok (.invokestatic 40, 3) := by decide +kernel
theorem d_ML_held_14 : decode prog_1_method_9_code 14 = .ok (.ifCond .eq 11, 3) := by decide +kernel
theorem d_ML_held_17 : decode prog_1_method_9_code 17 = .ok (.iload_n 3, 1) := by decide +kernel
theorem d_ML_held_18 : decode prog_1_method_9_code 18 = .ok (.iconst 3, 1) := by decide +kernel
theorem d_ML_held_19 : decode prog_1_method_9_code 19 = .ok (.invokestatic 40, 3) := by decide +kernel
theorem d_ML_held_22 : decode prog_1_method_9_code 22 = .ok (.ifCond .ne 5, 3) := by decide +kernel
theorem d_ML_held_25 : decode prog_1_method_9_code 25 = .ok (.iconst (-1), 1) := by decide +kernel
theorem d_ML_held_26 : decode prog_1_method_9_code 26 = .ok (.ireturn, 1) := by decide +kernel
theorem d_ML_held_27 : decode prog_1_method_9_code 27 = .ok (.aload_n 0, 1) := by decide +kernel
theorem d_ML_held_28 : decode prog_1_method_9_code 28 = .ok (.getfield 18, 3) := by decide +kernel
theorem d_ML_held_31 : decode prog_1_method_9_code 31 = .ok (.iload_n 1, 1) := by decide +kernel
theorem d_ML_held_32 : decode prog_1_method_9_code 32 = .ok (.iload_n 3, 1) := by decide +kernel
theorem d_ML_held_33 : decode prog_1_method_9_code 33 = .ok (.invokevirtual 108, 3) := by decide +kernel
theorem d_ML_held_36 : decode prog_1_method_9_code 36 = .ok (.getfield 135, 3) := by decide +kernel
theorem d_ML_held_39 : decode prog_1_method_9_code 39 = .ok (.iload_n 2, 1) := by decide +kernel
theorem d_ML_held_40 : decode prog_1_method_9_code 40 = .ok (.iaload, 1) := by decide +kernel
theorem d_ML_held_41 : decode prog_1_method_9_code 41 = .ok (.istore 4, 2) := by decide +kernel
theorem d_ML_held_43 : decode prog_1_method_9_code 43 = .ok (.iload 4, 2) := by decide +kernel
theorem d_ML_held_45 : decode prog_1_method_9_code 45 = .ok (.iconst (-1), 1) := by decide +kernel
theorem d_ML_held_46 : decode prog_1_method_9_code 46 = .ok (.if_icmp .ne 7, 3) := by decide +kernel
theorem d_ML_held_49 : decode prog_1_method_9_code 49 = .ok (.iconst 0, 1) := by decide +kernel
theorem d_ML_held_50 : decode prog_1_method_9_code 50 = .ok (.goto 7, 3) := by decide +kernel
theorem d_ML_held_53 : decode prog_1_method_9_code 53 = .ok (.iload 4, 2) := by decide +kernel
theorem d_ML_held_55 : decode prog_1_method_9_code 55 = .ok (.iconst 1, 1) := by decide +kernel
theorem d_ML_held_56 : decode prog_1_method_9_code 56 = .ok (.iadd, 1) := by decide +kernel
theorem d_ML_held_57 : decode prog_1_method_9_code 57 = .ok (.ireturn, 1) := by decide +kernel
theorem d_Mo_held_0 : decode prog_12_method_39_code 0 = .ok (.iload_n 1, 1) := by decide +kernel
theorem d_Mo_held_1 : decode prog_12_method_39_code 1 = .ok (.invokestatic 227, 3) := by decide +kernel
theorem d_Mo_held_4 : decode prog_12_method_39_code 4 = .ok (.ifCond .eq 21, 3) := by decide +kernel
theorem d_Mo_held_7 : decode prog_12_method_39_code 7 = .ok (.iload_n 2, 1) := by decide +kernel
theorem d_Mo_held_8 : decode prog_12_method_39_code 8 = .ok (.ifCond .lt 17, 3) := by decide +kernel
theorem d_Mo_held_11 : decode prog_12_method_39_code 11 = .ok (.iload_n 2, 1) := by decide +kernel
theorem d_Mo_held_12 : decode prog_12_method_39_code 12 = .ok (.iconst 4, 1) := by decide +kernel
theorem d_Mo_held_13 : decode prog_12_method_39_code 13 = .ok (.if_icmp .gt 12, 3) := by decide +kernel
theorem d_Mo_held_16 : decode prog_12_method_39_code 16 = .ok (.iload_n 3, 1) := by decide +kernel
theorem d_Mo_held_17 : decode prog_12_method_39_code 17 = .ok (.ifCond .lt 8, 3) := by decide +kernel
theorem d_Mo_held_20 : decode prog_12_method_39_code 20 = .ok (.iload_n 3, 1) := by decide +kernel
theorem d_Mo_held_21 : decode prog_12_method_39_code 21 = .ok (.iconst 2, 1) := by decide +kernel
theorem d_Mo_held_22 : decode prog_12_method_39_code 22 = .ok (.if_icmp .le 5, 3) := by decide +kernel
theorem d_Mo_held_25 : decode prog_12_method_39_code 25 = .ok (.iconst (-1), 1) := by decide +kernel
theorem d_Mo_held_26 : decode prog_12_method_39_code 26 = .ok (.ireturn, 1) := by decide +kernel
theorem d_Mo_held_27 : decode prog_12_method_39_code 27 = .ok (.aload_n 0, 1) := by decide +kernel
theorem d_Mo_held_28 : decode prog_12_method_39_code 28 = .ok (.getfield 62, 3) := by decide +kernel
theorem d_Mo_held_31 : decode prog_12_method_39_code 31 = .ok (.bipush 15, 2) := by decide +kernel
theorem d_Mo_held_33 : decode prog_12_method_39_code 33 = .ok (.iload_n 1, 1) := by decide +kernel
theorem d_Mo_held_34 : decode prog_12_method_39_code 34 = .ok (.imul, 1) := by decide +kernel
theorem d_Mo_held_35 : decode prog_12_method_39_code 35 = .ok (.iconst 3, 1) := by decide +kernel
theorem d_Mo_held_36 : decode prog_12_method_39_code 36 = .ok (.iload_n 2, 1) := by decide +kernel
theorem d_Mo_held_37 : decode prog_12_method_39_code 37 = .ok (.imul, 1) := by decide +kernel
theorem d_Mo_held_38 : decode prog_12_method_39_code 38 = .ok (.iadd, 1) := by decide +kernel
theorem d_Mo_held_39 : decode prog_12_method_39_code 39 = .ok (.iload_n 3, 1) := by decide +kernel
theorem d_Mo_held_40 : decode prog_12_method_39_code 40 = .ok (.iadd, 1) := by decide +kernel
theorem d_Mo_held_41 : decode prog_12_method_39_code 41 = .ok (.iaload, 1) := by decide +kernel
theorem d_Mo_held_42 : decode prog_12_method_39_code 42 = .ok (.iconst 1, 1) := by decide +kernel
theorem d_Mo_held_43 : decode prog_12_method_39_code 43 = .ok (.iadd, 1) := by decide +kernel
theorem d_Mo_held_44 : decode prog_12_method_39_code 44 = .ok (.ireturn, 1) := by decide +kernel
theorem d_ML_count_0 : decode prog_1_method_10_code 0 = .ok (.iload_n 1, 1) := by decide +kernel
theorem d_ML_count_1 : decode prog_1_method_10_code 1 = .ok (.tableswitch 51 0 2 #[27, 35, 43], 27) := by decide +kernel
theorem d_ML_count_28 : decode prog_1_method_10_code 28 = .ok (.aload_n 0, 1) := by decide +kernel
theorem d_ML_count_29 : decode prog_1_method_10_code 29 = .ok (.getfield 18, 3) := by decide +kernel
theorem d_ML_count_32 : decode prog_1_method_10_code 32 = .ok (.getfield 138, 3) := by decide +kernel
theorem d_ML_count_35 : decode prog_1_method_10_code 35 = .ok (.ireturn, 1) := by decide +kernel
theorem d_ML_count_36 : decode prog_1_method_10_code 36 = .ok (.aload_n 0, 1) := by decide +kernel
theorem d_ML_count_37 : decode prog_1_method_10_code 37 = .ok (.getfield 18, 3) := by decide +kernel
theorem d_ML_count_40 : decode prog_1_method_10_code 40 = .ok (.getfield 141, 3) := by decide +kernel
theorem d_ML_count_43 : decode prog_1_method_10_code 43 = .ok (.ireturn, 1) := by decide +kernel
theorem d_ML_count_44 : decode prog_1_method_10_code 44 = .ok (.aload_n 0, 1) := by decide +kernel
theorem d_ML_count_45 : decode prog_1_method_10_code 45 = .ok (.getfield 18, 3) := by decide +kernel
theorem d_ML_count_48 : decode prog_1_method_10_code 48 = .ok (.getfield 144, 3) := by decide +kernel
theorem d_ML_count_51 : decode prog_1_method_10_code 51 = .ok (.ireturn, 1) := by decide +kernel
theorem d_ML_count_52 : decode prog_1_method_10_code 52 = .ok (.iconst 0, 1) := by decide +kernel
theorem d_ML_count_53 : decode prog_1_method_10_code 53 = .ok (.ireturn, 1) := by decide +kernel
theorem d_Mo_count_0 : decode prog_12_method_40_code 0 = .ok (.iload_n 1, 1) := by decide +kernel
theorem d_Mo_count_1 : decode prog_12_method_40_code 1 = .ok (.ifCond .ne 10, 3) := by decide +kernel
theorem d_Mo_count_4 : decode prog_12_method_40_code 4 = .ok (.aload_n 0, 1) := by decide +kernel
theorem d_Mo_count_5 : decode prog_12_method_40_code 5 = .ok (.getfield 127, 3) := by decide +kernel
theorem d_Mo_count_8 : decode prog_12_method_40_code 8 = .ok (.goto 28, 3) := by decide +kernel
theorem d_Mo_count_11 : decode prog_12_method_40_code 11 = .ok (.iload_n 1, 1) := by decide +kernel
theorem d_Mo_count_12 : decode prog_12_method_40_code 12 = .ok (.iconst 1, 1) := by decide +kernel
theorem d_Mo_count_13 : decode prog_12_method_40_code 13 = .ok (.if_icmp .ne 10, 3) := by decide +kernel
theorem d_Mo_count_16 : decode prog_12_method_40_code 16 = .ok (.aload_n 0, 1) := by decide +kernel
theorem d_Mo_count_17 : decode prog_12_method_40_code 17 = .ok (.getfield 158, 3) := by decide +kernel
theorem d_Mo_count_20 : decode prog_12_method_40_code 20 = .ok (.goto 16, 3) := by decide +kernel
theorem d_Mo_count_23 : decode prog_12_method_40_code 23 = .ok (.iload_n 1, 1) := by decide +kernel
theorem d_Mo_count_24 : decode prog_12_method_40_code 24 = .ok (.iconst 2, 1) := by decide +kernel
theorem d_Mo_count_25 : decode prog_12_method_40_code 25 = .ok (.if_icmp .ne 10, 3) := by decide +kernel
theorem d_Mo_count_28 : decode prog_12_method_40_code 28 = .ok (.aload_n 0, 1) := by decide +kernel
theorem d_Mo_count_29 : decode prog_12_method_40_code 29 = .ok (.getfield 155, 3) := by decide +kernel
theorem d_Mo_count_32 : decode prog_12_method_40_code 32 = .ok (.goto 4, 3) := by decide +kernel
theorem d_Mo_count_35 : decode prog_12_method_40_code 35 = .ok (.iconst 0, 1) := by decide +kernel
theorem d_Mo_count_36 : decode prog_12_method_40_code 36 = .ok (.ireturn, 1) := by decide +kernel
theorem d_Lw_law_0 : decode code 0 = .ok (.new 7, 3) := by decide +kernel
theorem d_Lw_law_3 : decode code 3 = .ok (.dup, 1) := by decide +kernel
theorem d_Lw_law_4 : decode code 4 = .ok (.aload_n 0, 1) := by decide +kernel
theorem d_Lw_law_5 : decode code 5 = .ok (.iconst 0, 1) := by decide +kernel
theorem d_Lw_law_6 : decode code 6 = .ok (.invokestatic 9, 3) := by decide +kernel
theorem d_Lw_law_9 : decode code 9 = .ok (.aload_n 0, 1) := by decide +kernel
theorem d_Lw_law_10 : decode code 10 = .ok (.iconst 1, 1) := by decide +kernel
theorem d_Lw_law_11 : decode code 11 = .ok (.invokestatic 9, 3) := by decide +kernel
theorem d_Lw_law_14 : decode code 14 = .ok (.invokespecial 15, 3) := by decide +kernel
theorem d_Lw_law_17 : decode code 17 = .ok (.astore_n 1, 1) := by decide +kernel
theorem d_Lw_law_18 : decode code 18 = .ok (.new 18, 3) := by decide +kernel
theorem d_Lw_law_21 : decode code 21 = .ok (.dup, 1) := by decide +kernel
theorem d_Lw_law_22 : decode code 22 = .ok (.aload_n 0, 1) := by decide +kernel
theorem d_Lw_law_23 : decode code 23 = .ok (.iconst 0, 1) := by decide +kernel
theorem d_Lw_law_24 : decode code 24 = .ok (.invokestatic 9, 3) := by decide +kernel
theorem d_Lw_law_27 : decode code 27 = .ok (.aload_n 0, 1) := by decide +kernel
theorem d_Lw_law_28 : decode code 28 = .ok (.iconst 1, 1) := by decide +kernel
theorem d_Lw_law_29 : decode code 29 = .ok (.invokestatic 9, 3) := by decide +kernel
theorem d_Lw_law_32 : decode code 32 = .ok (.invokespecial 20, 3) := by decide +kernel
theorem d_Lw_law_35 : decode code 35 = .ok (.astore_n 2, 1) := by decide +kernel
theorem d_Lw_law_36 : decode code 36 = .ok (.iconst 2, 1) := by decide +kernel
theorem d_Lw_law_37 : decode code 37 = .ok (.istore_n 3, 1) := by decide +kernel
theorem d_Lw_law_38 : decode code 38 = .ok (.iload_n 3, 1) := by decide +kernel
theorem d_Lw_law_39 : decode code 39 = .ok (.aload_n 0, 1) := by decide +kernel
theorem d_Lw_law_40 : decode code 40 = .ok (.arraylength, 1) := by decide +kernel
theorem d_Lw_law_41 : decode code 41 = .ok (.bipush 6, 2) := by decide +kernel
theorem d_Lw_law_43 : decode code 43 = .ok (.isub, 1) := by decide +kernel
theorem d_Lw_law_44 : decode code 44 = .ok (.if_icmp .gt 393, 3) := by decide +kernel
theorem d_Lw_law_47 : decode code 47 = .ok (.aload_n 0, 1) := by decide +kernel
theorem d_Lw_law_48 : decode code 48 = .ok (.iload_n 3, 1) := by decide +kernel
theorem d_Lw_law_49 : decode code 49 = .ok (.iaload, 1) := by decide +kernel
theorem d_Lw_law_50 : decode code 50 = .ok (.bipush 15, 2) := by decide +kernel
theorem d_Lw_law_52 : decode code 52 = .ok (.iand, 1) := by decide +kernel
theorem d_Lw_law_53 : decode code 53 = .ok (.tableswitch 378 0 8 #[51, 114, 137, 170, 193, 236, 269, 312, 355], 51) := by decide +kernel
theorem d_Lw_law_104 : decode code 104 = .ok (.aload_n 1, 1) := by decide +kernel
theorem d_Lw_law_105 : decode code 105 = .ok (.aload_n 0, 1) := by decide +kernel
theorem d_Lw_law_106 : decode code 106 = .ok (.iload_n 3, 1) := by decide +kernel
theorem d_Lw_law_107 : decode code 107 = .ok (.iconst 1, 1) := by decide +kernel
theorem d_Lw_law_108 : decode code 108 = .ok (.iadd, 1) := by decide +kernel
theorem d_Lw_law_109 : decode code 109 = .ok (.iaload, 1) := by decide +kernel
theorem d_Lw_law_110 : decode code 110 = .ok (.aload_n 0, 1) := by decide +kernel
theorem d_Lw_law_111 : decode code 111 = .ok (.iload_n 3, 1) := by decide +kernel
theorem d_Lw_law_112 : decode code 112 = .ok (.iconst 2, 1) := by decide +kernel
theorem d_Lw_law_113 : decode code 113 = .ok (.iadd, 1) := by decide +kernel
theorem d_Lw_law_114 : decode code 114 = .ok (.iaload, 1) := by decide +kernel
theorem d_Lw_law_115 : decode code 115 = .ok (.aload_n 0, 1) := by decide +kernel
theorem d_Lw_law_116 : decode code 116 = .ok (.iload_n 3, 1) := by decide +kernel
theorem d_Lw_law_117 : decode code 117 = .ok (.iconst 3, 1) := by decide +kernel
theorem d_Lw_law_118 : decode code 118 = .ok (.iadd, 1) := by decide +kernel
theorem d_Lw_law_119 : decode code 119 = .ok (.iaload, 1) := by decide +kernel
theorem d_Lw_law_120 : decode code 120 = .ok (.aload_n 0, 1) := by decide +kernel
theorem d_Lw_law_121 : decode code 121 = .ok (.iload_n 3, 1) := by decide +kernel
theorem d_Lw_law_122 : decode code 122 = .ok (.iconst 4, 1) := by decide +kernel
theorem d_Lw_law_123 : decode code 123 = .ok (.iadd, 1) := by decide +kernel
theorem d_Lw_law_124 : decode code 124 = .ok (.iaload, 1) := by decide +kernel
theorem d_Lw_law_125 : decode code 125 = .ok (.aload_n 0, 1) := by decide +kernel
theorem d_Lw_law_126 : decode code 126 = .ok (.iload_n 3, 1) := by decide +kernel
theorem d_Lw_law_127 : decode code 127 = .ok (.iconst 5, 1) := by decide +kernel
theorem d_Lw_law_128 : decode code 128 = .ok (.iadd, 1) := by decide +kernel
theorem d_Lw_law_129 : decode code 129 = .ok (.iaload, 1) := by decide +kernel
theorem d_Lw_law_130 : decode code 130 = .ok (.invokevirtual 21, 3) := by decide +kernel
theorem d_Lw_law_133 : decode code 133 = .ok (.aload_n 2, 1) := by decide +kernel
theorem d_Lw_law_134 : decode code 134 = .ok (.aload_n 0, 1) := by decide +kernel
theorem d_Lw_law_135 : decode code 135 = .ok (.iload_n 3, 1) := by decide +kernel
theorem d_Lw_law_136 : decode code 136 = .ok (.iconst 1, 1) := by decide +kernel
theorem d_Lw_law_137 : decode code 137 = .ok (.iadd, 1) := by decide +kernel
theorem d_Lw_law_138 : decode code 138 = .ok (.iaload, 1) := by decide +kernel
theorem d_Lw_law_139 : decode code 139 = .ok (.aload_n 0, 1) := by decide +kernel
theorem d_Lw_law_140 : decode code 140 = .ok (.iload_n 3, 1) := by decide +kernel
theorem d_Lw_law_141 : decode code 141 = .ok (.iconst 2, 1) := by decide +kernel
theorem d_Lw_law_142 : decode code 142 = .ok (.iadd, 1) := by decide +kernel
theorem d_Lw_law_143 : decode code 143 = .ok (.iaload, 1) := by decide +kernel
theorem d_Lw_law_144 : decode code 144 = .ok (.aload_n 0, 1) := by decide +kernel
theorem d_Lw_law_145 : decode code 145 = .ok (.iload_n 3, 1) := by decide +kernel
theorem d_Lw_law_146 : decode code 146 = .ok (.iconst 3, 1) := by decide +kernel
theorem d_Lw_law_147 : decode code 147 = .ok (.iadd, 1) := by decide +kernel
theorem d_Lw_law_148 : decode code 148 = .ok (.iaload, 1) := by decide +kernel
theorem d_Lw_law_149 : decode code 149 = .ok (.aload_n 0, 1) := by decide +kernel
theorem d_Lw_law_150 : decode code 150 = .ok (.iload_n 3, 1) := by decide +kernel
theorem d_Lw_law_151 : decode code 151 = .ok (.iconst 4, 1) := by decide +kernel
theorem d_Lw_law_152 : decode code 152 = .ok (.iadd, 1) := by decide +kernel
theorem d_Lw_law_153 : decode code 153 = .ok (.iaload, 1) := by decide +kernel
theorem d_Lw_law_154 : decode code 154 = .ok (.aload_n 0, 1) := by decide +kernel
theorem d_Lw_law_155 : decode code 155 = .ok (.iload_n 3, 1) := by decide +kernel
theorem d_Lw_law_156 : decode code 156 = .ok (.iconst 5, 1) := by decide +kernel
theorem d_Lw_law_157 : decode code 157 = .ok (.iadd, 1) := by decide +kernel
theorem d_Lw_law_158 : decode code 158 = .ok (.iaload, 1) := by decide +kernel
theorem d_Lw_law_159 : decode code 159 = .ok (.invokevirtual 25, 3) := by decide +kernel
theorem d_Lw_law_162 : decode code 162 = .ok (.if_icmp .eq 269, 3) := by decide +kernel
theorem d_Lw_law_165 : decode code 165 = .ok (.iconst 0, 1) := by decide +kernel
theorem d_Lw_law_166 : decode code 166 = .ok (.ireturn, 1) := by decide +kernel
theorem d_Lw_law_167 : decode code 167 = .ok (.aload_n 1, 1) := by decide +kernel
theorem d_Lw_law_168 : decode code 168 = .ok (.aload_n 0, 1) := by decide +kernel
theorem d_Lw_law_169 : decode code 169 = .ok (.iload_n 3, 1) := by decide +kernel
theorem d_Lw_law_170 : decode code 170 = .ok (.iconst 1, 1) := by decide +kernel
theorem d_Lw_law_171 : decode code 171 = .ok (.iadd, 1) := by decide +kernel
theorem d_Lw_law_172 : decode code 172 = .ok (.iaload, 1) := by decide +kernel
theorem d_Lw_law_173 : decode code 173 = .ok (.invokevirtual 26, 3) := by decide +kernel
theorem d_Lw_law_176 : decode code 176 = .ok (.aload_n 2, 1) := by decide +kernel
theorem d_Lw_law_177 : decode code 177 = .ok (.aload_n 0, 1) := by decide +kernel
theorem d_Lw_law_178 : decode code 178 = .ok (.iload_n 3, 1) := by decide +kernel
theorem d_Lw_law_179 : decode code 179 = .ok (.iconst 1, 1) := by decide +kernel
theorem d_Lw_law_180 : decode code 180 = .ok (.iadd, 1) := by decide +kernel
theorem d_Lw_law_181 : decode code 181 = .ok (.iaload, 1) := by decide +kernel
theorem d_Lw_law_182 : decode code 182 = .ok (.invokevirtual 30, 3) := by decide +kernel
theorem d_Lw_law_185 : decode code 185 = .ok (.if_icmp .eq 246, 3) := by decide +kernel
theorem d_Lw_law_188 : decode code 188 = .ok (.iconst 0, 1) := by decide +kernel
theorem d_Lw_law_189 : decode code 189 = .ok (.ireturn, 1) := by decide +kernel
theorem d_Lw_law_190 : decode code 190 = .ok (.aload_n 1, 1) := by decide +kernel
theorem d_Lw_law_191 : decode code 191 = .ok (.aload_n 0, 1) := by decide +kernel
theorem d_Lw_law_192 : decode code 192 = .ok (.iload_n 3, 1) := by decide +kernel
theorem d_Lw_law_193 : decode code 193 = .ok (.iconst 1, 1) := by decide +kernel
theorem d_Lw_law_194 : decode code 194 = .ok (.iadd, 1) := by decide +kernel
theorem d_Lw_law_195 : decode code 195 = .ok (.iaload, 1) := by decide +kernel
theorem d_Lw_law_196 : decode code 196 = .ok (.aload_n 0, 1) := by decide +kernel
theorem d_Lw_law_197 : decode code 197 = .ok (.iload_n 3, 1) := by decide +kernel
theorem d_Lw_law_198 : decode code 198 = .ok (.iconst 2, 1) := by decide +kernel
theorem d_Lw_law_199 : decode code 199 = .ok (.iadd, 1) := by decide +kernel
theorem d_Lw_law_200 : decode code 200 = .ok (.iaload, 1) := by decide +kernel
theorem d_Lw_law_201 : decode code 201 = .ok (.invokevirtual 31, 3) := by decide +kernel
theorem d_Lw_law_204 : decode code 204 = .ok (.aload_n 2, 1) := by decide +kernel
theorem d_Lw_law_205 : decode code 205 = .ok (.aload_n 0, 1) := by decide +kernel
theorem d_Lw_law_206 : decode code 206 = .ok (.iload_n 3, 1) := by decide +kernel
theorem d_Lw_law_207 : decode code 207 = .ok (.iconst 1, 1) := by decide +kernel
theorem d_Lw_law_208 : decode code 208 = .ok (.iadd, 1) := by decide +kernel
theorem d_Lw_law_209 : decode code 209 = .ok (.iaload, 1) := by decide +kernel
theorem d_Lw_law_210 : decode code 210 = .ok (.aload_n 0, 1) := by decide +kernel
theorem d_Lw_law_211 : decode code 211 = .ok (.iload_n 3, 1) := by decide +kernel
theorem d_Lw_law_212 : decode code 212 = .ok (.iconst 2, 1) := by decide +kernel
theorem d_Lw_law_213 : decode code 213 = .ok (.iadd, 1) := by decide +kernel
theorem d_Lw_law_214 : decode code 214 = .ok (.iaload, 1) := by decide +kernel
theorem d_Lw_law_215 : decode code 215 = .ok (.invokevirtual 35, 3) := by decide +kernel
theorem d_Lw_law_218 : decode code 218 = .ok (.if_icmp .eq 213, 3) := by decide +kernel
theorem d_Lw_law_221 : decode code 221 = .ok (.iconst 0, 1) := by decide +kernel
theorem d_Lw_law_222 : decode code 222 = .ok (.ireturn, 1) := by decide +kernel
theorem d_Lw_law_223 : decode code 223 = .ok (.aload_n 1, 1) := by decide +kernel
theorem d_Lw_law_224 : decode code 224 = .ok (.aload_n 0, 1) := by decide +kernel
theorem d_Lw_law_225 : decode code 225 = .ok (.iload_n 3, 1) := by decide +kernel
theorem d_Lw_law_226 : decode code 226 = .ok (.iconst 1, 1) := by decide +kernel
theorem d_Lw_law_227 : decode code 227 = .ok (.iadd, 1) := by decide +kernel
theorem d_Lw_law_228 : decode code 228 = .ok (.iaload, 1) := by decide +kernel
theorem d_Lw_law_229 : decode code 229 = .ok (.invokevirtual 36, 3) := by decide +kernel
theorem d_Lw_law_232 : decode code 232 = .ok (.aload_n 2, 1) := by decide +kernel
theorem d_Lw_law_233 : decode code 233 = .ok (.aload_n 0, 1) := by decide +kernel
theorem d_Lw_law_234 : decode code 234 = .ok (.iload_n 3, 1) := by decide +kernel
theorem d_Lw_law_235 : decode code 235 = .ok (.iconst 1, 1) := by decide +kernel
theorem d_Lw_law_236 : decode code 236 = .ok (.iadd, 1) := by decide +kernel
theorem d_Lw_law_237 : decode code 237 = .ok (.iaload, 1) := by decide +kernel
theorem d_Lw_law_238 : decode code 238 = .ok (.invokevirtual 39, 3) := by decide +kernel
theorem d_Lw_law_241 : decode code 241 = .ok (.if_icmp .eq 190, 3) := by decide +kernel
theorem d_Lw_law_244 : decode code 244 = .ok (.iconst 0, 1) := by decide +kernel
theorem d_Lw_law_245 : decode code 245 = .ok (.ireturn, 1) := by decide +kernel
theorem d_Lw_law_246 : decode code 246 = .ok (.aload_n 1, 1) := by decide +kernel
theorem d_Lw_law_247 : decode code 247 = .ok (.aload_n 0, 1) := by decide +kernel
theorem d_Lw_law_248 : decode code 248 = .ok (.iload_n 3, 1) := by decide +kernel
theorem d_Lw_law_249 : decode code 249 = .ok (.iconst 1, 1) := by decide +kernel
theorem d_Lw_law_250 : decode code 250 = .ok (.iadd, 1) := by decide +kernel
theorem d_Lw_law_251 : decode code 251 = .ok (.iaload, 1) := by decide +kernel
theorem d_Lw_law_252 : decode code 252 = .ok (.aload_n 0, 1) := by decide +kernel
theorem d_Lw_law_253 : decode code 253 = .ok (.iload_n 3, 1) := by decide +kernel
theorem d_Lw_law_254 : decode code 254 = .ok (.iconst 2, 1) := by decide +kernel
theorem d_Lw_law_255 : decode code 255 = .ok (.iadd, 1) := by decide +kernel
theorem d_Lw_law_256 : decode code 256 = .ok (.iaload, 1) := by decide +kernel
theorem d_Lw_law_257 : decode code 257 = .ok (.aload_n 0, 1) := by decide +kernel
theorem d_Lw_law_258 : decode code 258 = .ok (.iload_n 3, 1) := by decide +kernel
theorem d_Lw_law_259 : decode code 259 = .ok (.iconst 3, 1) := by decide +kernel
theorem d_Lw_law_260 : decode code 260 = .ok (.iadd, 1) := by decide +kernel
theorem d_Lw_law_261 : decode code 261 = .ok (.iaload, 1) := by decide +kernel
theorem d_Lw_law_262 : decode code 262 = .ok (.invokevirtual 40, 3) := by decide +kernel
theorem d_Lw_law_265 : decode code 265 = .ok (.aload_n 2, 1) := by decide +kernel
theorem d_Lw_law_266 : decode code 266 = .ok (.aload_n 0, 1) := by decide +kernel
theorem d_Lw_law_267 : decode code 267 = .ok (.iload_n 3, 1) := by decide +kernel
theorem d_Lw_law_268 : decode code 268 = .ok (.iconst 1, 1) := by decide +kernel
theorem d_Lw_law_269 : decode code 269 = .ok (.iadd, 1) := by decide +kernel
theorem d_Lw_law_270 : decode code 270 = .ok (.iaload, 1) := by decide +kernel
theorem d_Lw_law_271 : decode code 271 = .ok (.aload_n 0, 1) := by decide +kernel
theorem d_Lw_law_272 : decode code 272 = .ok (.iload_n 3, 1) := by decide +kernel
theorem d_Lw_law_273 : decode code 273 = .ok (.iconst 2, 1) := by decide +kernel
theorem d_Lw_law_274 : decode code 274 = .ok (.iadd, 1) := by decide +kernel
theorem d_Lw_law_275 : decode code 275 = .ok (.iaload, 1) := by decide +kernel
theorem d_Lw_law_276 : decode code 276 = .ok (.aload_n 0, 1) := by decide +kernel
theorem d_Lw_law_277 : decode code 277 = .ok (.iload_n 3, 1) := by decide +kernel
theorem d_Lw_law_278 : decode code 278 = .ok (.iconst 3, 1) := by decide +kernel
theorem d_Lw_law_279 : decode code 279 = .ok (.iadd, 1) := by decide +kernel
theorem d_Lw_law_280 : decode code 280 = .ok (.iaload, 1) := by decide +kernel
theorem d_Lw_law_281 : decode code 281 = .ok (.invokevirtual 44, 3) := by decide +kernel
theorem d_Lw_law_284 : decode code 284 = .ok (.if_icmp .eq 147, 3) := by decide +kernel
theorem d_Lw_law_287 : decode code 287 = .ok (.iconst 0, 1) := by decide +kernel
theorem d_Lw_law_288 : decode code 288 = .ok (.ireturn, 1) := by decide +kernel
theorem d_Lw_law_289 : decode code 289 = .ok (.aload_n 1, 1) := by decide +kernel
theorem d_Lw_law_290 : decode code 290 = .ok (.aload_n 0, 1) := by decide +kernel
theorem d_Lw_law_291 : decode code 291 = .ok (.iload_n 3, 1) := by decide +kernel
theorem d_Lw_law_292 : decode code 292 = .ok (.iconst 1, 1) := by decide +kernel
theorem d_Lw_law_293 : decode code 293 = .ok (.iadd, 1) := by decide +kernel
theorem d_Lw_law_294 : decode code 294 = .ok (.iaload, 1) := by decide +kernel
theorem d_Lw_law_295 : decode code 295 = .ok (.aload_n 0, 1) := by decide +kernel
theorem d_Lw_law_296 : decode code 296 = .ok (.iload_n 3, 1) := by decide +kernel
theorem d_Lw_law_297 : decode code 297 = .ok (.iconst 2, 1) := by decide +kernel
theorem d_Lw_law_298 : decode code 298 = .ok (.iadd, 1) := by decide +kernel
theorem d_Lw_law_299 : decode code 299 = .ok (.iaload, 1) := by decide +kernel
theorem d_Lw_law_300 : decode code 300 = .ok (.invokevirtual 45, 3) := by decide +kernel
theorem d_Lw_law_303 : decode code 303 = .ok (.aload_n 2, 1) := by decide +kernel
theorem d_Lw_law_304 : decode code 304 = .ok (.aload_n 0, 1) := by decide +kernel
theorem d_Lw_law_305 : decode code 305 = .ok (.iload_n 3, 1) := by decide +kernel
theorem d_Lw_law_306 : decode code 306 = .ok (.iconst 1, 1) := by decide +kernel
theorem d_Lw_law_307 : decode code 307 = .ok (.iadd, 1) := by decide +kernel
theorem d_Lw_law_308 : decode code 308 = .ok (.iaload, 1) := by decide +kernel
theorem d_Lw_law_309 : decode code 309 = .ok (.aload_n 0, 1) := by decide +kernel
theorem d_Lw_law_310 : decode code 310 = .ok (.iload_n 3, 1) := by decide +kernel
theorem d_Lw_law_311 : decode code 311 = .ok (.iconst 2, 1) := by decide +kernel
theorem d_Lw_law_312 : decode code 312 = .ok (.iadd, 1) := by decide +kernel
theorem d_Lw_law_313 : decode code 313 = .ok (.iaload, 1) := by decide +kernel
theorem d_Lw_law_314 : decode code 314 = .ok (.invokevirtual 48, 3) := by decide +kernel
theorem d_Lw_law_317 : decode code 317 = .ok (.if_icmp .eq 114, 3) := by decide +kernel
theorem d_Lw_law_320 : decode code 320 = .ok (.iconst 0, 1) := by decide +kernel
theorem d_Lw_law_321 : decode code 321 = .ok (.ireturn, 1) := by decide +kernel
theorem d_Lw_law_322 : decode code 322 = .ok (.aload_n 1, 1) := by decide +kernel
theorem d_Lw_law_323 : decode code 323 = .ok (.aload_n 0, 1) := by decide +kernel
theorem d_Lw_law_324 : decode code 324 = .ok (.iload_n 3, 1) := by decide +kernel
theorem d_Lw_law_325 : decode code 325 = .ok (.iconst 1, 1) := by decide +kernel
theorem d_Lw_law_326 : decode code 326 = .ok (.iadd, 1) := by decide +kernel
theorem d_Lw_law_327 : decode code 327 = .ok (.iaload, 1) := by decide +kernel
theorem d_Lw_law_328 : decode code 328 = .ok (.aload_n 0, 1) := by decide +kernel
theorem d_Lw_law_329 : decode code 329 = .ok (.iload_n 3, 1) := by decide +kernel
theorem d_Lw_law_330 : decode code 330 = .ok (.iconst 2, 1) := by decide +kernel
theorem d_Lw_law_331 : decode code 331 = .ok (.iadd, 1) := by decide +kernel
theorem d_Lw_law_332 : decode code 332 = .ok (.iaload, 1) := by decide +kernel
theorem d_Lw_law_333 : decode code 333 = .ok (.aload_n 0, 1) := by decide +kernel
theorem d_Lw_law_334 : decode code 334 = .ok (.iload_n 3, 1) := by decide +kernel
theorem d_Lw_law_335 : decode code 335 = .ok (.iconst 3, 1) := by decide +kernel
theorem d_Lw_law_336 : decode code 336 = .ok (.iadd, 1) := by decide +kernel
theorem d_Lw_law_337 : decode code 337 = .ok (.iaload, 1) := by decide +kernel
theorem d_Lw_law_338 : decode code 338 = .ok (.invokevirtual 49, 3) := by decide +kernel
theorem d_Lw_law_341 : decode code 341 = .ok (.aload_n 2, 1) := by decide +kernel
theorem d_Lw_law_342 : decode code 342 = .ok (.aload_n 0, 1) := by decide +kernel
theorem d_Lw_law_343 : decode code 343 = .ok (.iload_n 3, 1) := by decide +kernel
theorem d_Lw_law_344 : decode code 344 = .ok (.iconst 1, 1) := by decide +kernel
theorem d_Lw_law_345 : decode code 345 = .ok (.iadd, 1) := by decide +kernel
theorem d_Lw_law_346 : decode code 346 = .ok (.iaload, 1) := by decide +kernel
theorem d_Lw_law_347 : decode code 347 = .ok (.aload_n 0, 1) := by decide +kernel
theorem d_Lw_law_348 : decode code 348 = .ok (.iload_n 3, 1) := by decide +kernel
theorem d_Lw_law_349 : decode code 349 = .ok (.iconst 2, 1) := by decide +kernel
theorem d_Lw_law_350 : decode code 350 = .ok (.iadd, 1) := by decide +kernel
theorem d_Lw_law_351 : decode code 351 = .ok (.iaload, 1) := by decide +kernel
theorem d_Lw_law_352 : decode code 352 = .ok (.aload_n 0, 1) := by decide +kernel
theorem d_Lw_law_353 : decode code 353 = .ok (.iload_n 3, 1) := by decide +kernel
theorem d_Lw_law_354 : decode code 354 = .ok (.iconst 3, 1) := by decide +kernel
theorem d_Lw_law_355 : decode code 355 = .ok (.iadd, 1) := by decide +kernel
theorem d_Lw_law_356 : decode code 356 = .ok (.iaload, 1) := by decide +kernel
theorem d_Lw_law_357 : decode code 357 = .ok (.invokevirtual 52, 3) := by decide +kernel
theorem d_Lw_law_360 : decode code 360 = .ok (.if_icmp .eq 71, 3) := by decide +kernel
theorem d_Lw_law_363 : decode code 363 = .ok (.iconst 0, 1) := by decide +kernel
theorem d_Lw_law_364 : decode code 364 = .ok (.ireturn, 1) := by decide +kernel
theorem d_Lw_law_365 : decode code 365 = .ok (.aload_n 1, 1) := by decide +kernel
theorem d_Lw_law_366 : decode code 366 = .ok (.aload_n 0, 1) := by decide +kernel
theorem d_Lw_law_367 : decode code 367 = .ok (.iload_n 3, 1) := by decide +kernel
theorem d_Lw_law_368 : decode code 368 = .ok (.iconst 1, 1) := by decide +kernel
theorem d_Lw_law_369 : decode code 369 = .ok (.iadd, 1) := by decide +kernel
theorem d_Lw_law_370 : decode code 370 = .ok (.iaload, 1) := by decide +kernel
theorem d_Lw_law_371 : decode code 371 = .ok (.aload_n 0, 1) := by decide +kernel
theorem d_Lw_law_372 : decode code 372 = .ok (.iload_n 3, 1) := by decide +kernel
theorem d_Lw_law_373 : decode code 373 = .ok (.iconst 2, 1) := by decide +kernel
theorem d_Lw_law_374 : decode code 374 = .ok (.iadd, 1) := by decide +kernel
theorem d_Lw_law_375 : decode code 375 = .ok (.iaload, 1) := by decide +kernel
theorem d_Lw_law_376 : decode code 376 = .ok (.aload_n 0, 1) := by decide +kernel
theorem d_Lw_law_377 : decode code 377 = .ok (.iload_n 3, 1) := by decide +kernel
theorem d_Lw_law_378 : decode code 378 = .ok (.iconst 3, 1) := by decide +kernel
theorem d_Lw_law_379 : decode code 379 = .ok (.iadd, 1) := by decide +kernel
theorem d_Lw_law_380 : decode code 380 = .ok (.iaload, 1) := by decide +kernel
theorem d_Lw_law_381 : decode code 381 = .ok (.invokevirtual 53, 3) := by decide +kernel
theorem d_Lw_law_384 : decode code 384 = .ok (.aload_n 2, 1) := by decide +kernel
theorem d_Lw_law_385 : decode code 385 = .ok (.aload_n 0, 1) := by decide +kernel
theorem d_Lw_law_386 : decode code 386 = .ok (.iload_n 3, 1) := by decide +kernel
theorem d_Lw_law_387 : decode code 387 = .ok (.iconst 1, 1) := by decide +kernel
theorem d_Lw_law_388 : decode code 388 = .ok (.iadd, 1) := by decide +kernel
theorem d_Lw_law_389 : decode code 389 = .ok (.iaload, 1) := by decide +kernel
theorem d_Lw_law_390 : decode code 390 = .ok (.aload_n 0, 1) := by decide +kernel
theorem d_Lw_law_391 : decode code 391 = .ok (.iload_n 3, 1) := by decide +kernel
theorem d_Lw_law_392 : decode code 392 = .ok (.iconst 2, 1) := by decide +kernel
theorem d_Lw_law_393 : decode code 393 = .ok (.iadd, 1) := by decide +kernel
theorem d_Lw_law_394 : decode code 394 = .ok (.iaload, 1) := by decide +kernel
theorem d_Lw_law_395 : decode code 395 = .ok (.aload_n 0, 1) := by decide +kernel
theorem d_Lw_law_396 : decode code 396 = .ok (.iload_n 3, 1) := by decide +kernel
theorem d_Lw_law_397 : decode code 397 = .ok (.iconst 3, 1) := by decide +kernel
theorem d_Lw_law_398 : decode code 398 = .ok (.iadd, 1) := by decide +kernel
theorem d_Lw_law_399 : decode code 399 = .ok (.iaload, 1) := by decide +kernel
theorem d_Lw_law_400 : decode code 400 = .ok (.invokevirtual 56, 3) := by decide +kernel
theorem d_Lw_law_403 : decode code 403 = .ok (.if_icmp .eq 28, 3) := by decide +kernel
theorem d_Lw_law_406 : decode code 406 = .ok (.iconst 0, 1) := by decide +kernel
theorem d_Lw_law_407 : decode code 407 = .ok (.ireturn, 1) := by decide +kernel
theorem d_Lw_law_408 : decode code 408 = .ok (.aload_n 1, 1) := by decide +kernel
theorem d_Lw_law_409 : decode code 409 = .ok (.aload_n 0, 1) := by decide +kernel
theorem d_Lw_law_410 : decode code 410 = .ok (.iload_n 3, 1) := by decide +kernel
theorem d_Lw_law_411 : decode code 411 = .ok (.iconst 1, 1) := by decide +kernel
theorem d_Lw_law_412 : decode code 412 = .ok (.iadd, 1) := by decide +kernel
theorem d_Lw_law_413 : decode code 413 = .ok (.iaload, 1) := by decide +kernel
theorem d_Lw_law_414 : decode code 414 = .ok (.invokevirtual 57, 3) := by decide +kernel
theorem d_Lw_law_417 : decode code 417 = .ok (.aload_n 2, 1) := by decide +kernel
theorem d_Lw_law_418 : decode code 418 = .ok (.aload_n 0, 1) := by decide +kernel
theorem d_Lw_law_419 : decode code 419 = .ok (.iload_n 3, 1) := by decide +kernel
theorem d_Lw_law_420 : decode code 420 = .ok (.iconst 1, 1) := by decide +kernel
theorem d_Lw_law_421 : decode code 421 = .ok (.iadd, 1) := by decide +kernel
theorem d_Lw_law_422 : decode code 422 = .ok (.iaload, 1) := by decide +kernel
theorem d_Lw_law_423 : decode code 423 = .ok (.invokevirtual 60, 3) := by decide +kernel
theorem d_Lw_law_426 : decode code 426 = .ok (.if_icmp .eq 5, 3) := by decide +kernel
theorem d_Lw_law_429 : decode code 429 = .ok (.iconst 0, 1) := by decide +kernel
theorem d_Lw_law_430 : decode code 430 = .ok (.ireturn, 1) := by decide +kernel
theorem d_Lw_law_431 : decode code 431 = .ok (.iinc 3 6, 3) := by decide +kernel
theorem d_Lw_law_434 : decode code 434 = .ok (.goto (-396), 3) := by decide +kernel
theorem d_Lw_law_437 : decode code 437 = .ok (.iconst 1, 1) := by decide +kernel
theorem d_Lw_law_438 : decode code 438 = .ok (.ireturn, 1) := by decide +kernel
