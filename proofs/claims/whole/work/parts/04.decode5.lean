theorem dX9_present_28 : decode cX9_present 28 = .ok (.ishl, 1) := by decide +kernel
theorem dX9_present_29 : decode cX9_present 29 = .ok (.ior, 1) := by decide +kernel
theorem dX9_present_30 : decode cX9_present 30 = .ok (.istore_n 1, 1) := by decide +kernel
theorem dX9_present_31 : decode cX9_present 31 = .ok (.iinc 2 1, 3) := by decide +kernel
theorem dX9_present_34 : decode cX9_present 34 = .ok (.goto (-30), 3) := by decide +kernel
theorem dX9_present_37 : decode cX9_present 37 = .ok (.iload_n 1, 1) := by decide +kernel
theorem dX9_present_38 : decode cX9_present 38 = .ok (.ireturn, 1) := by decide +kernel
theorem dX9_best_0 : decode cX9_best 0 = .ok (.aload_n 0, 1) := by decide +kernel
theorem dX9_best_1 : decode cX9_best 1 = .ok (.invokevirtual 193, 3) := by decide +kernel
theorem dX9_best_4 : decode cX9_best 4 = .ok (.aload_n 0, 1) := by decide +kernel
theorem dX9_best_5 : decode cX9_best 5 = .ok (.getfield 86, 3) := by decide +kernel
theorem dX9_best_8 : decode cX9_best 8 = .ok (.iconst 0, 1) := by decide +kernel
theorem dX9_best_9 : decode cX9_best 9 = .ok (.iconst 0, 1) := by decide +kernel
theorem dX9_best_10 : decode cX9_best 10 = .ok (.iastore, 1) := by decide +kernel
theorem dX9_best_11 : decode cX9_best 11 = .ok (.aload_n 0, 1) := by decide +kernel
theorem dX9_best_12 : decode cX9_best 12 = .ok (.getfield 89, 3) := by decide +kernel
theorem dX9_best_15 : decode cX9_best 15 = .ok (.iconst 0, 1) := by decide +kernel
theorem dX9_best_16 : decode cX9_best 16 = .ok (.iconst 0, 1) := by decide +kernel
theorem dX9_best_17 : decode cX9_best 17 = .ok (.iastore, 1) := by decide +kernel
theorem dX9_best_18 : decode cX9_best 18 = .ok (.aload_n 0, 1) := by decide +kernel
theorem dX9_best_19 : decode cX9_best 19 = .ok (.getfield 92, 3) := by decide +kernel
theorem dX9_best_22 : decode cX9_best 22 = .ok (.iconst 0, 1) := by decide +kernel
theorem dX9_best_23 : decode cX9_best 23 = .ok (.iconst 0, 1) := by decide +kernel
theorem dX9_best_24 : decode cX9_best 24 = .ok (.iastore, 1) := by decide +kernel
theorem dX9_best_25 : decode cX9_best 25 = .ok (.aload_n 0, 1) := by decide +kernel
theorem dX9_best_26 : decode cX9_best 26 = .ok (.getfield 98, 3) := by decide +kernel
theorem dX9_best_29 : decode cX9_best 29 = .ok (.iconst 0, 1) := by decide +kernel
theorem dX9_best_30 : decode cX9_best 30 = .ok (.iconst 0, 1) := by decide +kernel
theorem dX9_best_31 : decode cX9_best 31 = .ok (.iastore, 1) := by decide +kernel
theorem dX9_best_32 : decode cX9_best 32 = .ok (.aload_n 0, 1) := by decide +kernel
theorem dX9_best_33 : decode cX9_best 33 = .ok (.invokevirtual 199, 3) := by decide +kernel
theorem dX9_best_36 : decode cX9_best 36 = .ok (.istore_n 1, 1) := by decide +kernel
theorem dX9_best_37 : decode cX9_best 37 = .ok (.iconst 1, 1) := by decide +kernel
theorem dX9_best_38 : decode cX9_best 38 = .ok (.istore_n 2, 1) := by decide +kernel
theorem dX9_best_39 : decode cX9_best 39 = .ok (.iload_n 2, 1) := by decide +kernel
theorem dX9_best_40 : decode cX9_best 40 = .ok (.iconst 1, 1) := by decide +kernel
theorem dX9_best_41 : decode cX9_best 41 = .ok (.aload_n 0, 1) := by decide +kernel
theorem dX9_best_42 : decode cX9_best 42 = .ok (.getfield 143, 3) := by decide +kernel
theorem dX9_best_45 : decode cX9_best 45 = .ok (.ishl, 1) := by decide +kernel
theorem dX9_best_46 : decode cX9_best 46 = .ok (.if_icmp .ge 22, 3) := by decide +kernel
theorem dX9_best_49 : decode cX9_best 49 = .ok (.iload_n 2, 1) := by decide +kernel
theorem dX9_best_50 : decode cX9_best 50 = .ok (.iload_n 1, 1) := by decide +kernel
theorem dX9_best_51 : decode cX9_best 51 = .ok (.iconst (-1), 1) := by decide +kernel
theorem dX9_best_52 : decode cX9_best 52 = .ok (.ixor, 1) := by decide +kernel
theorem dX9_best_53 : decode cX9_best 53 = .ok (.iand, 1) := by decide +kernel
theorem dX9_best_54 : decode cX9_best 54 = .ok (.ifCond .ne 8, 3) := by decide +kernel
theorem dX9_best_57 : decode cX9_best 57 = .ok (.aload_n 0, 1) := by decide +kernel
theorem dX9_best_58 : decode cX9_best 58 = .ok (.iload_n 2, 1) := by decide +kernel
theorem dX9_best_59 : decode cX9_best 59 = .ok (.invokevirtual 203, 3) := by decide +kernel
theorem dX9_best_62 : decode cX9_best 62 = .ok (.iinc 2 1, 3) := by decide +kernel
theorem dX9_best_65 : decode cX9_best 65 = .ok (.goto (-26), 3) := by decide +kernel
theorem dX9_best_68 : decode cX9_best 68 = .ok (.return_, 1) := by decide +kernel
theorem dX9_bestOf_0 : decode cX9_bestOf 0 = .ok (.iload_n 1, 1) := by decide +kernel
theorem dX9_bestOf_1 : decode cX9_bestOf 1 = .ok (.iload_n 1, 1) := by decide +kernel
theorem dX9_bestOf_2 : decode cX9_bestOf 2 = .ok (.ineg, 1) := by decide +kernel
theorem dX9_bestOf_3 : decode cX9_bestOf 3 = .ok (.iand, 1) := by decide +kernel
theorem dX9_bestOf_4 : decode cX9_bestOf 4 = .ok (.istore_n 2, 1) := by decide +kernel
theorem dX9_bestOf_5 : decode cX9_bestOf 5 = .ok (.iload_n 1, 1) := by decide +kernel
theorem dX9_bestOf_6 : decode cX9_bestOf 6 = .ok (.iload_n 2, 1) := by decide +kernel
theorem dX9_bestOf_7 : decode cX9_bestOf 7 = .ok (.iconst (-1), 1) := by decide +kernel
theorem dX9_bestOf_8 : decode cX9_bestOf 8 = .ok (.ixor, 1) := by decide +kernel
theorem dX9_bestOf_9 : decode cX9_bestOf 9 = .ok (.iand, 1) := by decide +kernel
theorem dX9_bestOf_10 : decode cX9_bestOf 10 = .ok (.istore_n 3, 1) := by decide +kernel
theorem dX9_bestOf_11 : decode cX9_bestOf 11 = .ok (.aload_n 0, 1) := by decide +kernel
theorem dX9_bestOf_12 : decode cX9_bestOf 12 = .ok (.getfield 86, 3) := by decide +kernel
theorem dX9_bestOf_15 : decode cX9_bestOf 15 = .ok (.iload_n 1, 1) := by decide +kernel
theorem dX9_bestOf_16 : decode cX9_bestOf 16 = .ok (.aload_n 0, 1) := by decide +kernel
theorem dX9_bestOf_17 : decode cX9_bestOf 17 = .ok (.getfield 86, 3) := by decide +kernel
theorem dX9_bestOf_20 : decode cX9_bestOf 20 = .ok (.iload_n 3, 1) := by decide +kernel
theorem dX9_bestOf_21 : decode cX9_bestOf 21 = .ok (.iaload, 1) := by decide +kernel
theorem dX9_bestOf_22 : decode cX9_bestOf 22 = .ok (.iconst 1, 1) := by decide +kernel
theorem dX9_bestOf_23 : decode cX9_bestOf 23 = .ok (.iadd, 1) := by decide +kernel
theorem dX9_bestOf_24 : decode cX9_bestOf 24 = .ok (.iastore, 1) := by decide +kernel
theorem dX9_bestOf_25 : decode cX9_bestOf 25 = .ok (.aload_n 0, 1) := by decide +kernel
theorem dX9_bestOf_26 : decode cX9_bestOf 26 = .ok (.getfield 89, 3) := by decide +kernel
theorem dX9_bestOf_29 : decode cX9_bestOf 29 = .ok (.iload_n 1, 1) := by decide +kernel
theorem dX9_bestOf_30 : decode cX9_bestOf 30 = .ok (.aload_n 0, 1) := by decide +kernel
theorem dX9_bestOf_31 : decode cX9_bestOf 31 = .ok (.getfield 89, 3) := by decide +kernel
theorem dX9_bestOf_34 : decode cX9_bestOf 34 = .ok (.iload_n 3, 1) := by decide +kernel
theorem dX9_bestOf_35 : decode cX9_bestOf 35 = .ok (.iaload, 1) := by decide +kernel
theorem dX9_bestOf_36 : decode cX9_bestOf 36 = .ok (.iastore, 1) := by decide +kernel
theorem dX9_bestOf_37 : decode cX9_bestOf 37 = .ok (.aload_n 0, 1) := by decide +kernel
theorem dX9_bestOf_38 : decode cX9_bestOf 38 = .ok (.getfield 92, 3) := by decide +kernel
theorem dX9_bestOf_41 : decode cX9_bestOf 41 = .ok (.iload_n 1, 1) := by decide +kernel
theorem dX9_bestOf_42 : decode cX9_bestOf 42 = .ok (.aload_n 0, 1) := by decide +kernel
theorem dX9_bestOf_43 : decode cX9_bestOf 43 = .ok (.getfield 92, 3) := by decide +kernel
theorem dX9_bestOf_46 : decode cX9_bestOf 46 = .ok (.iload_n 3, 1) := by decide +kernel
theorem dX9_bestOf_47 : decode cX9_bestOf 47 = .ok (.iaload, 1) := by decide +kernel
theorem dX9_bestOf_48 : decode cX9_bestOf 48 = .ok (.iastore, 1) := by decide +kernel
theorem dX9_bestOf_49 : decode cX9_bestOf 49 = .ok (.aload_n 0, 1) := by decide +kernel
theorem dX9_bestOf_50 : decode cX9_bestOf 50 = .ok (.getfield 95, 3) := by decide +kernel
theorem dX9_bestOf_53 : decode cX9_bestOf 53 = .ok (.iload_n 1, 1) := by decide +kernel
theorem dX9_bestOf_54 : decode cX9_bestOf 54 = .ok (.iconst 0, 1) := by decide +kernel
theorem dX9_bestOf_55 : decode cX9_bestOf 55 = .ok (.iastore, 1) := by decide +kernel
theorem dX9_bestOf_56 : decode cX9_bestOf 56 = .ok (.aload_n 0, 1) := by decide +kernel
theorem dX9_bestOf_57 : decode cX9_bestOf 57 = .ok (.getfield 98, 3) := by decide +kernel
theorem dX9_bestOf_60 : decode cX9_bestOf 60 = .ok (.iload_n 1, 1) := by decide +kernel
theorem dX9_bestOf_61 : decode cX9_bestOf 61 = .ok (.ldc 151, 2) := by decide +kernel
theorem dX9_bestOf_63 : decode cX9_bestOf 63 = .ok (.iastore, 1) := by decide +kernel
theorem dX9_bestOf_64 : decode cX9_bestOf 64 = .ok (.iload_n 2, 1) := by decide +kernel
theorem dX9_bestOf_65 : decode cX9_bestOf 65 = .ok (.istore 4, 2) := by decide +kernel
theorem dX9_bestOf_67 : decode cX9_bestOf 67 = .ok (.iload 4, 2) := by decide +kernel
theorem dX9_bestOf_69 : decode cX9_bestOf 69 = .ok (.iload_n 1, 1) := by decide +kernel
theorem dX9_bestOf_70 : decode cX9_bestOf 70 = .ok (.if_icmp .gt 197, 3) := by decide +kernel
theorem dX9_bestOf_73 : decode cX9_bestOf 73 = .ok (.iload 4, 2) := by decide +kernel
theorem dX9_bestOf_75 : decode cX9_bestOf 75 = .ok (.iload_n 2, 1) := by decide +kernel
theorem dX9_bestOf_76 : decode cX9_bestOf 76 = .ok (.iand, 1) := by decide +kernel
theorem dX9_bestOf_77 : decode cX9_bestOf 77 = .ok (.ifCond .eq 184, 3) := by decide +kernel
theorem dX9_bestOf_80 : decode cX9_bestOf 80 = .ok (.iload 4, 2) := by decide +kernel
theorem dX9_bestOf_82 : decode cX9_bestOf 82 = .ok (.iload_n 1, 1) := by decide +kernel
theorem dX9_bestOf_83 : decode cX9_bestOf 83 = .ok (.iconst (-1), 1) := by decide +kernel
theorem dX9_bestOf_84 : decode cX9_bestOf 84 = .ok (.ixor, 1) := by decide +kernel
theorem dX9_bestOf_85 : decode cX9_bestOf 85 = .ok (.iand, 1) := by decide +kernel
theorem dX9_bestOf_86 : decode cX9_bestOf 86 = .ok (.ifCond .ne 175, 3) := by decide +kernel
theorem dX9_bestOf_89 : decode cX9_bestOf 89 = .ok (.aload_n 0, 1) := by decide +kernel
theorem dX9_bestOf_90 : decode cX9_bestOf 90 = .ok (.getfield 80, 3) := by decide +kernel
theorem dX9_bestOf_93 : decode cX9_bestOf 93 = .ok (.iload 4, 2) := by decide +kernel
theorem dX9_bestOf_95 : decode cX9_bestOf 95 = .ok (.iaload, 1) := by decide +kernel
theorem dX9_bestOf_96 : decode cX9_bestOf 96 = .ok (.ifCond .ge 6, 3) := by decide +kernel
theorem dX9_bestOf_99 : decode cX9_bestOf 99 = .ok (.goto 162, 3) := by decide +kernel
theorem dX9_bestOf_102 : decode cX9_bestOf 102 = .ok (.iload_n 1, 1) := by decide +kernel
theorem dX9_bestOf_103 : decode cX9_bestOf 103 = .ok (.iload 4, 2) := by decide +kernel
theorem dX9_bestOf_105 : decode cX9_bestOf 105 = .ok (.iconst (-1), 1) := by decide +kernel
theorem dX9_bestOf_106 : decode cX9_bestOf 106 = .ok (.ixor, 1) := by decide +kernel
theorem dX9_bestOf_107 : decode cX9_bestOf 107 = .ok (.iand, 1) := by decide +kernel
theorem dX9_bestOf_108 : decode cX9_bestOf 108 = .ok (.istore 5, 2) := by decide +kernel
theorem dX9_bestOf_110 : decode cX9_bestOf 110 = .ok (.aload_n 0, 1) := by decide +kernel
theorem dX9_bestOf_111 : decode cX9_bestOf 111 = .ok (.getfield 98, 3) := by decide +kernel
theorem dX9_bestOf_114 : decode cX9_bestOf 114 = .ok (.iload_n 1, 1) := by decide +kernel
theorem dX9_bestOf_115 : decode cX9_bestOf 115 = .ok (.aload_n 0, 1) := by decide +kernel
theorem dX9_bestOf_116 : decode cX9_bestOf 116 = .ok (.getfield 98, 3) := by decide +kernel
theorem dX9_bestOf_119 : decode cX9_bestOf 119 = .ok (.iload_n 1, 1) := by decide +kernel
theorem dX9_bestOf_120 : decode cX9_bestOf 120 = .ok (.iaload, 1) := by decide +kernel
theorem dX9_bestOf_121 : decode cX9_bestOf 121 = .ok (.aload_n 0, 1) := by decide +kernel
theorem dX9_bestOf_122 : decode cX9_bestOf 122 = .ok (.getfield 98, 3) := by decide +kernel
theorem dX9_bestOf_125 : decode cX9_bestOf 125 = .ok (.iload 5, 2) := by decide +kernel
theorem dX9_bestOf_127 : decode cX9_bestOf 127 = .ok (.iaload, 1) := by decide +kernel
theorem dX9_bestOf_128 : decode cX9_bestOf 128 = .ok (.iconst 1, 1) := by decide +kernel
theorem dX9_bestOf_129 : decode cX9_bestOf 129 = .ok (.iadd, 1) := by decide +kernel
theorem dX9_bestOf_130 : decode cX9_bestOf 130 = .ok (.invokestatic 123, 3) := by decide +kernel
theorem dX9_bestOf_133 : decode cX9_bestOf 133 = .ok (.iastore, 1) := by decide +kernel
theorem dX9_bestOf_134 : decode cX9_bestOf 134 = .ok (.aload_n 0, 1) := by decide +kernel
theorem dX9_bestOf_135 : decode cX9_bestOf 135 = .ok (.getfield 86, 3) := by decide +kernel
theorem dX9_bestOf_138 : decode cX9_bestOf 138 = .ok (.iload 5, 2) := by decide +kernel
theorem dX9_bestOf_140 : decode cX9_bestOf 140 = .ok (.iaload, 1) := by decide +kernel
theorem dX9_bestOf_141 : decode cX9_bestOf 141 = .ok (.istore 6, 2) := by decide +kernel
theorem dX9_bestOf_143 : decode cX9_bestOf 143 = .ok (.aload_n 0, 1) := by decide +kernel
theorem dX9_bestOf_144 : decode cX9_bestOf 144 = .ok (.getfield 89, 3) := by decide +kernel
theorem dX9_bestOf_147 : decode cX9_bestOf 147 = .ok (.iload 5, 2) := by decide +kernel
theorem dX9_bestOf_149 : decode cX9_bestOf 149 = .ok (.iaload, 1) := by decide +kernel
theorem dX9_bestOf_150 : decode cX9_bestOf 150 = .ok (.aload_n 0, 1) := by decide +kernel
theorem dX9_bestOf_151 : decode cX9_bestOf 151 = .ok (.getfield 77, 3) := by decide +kernel
theorem dX9_bestOf_154 : decode cX9_bestOf 154 = .ok (.iload 4, 2) := by decide +kernel
theorem dX9_bestOf_156 : decode cX9_bestOf 156 = .ok (.iaload, 1) := by decide +kernel
theorem dX9_bestOf_157 : decode cX9_bestOf 157 = .ok (.iadd, 1) := by decide +kernel
theorem dX9_bestOf_158 : decode cX9_bestOf 158 = .ok (.istore 7, 2) := by decide +kernel
theorem dX9_bestOf_160 : decode cX9_bestOf 160 = .ok (.aload_n 0, 1) := by decide +kernel
theorem dX9_bestOf_161 : decode cX9_bestOf 161 = .ok (.getfield 92, 3) := by decide +kernel
theorem dX9_bestOf_164 : decode cX9_bestOf 164 = .ok (.iload 5, 2) := by decide +kernel
theorem dX9_bestOf_166 : decode cX9_bestOf 166 = .ok (.iaload, 1) := by decide +kernel
theorem dX9_bestOf_167 : decode cX9_bestOf 167 = .ok (.iconst 1, 1) := by decide +kernel
theorem dX9_bestOf_168 : decode cX9_bestOf 168 = .ok (.iadd, 1) := by decide +kernel
theorem dX9_bestOf_169 : decode cX9_bestOf 169 = .ok (.istore 8, 2) := by decide +kernel
theorem dX9_bestOf_171 : decode cX9_bestOf 171 = .ok (.iload 6, 2) := by decide +kernel
theorem dX9_bestOf_173 : decode cX9_bestOf 173 = .ok (.aload_n 0, 1) := by decide +kernel
theorem dX9_bestOf_174 : decode cX9_bestOf 174 = .ok (.getfield 86, 3) := by decide +kernel
theorem dX9_bestOf_177 : decode cX9_bestOf 177 = .ok (.iload_n 1, 1) := by decide +kernel
theorem dX9_bestOf_178 : decode cX9_bestOf 178 = .ok (.iaload, 1) := by decide +kernel
theorem dX9_bestOf_179 : decode cX9_bestOf 179 = .ok (.if_icmp .gt 82, 3) := by decide +kernel
theorem dX9_bestOf_182 : decode cX9_bestOf 182 = .ok (.iload 6, 2) := by decide +kernel
theorem dX9_bestOf_184 : decode cX9_bestOf 184 = .ok (.aload_n 0, 1) := by decide +kernel
theorem dX9_bestOf_185 : decode cX9_bestOf 185 = .ok (.getfield 86, 3) := by decide +kernel
theorem dX9_bestOf_188 : decode cX9_bestOf 188 = .ok (.iload_n 1, 1) := by decide +kernel
theorem dX9_bestOf_189 : decode cX9_bestOf 189 = .ok (.iaload, 1) := by decide +kernel
theorem dX9_bestOf_190 : decode cX9_bestOf 190 = .ok (.if_icmp .ne 39, 3) := by decide +kernel
theorem dX9_bestOf_193 : decode cX9_bestOf 193 = .ok (.iload 7, 2) := by decide +kernel
theorem dX9_bestOf_195 : decode cX9_bestOf 195 = .ok (.aload_n 0, 1) := by decide +kernel
theorem dX9_bestOf_196 : decode cX9_bestOf 196 = .ok (.getfield 89, 3) := by decide +kernel
theorem dX9_bestOf_199 : decode cX9_bestOf 199 = .ok (.iload_n 1, 1) := by decide +kernel
theorem dX9_bestOf_200 : decode cX9_bestOf 200 = .ok (.iaload, 1) := by decide +kernel
theorem dX9_bestOf_201 : decode cX9_bestOf 201 = .ok (.if_icmp .gt 60, 3) := by decide +kernel
theorem dX9_bestOf_204 : decode cX9_bestOf 204 = .ok (.iload 7, 2) := by decide +kernel
theorem dX9_bestOf_206 : decode cX9_bestOf 206 = .ok (.aload_n 0, 1) := by decide +kernel
theorem dX9_bestOf_207 : decode cX9_bestOf 207 = .ok (.getfield 89, 3) := by decide +kernel
theorem dX9_bestOf_210 : decode cX9_bestOf 210 = .ok (.iload_n 1, 1) := by decide +kernel
theorem dX9_bestOf_211 : decode cX9_bestOf 211 = .ok (.iaload, 1) := by decide +kernel
theorem dX9_bestOf_212 : decode cX9_bestOf 212 = .ok (.if_icmp .ne 17, 3) := by decide +kernel
theorem dX9_bestOf_215 : decode cX9_bestOf 215 = .ok (.iload 8, 2) := by decide +kernel
theorem dX9_bestOf_217 : decode cX9_bestOf 217 = .ok (.aload_n 0, 1) := by decide +kernel
theorem dX9_bestOf_218 : decode cX9_bestOf 218 = .ok (.getfield 92, 3) := by decide +kernel
theorem dX9_bestOf_221 : decode cX9_bestOf 221 = .ok (.iload_n 1, 1) := by decide +kernel
theorem dX9_bestOf_222 : decode cX9_bestOf 222 = .ok (.iaload, 1) := by decide +kernel
theorem dX9_bestOf_223 : decode cX9_bestOf 223 = .ok (.if_icmp .lt 6, 3) := by decide +kernel
theorem dX9_bestOf_226 : decode cX9_bestOf 226 = .ok (.goto 35, 3) := by decide +kernel
theorem dX9_bestOf_229 : decode cX9_bestOf 229 = .ok (.aload_n 0, 1) := by decide +kernel
theorem dX9_bestOf_230 : decode cX9_bestOf 230 = .ok (.getfield 86, 3) := by decide +kernel
theorem dX9_bestOf_233 : decode cX9_bestOf 233 = .ok (.iload_n 1, 1) := by decide +kernel
theorem dX9_bestOf_234 : decode cX9_bestOf 234 = .ok (.iload 6, 2) := by decide +kernel
theorem dX9_bestOf_236 : decode cX9_bestOf 236 = .ok (.iastore, 1) := by decide +kernel
theorem dX9_bestOf_237 : decode cX9_bestOf 237 = .ok (.aload_n 0, 1) := by decide +kernel
theorem dX9_bestOf_238 : decode cX9_bestOf 238 = .ok (.getfield 89, 3) := by decide +kernel
theorem dX9_bestOf_241 : decode cX9_bestOf 241 = .ok (.iload_n 1, 1) := by decide +kernel
theorem dX9_bestOf_242 : decode cX9_bestOf 242 = .ok (.iload 7, 2) := by decide +kernel
theorem dX9_bestOf_244 : decode cX9_bestOf 244 = .ok (.iastore, 1) := by decide +kernel
theorem dX9_bestOf_245 : decode cX9_bestOf 245 = .ok (.aload_n 0, 1) := by decide +kernel
theorem dX9_bestOf_246 : decode cX9_bestOf 246 = .ok (.getfield 92, 3) := by decide +kernel
theorem dX9_bestOf_249 : decode cX9_bestOf 249 = .ok (.iload_n 1, 1) := by decide +kernel
theorem dX9_bestOf_250 : decode cX9_bestOf 250 = .ok (.iload 8, 2) := by decide +kernel
theorem dX9_bestOf_252 : decode cX9_bestOf 252 = .ok (.iastore, 1) := by decide +kernel
theorem dX9_bestOf_253 : decode cX9_bestOf 253 = .ok (.aload_n 0, 1) := by decide +kernel
theorem dX9_bestOf_254 : decode cX9_bestOf 254 = .ok (.getfield 95, 3) := by decide +kernel
theorem dX9_bestOf_257 : decode cX9_bestOf 257 = .ok (.iload_n 1, 1) := by decide +kernel
theorem dX9_bestOf_258 : decode cX9_bestOf 258 = .ok (.iload 4, 2) := by decide +kernel
theorem dX9_bestOf_260 : decode cX9_bestOf 260 = .ok (.iastore, 1) := by decide +kernel
theorem dX9_bestOf_261 : decode cX9_bestOf 261 = .ok (.iinc 4 1, 3) := by decide +kernel
theorem dX9_bestOf_264 : decode cX9_bestOf 264 = .ok (.goto (-197), 3) := by decide +kernel
theorem dX9_bestOf_267 : decode cX9_bestOf 267 = .ok (.return_, 1) := by decide +kernel
theorem dX9_leaves_0 : decode cX9_leaves 0 = .ok (.aload_n 0, 1) := by decide +kernel
theorem dX9_leaves_1 : decode cX9_leaves 1 = .ok (.getfield 101, 3) := by decide +kernel
theorem dX9_leaves_4 : decode cX9_leaves 4 = .ok (.iload_n 1, 1) := by decide +kernel
theorem dX9_leaves_5 : decode cX9_leaves 5 = .ok (.iconst 0, 1) := by decide +kernel
theorem dX9_leaves_6 : decode cX9_leaves 6 = .ok (.iastore, 1) := by decide +kernel
theorem dX9_leaves_7 : decode cX9_leaves 7 = .ok (.aload_n 0, 1) := by decide +kernel
theorem dX9_leaves_8 : decode cX9_leaves 8 = .ok (.getfield 104, 3) := by decide +kernel
theorem dX9_leaves_11 : decode cX9_leaves 11 = .ok (.iload_n 1, 1) := by decide +kernel
theorem dX9_leaves_12 : decode cX9_leaves 12 = .ok (.bipush (-9), 2) := by decide +kernel
theorem dX9_leaves_14 : decode cX9_leaves 14 = .ok (.iastore, 1) := by decide +kernel
theorem dX9_leaves_15 : decode cX9_leaves 15 = .ok (.aload_n 0, 1) := by decide +kernel
theorem dX9_leaves_16 : decode cX9_leaves 16 = .ok (.getfield 107, 3) := by decide +kernel
theorem dX9_leaves_19 : decode cX9_leaves 19 = .ok (.iload_n 1, 1) := by decide +kernel
theorem dX9_leaves_20 : decode cX9_leaves 20 = .ok (.bipush (-9), 2) := by decide +kernel
theorem dX9_leaves_22 : decode cX9_leaves 22 = .ok (.iastore, 1) := by decide +kernel
theorem dX9_leaves_23 : decode cX9_leaves 23 = .ok (.aload_n 0, 1) := by decide +kernel
theorem dX9_leaves_24 : decode cX9_leaves 24 = .ok (.getfield 110, 3) := by decide +kernel
theorem dX9_leaves_27 : decode cX9_leaves 27 = .ok (.iload_n 1, 1) := by decide +kernel
theorem dX9_leaves_28 : decode cX9_leaves 28 = .ok (.bipush (-9), 2) := by decide +kernel
theorem dX9_leaves_30 : decode cX9_leaves 30 = .ok (.iastore, 1) := by decide +kernel
theorem dX9_leaves_31 : decode cX9_leaves 31 = .ok (.return_, 1) := by decide +kernel
theorem dX9_lays_0 : decode cX9_lays 0 = .ok (.aload_n 0, 1) := by decide +kernel
theorem dX9_lays_1 : decode cX9_lays 1 = .ok (.iload_n 1, 1) := by decide +kernel
theorem dX9_lays_2 : decode cX9_lays 2 = .ok (.iload_n 2, 1) := by decide +kernel
theorem dX9_lays_3 : decode cX9_lays 3 = .ok (.invokevirtual 187, 3) := by decide +kernel
theorem dX9_lays_6 : decode cX9_lays 6 = .ok (.istore_n 3, 1) := by decide +kernel
theorem dX9_lays_7 : decode cX9_lays 7 = .ok (.iconst 0, 1) := by decide +kernel
theorem dX9_lays_8 : decode cX9_lays 8 = .ok (.istore 4, 2) := by decide +kernel
theorem dX9_lays_10 : decode cX9_lays 10 = .ok (.iload 4, 2) := by decide +kernel
theorem dX9_lays_12 : decode cX9_lays 12 = .ok (.aload_n 0, 1) := by decide +kernel
theorem dX9_lays_13 : decode cX9_lays 13 = .ok (.getfield 143, 3) := by decide +kernel
theorem dX9_lays_16 : decode cX9_lays 16 = .ok (.if_icmp .ge 86, 3) := by decide +kernel
theorem dX9_lays_19 : decode cX9_lays 19 = .ok (.iload_n 1, 1) := by decide +kernel
theorem dX9_lays_20 : decode cX9_lays 20 = .ok (.iload 4, 2) := by decide +kernel
theorem dX9_lays_22 : decode cX9_lays 22 = .ok (.ishr, 1) := by decide +kernel
theorem dX9_lays_23 : decode cX9_lays 23 = .ok (.iconst 1, 1) := by decide +kernel
theorem dX9_lays_24 : decode cX9_lays 24 = .ok (.iand, 1) := by decide +kernel
theorem dX9_lays_25 : decode cX9_lays 25 = .ok (.ifCond .ne 6, 3) := by decide +kernel
theorem dX9_lays_28 : decode cX9_lays 28 = .ok (.goto 68, 3) := by decide +kernel
theorem dX9_lays_31 : decode cX9_lays 31 = .ok (.aload_n 0, 1) := by decide +kernel
theorem dX9_lays_32 : decode cX9_lays 32 = .ok (.getfield 101, 3) := by decide +kernel
theorem dX9_lays_35 : decode cX9_lays 35 = .ok (.iload 4, 2) := by decide +kernel
theorem dX9_lays_37 : decode cX9_lays 37 = .ok (.iload_n 1, 1) := by decide +kernel
theorem dX9_lays_38 : decode cX9_lays 38 = .ok (.iastore, 1) := by decide +kernel
theorem dX9_lays_39 : decode cX9_lays 39 = .ok (.aload_n 0, 1) := by decide +kernel
theorem dX9_lays_40 : decode cX9_lays 40 = .ok (.getfield 104, 3) := by decide +kernel
theorem dX9_lays_43 : decode cX9_lays 43 = .ok (.iload 4, 2) := by decide +kernel
theorem dX9_lays_45 : decode cX9_lays 45 = .ok (.iload_n 2, 1) := by decide +kernel
theorem dX9_lays_46 : decode cX9_lays 46 = .ok (.iastore, 1) := by decide +kernel
theorem dX9_lays_47 : decode cX9_lays 47 = .ok (.aload_n 0, 1) := by decide +kernel
theorem dX9_lays_48 : decode cX9_lays 48 = .ok (.getfield 107, 3) := by decide +kernel
theorem dX9_lays_51 : decode cX9_lays 51 = .ok (.iload 4, 2) := by decide +kernel
theorem dX9_lays_53 : decode cX9_lays 53 = .ok (.aload_n 0, 1) := by decide +kernel
theorem dX9_lays_54 : decode cX9_lays 54 = .ok (.getfield 175, 3) := by decide +kernel
theorem dX9_lays_57 : decode cX9_lays 57 = .ok (.aload_n 0, 1) := by decide +kernel
theorem dX9_lays_58 : decode cX9_lays 58 = .ok (.getfield 71, 3) := by decide +kernel
theorem dX9_lays_61 : decode cX9_lays 61 = .ok (.iload 4, 2) := by decide +kernel
theorem dX9_lays_63 : decode cX9_lays 63 = .ok (.iaload, 1) := by decide +kernel
theorem dX9_lays_64 : decode cX9_lays 64 = .ok (.iadd, 1) := by decide +kernel
theorem dX9_lays_65 : decode cX9_lays 65 = .ok (.iastore, 1) := by decide +kernel
theorem dX9_lays_66 : decode cX9_lays 66 = .ok (.aload_n 0, 1) := by decide +kernel
theorem dX9_lays_67 : decode cX9_lays 67 = .ok (.getfield 110, 3) := by decide +kernel
theorem dX9_lays_70 : decode cX9_lays 70 = .ok (.iload 4, 2) := by decide +kernel
theorem dX9_lays_72 : decode cX9_lays 72 = .ok (.aload_n 0, 1) := by decide +kernel
theorem dX9_lays_73 : decode cX9_lays 73 = .ok (.getfield 175, 3) := by decide +kernel
theorem dX9_lays_76 : decode cX9_lays 76 = .ok (.aload_n 0, 1) := by decide +kernel
theorem dX9_lays_77 : decode cX9_lays 77 = .ok (.getfield 74, 3) := by decide +kernel
theorem dX9_lays_80 : decode cX9_lays 80 = .ok (.iload 4, 2) := by decide +kernel
theorem dX9_lays_82 : decode cX9_lays 82 = .ok (.iaload, 1) := by decide +kernel
theorem dX9_lays_83 : decode cX9_lays 83 = .ok (.iadd, 1) := by decide +kernel
theorem dX9_lays_84 : decode cX9_lays 84 = .ok (.iastore, 1) := by decide +kernel
theorem dX9_lays_85 : decode cX9_lays 85 = .ok (.aload_n 0, 1) := by decide +kernel
theorem dX9_lays_86 : decode cX9_lays 86 = .ok (.getfield 113, 3) := by decide +kernel
theorem dX9_lays_89 : decode cX9_lays 89 = .ok (.iload 4, 2) := by decide +kernel
theorem dX9_lays_91 : decode cX9_lays 91 = .ok (.aload_n 0, 1) := by decide +kernel
theorem dX9_lays_92 : decode cX9_lays 92 = .ok (.getfield 152, 3) := by decide +kernel
theorem dX9_lays_95 : decode cX9_lays 95 = .ok (.iastore, 1) := by decide +kernel
theorem dX9_lays_96 : decode cX9_lays 96 = .ok (.iinc 4 1, 3) := by decide +kernel
theorem dX9_lays_99 : decode cX9_lays 99 = .ok (.goto (-89), 3) := by decide +kernel
theorem dX9_lays_102 : decode cX9_lays 102 = .ok (.return_, 1) := by decide +kernel
theorem dX9_plan_0 : decode cX9_plan 0 = .ok (.aload_n 0, 1) := by decide +kernel
theorem dX9_plan_1 : decode cX9_plan 1 = .ok (.invokevirtual 206, 3) := by decide +kernel
theorem dX9_plan_4 : decode cX9_plan 4 = .ok (.iconst 0, 1) := by decide +kernel
theorem dX9_plan_5 : decode cX9_plan 5 = .ok (.istore_n 1, 1) := by decide +kernel
theorem dX9_plan_6 : decode cX9_plan 6 = .ok (.iload_n 1, 1) := by decide +kernel
theorem dX9_plan_7 : decode cX9_plan 7 = .ok (.bipush 9, 2) := by decide +kernel
theorem dX9_plan_9 : decode cX9_plan 9 = .ok (.if_icmp .ge 14, 3) := by decide +kernel
theorem dX9_plan_12 : decode cX9_plan 12 = .ok (.aload_n 0, 1) := by decide +kernel
theorem dX9_plan_13 : decode cX9_plan 13 = .ok (.iload_n 1, 1) := by decide +kernel
theorem dX9_plan_14 : decode cX9_plan 14 = .ok (.invokevirtual 209, 3) := by decide +kernel
theorem dX9_plan_17 : decode cX9_plan 17 = .ok (.iinc 1 1, 3) := by decide +kernel
theorem dX9_plan_20 : decode cX9_plan 20 = .ok (.goto (-14), 3) := by decide +kernel
theorem dX9_plan_23 : decode cX9_plan 23 = .ok (.aload_n 0, 1) := by decide +kernel
theorem dX9_plan_24 : decode cX9_plan 24 = .ok (.invokevirtual 199, 3) := by decide +kernel
theorem dX9_plan_27 : decode cX9_plan 27 = .ok (.istore_n 1, 1) := by decide +kernel
theorem dX9_plan_28 : decode cX9_plan 28 = .ok (.aload_n 0, 1) := by decide +kernel
theorem dX9_plan_29 : decode cX9_plan 29 = .ok (.aload_n 0, 1) := by decide +kernel
theorem dX9_plan_30 : decode cX9_plan 30 = .ok (.getfield 86, 3) := by decide +kernel
theorem dX9_plan_33 : decode cX9_plan 33 = .ok (.iload_n 1, 1) := by decide +kernel
theorem dX9_plan_34 : decode cX9_plan 34 = .ok (.iaload, 1) := by decide +kernel
theorem dX9_plan_35 : decode cX9_plan 35 = .ok (.putfield 212, 3) := by decide +kernel
theorem dX9_plan_38 : decode cX9_plan 38 = .ok (.aload_n 0, 1) := by decide +kernel
theorem dX9_plan_39 : decode cX9_plan 39 = .ok (.getfield 92, 3) := by decide +kernel
theorem dX9_plan_42 : decode cX9_plan 42 = .ok (.iload_n 1, 1) := by decide +kernel
theorem dX9_plan_43 : decode cX9_plan 43 = .ok (.iaload, 1) := by decide +kernel
theorem dX9_plan_44 : decode cX9_plan 44 = .ok (.istore_n 2, 1) := by decide +kernel
theorem dX9_plan_45 : decode cX9_plan 45 = .ok (.iload_n 1, 1) := by decide +kernel
theorem dX9_plan_46 : decode cX9_plan 46 = .ok (.ifCond .eq 43, 3) := by decide +kernel
theorem dX9_plan_49 : decode cX9_plan 49 = .ok (.aload_n 0, 1) := by decide +kernel
theorem dX9_plan_50 : decode cX9_plan 50 = .ok (.getfield 95, 3) := by decide +kernel
theorem dX9_plan_53 : decode cX9_plan 53 = .ok (.iload_n 1, 1) := by decide +kernel
theorem dX9_plan_54 : decode cX9_plan 54 = .ok (.iaload, 1) := by decide +kernel
theorem dX9_plan_55 : decode cX9_plan 55 = .ok (.istore_n 3, 1) := by decide +kernel
theorem dX9_plan_56 : decode cX9_plan 56 = .ok (.iload_n 3, 1) := by decide +kernel
theorem dX9_plan_57 : decode cX9_plan 57 = .ok (.ifCond .ne 12, 3) := by decide +kernel
theorem dX9_plan_60 : decode cX9_plan 60 = .ok (.iload_n 1, 1) := by decide +kernel
theorem dX9_plan_61 : decode cX9_plan 61 = .ok (.iload_n 1, 1) := by decide +kernel
theorem dX9_plan_62 : decode cX9_plan 62 = .ok (.iconst 1, 1) := by decide +kernel
theorem dX9_plan_63 : decode cX9_plan 63 = .ok (.isub, 1) := by decide +kernel
theorem dX9_plan_64 : decode cX9_plan 64 = .ok (.iand, 1) := by decide +kernel
theorem dX9_plan_65 : decode cX9_plan 65 = .ok (.istore_n 1, 1) := by decide +kernel
theorem dX9_plan_66 : decode cX9_plan 66 = .ok (.goto 20, 3) := by decide +kernel
theorem dX9_plan_69 : decode cX9_plan 69 = .ok (.aload_n 0, 1) := by decide +kernel
theorem dX9_plan_70 : decode cX9_plan 70 = .ok (.iload_n 3, 1) := by decide +kernel
theorem dX9_plan_71 : decode cX9_plan 71 = .ok (.aload_n 0, 1) := by decide +kernel
theorem dX9_plan_72 : decode cX9_plan 72 = .ok (.getfield 80, 3) := by decide +kernel
theorem dX9_plan_75 : decode cX9_plan 75 = .ok (.iload_n 3, 1) := by decide +kernel
theorem dX9_plan_76 : decode cX9_plan 76 = .ok (.iaload, 1) := by decide +kernel
theorem dX9_plan_77 : decode cX9_plan 77 = .ok (.invokevirtual 215, 3) := by decide +kernel
theorem dX9_plan_80 : decode cX9_plan 80 = .ok (.iload_n 1, 1) := by decide +kernel
theorem dX9_plan_81 : decode cX9_plan 81 = .ok (.iload_n 3, 1) := by decide +kernel
theorem dX9_plan_82 : decode cX9_plan 82 = .ok (.iconst (-1), 1) := by decide +kernel
theorem dX9_plan_83 : decode cX9_plan 83 = .ok (.ixor, 1) := by decide +kernel
theorem dX9_plan_84 : decode cX9_plan 84 = .ok (.iand, 1) := by decide +kernel
theorem dX9_plan_85 : decode cX9_plan 85 = .ok (.istore_n 1, 1) := by decide +kernel
theorem dX9_plan_86 : decode cX9_plan 86 = .ok (.goto (-41), 3) := by decide +kernel
theorem dX9_plan_89 : decode cX9_plan 89 = .ok (.aload_n 0, 1) := by decide +kernel
theorem dX9_plan_90 : decode cX9_plan 90 = .ok (.iconst 1, 1) := by decide +kernel
theorem dX9_plan_91 : decode cX9_plan 91 = .ok (.putfield 219, 3) := by decide +kernel
theorem dX9_plan_94 : decode cX9_plan 94 = .ok (.iload_n 2, 1) := by decide +kernel
theorem dX9_plan_95 : decode cX9_plan 95 = .ok (.ireturn, 1) := by decide +kernel
theorem dX9_isFirst_0 : decode cX9_isFirst 0 = .ok (.aload_n 0, 1) := by decide +kernel
theorem dX9_isFirst_1 : decode cX9_isFirst 1 = .ok (.getfield 101, 3) := by decide +kernel
theorem dX9_isFirst_4 : decode cX9_isFirst 4 = .ok (.iload_n 1, 1) := by decide +kernel
theorem dX9_isFirst_5 : decode cX9_isFirst 5 = .ok (.iaload, 1) := by decide +kernel
theorem dX9_isFirst_6 : decode cX9_isFirst 6 = .ok (.ifCond .eq 27, 3) := by decide +kernel
theorem dX9_isFirst_9 : decode cX9_isFirst 9 = .ok (.aload_n 0, 1) := by decide +kernel
theorem dX9_isFirst_10 : decode cX9_isFirst 10 = .ok (.getfield 101, 3) := by decide +kernel
theorem dX9_isFirst_13 : decode cX9_isFirst 13 = .ok (.iload_n 1, 1) := by decide +kernel
theorem dX9_isFirst_14 : decode cX9_isFirst 14 = .ok (.iaload, 1) := by decide +kernel
theorem dX9_isFirst_15 : decode cX9_isFirst 15 = .ok (.aload_n 0, 1) := by decide +kernel
theorem dX9_isFirst_16 : decode cX9_isFirst 16 = .ok (.getfield 101, 3) := by decide +kernel
theorem dX9_isFirst_19 : decode cX9_isFirst 19 = .ok (.iload_n 1, 1) := by decide +kernel
theorem dX9_isFirst_20 : decode cX9_isFirst 20 = .ok (.iaload, 1) := by decide +kernel
theorem dX9_isFirst_21 : decode cX9_isFirst 21 = .ok (.ineg, 1) := by decide +kernel
theorem dX9_isFirst_22 : decode cX9_isFirst 22 = .ok (.iand, 1) := by decide +kernel
theorem dX9_isFirst_23 : decode cX9_isFirst 23 = .ok (.iconst 1, 1) := by decide +kernel
theorem dX9_isFirst_24 : decode cX9_isFirst 24 = .ok (.iload_n 1, 1) := by decide +kernel
theorem dX9_isFirst_25 : decode cX9_isFirst 25 = .ok (.ishl, 1) := by decide +kernel
theorem dX9_isFirst_26 : decode cX9_isFirst 26 = .ok (.if_icmp .ne 7, 3) := by decide +kernel
theorem dX9_isFirst_29 : decode cX9_isFirst 29 = .ok (.iconst 1, 1) := by decide +kernel
theorem dX9_isFirst_30 : decode cX9_isFirst 30 = .ok (.goto 4, 3) := by decide +kernel
theorem dX9_isFirst_33 : decode cX9_isFirst 33 = .ok (.iconst 0, 1) := by decide +kernel
theorem dX9_isFirst_34 : decode cX9_isFirst 34 = .ok (.ireturn, 1) := by decide +kernel
theorem dX9_planned_0 : decode cX9_planned 0 = .ok (.iconst 0, 1) := by decide +kernel
theorem dX9_planned_1 : decode cX9_planned 1 = .ok (.istore_n 2, 1) := by decide +kernel
theorem dX9_planned_2 : decode cX9_planned 2 = .ok (.iconst 0, 1) := by decide +kernel
theorem dX9_planned_3 : decode cX9_planned 3 = .ok (.istore_n 3, 1) := by decide +kernel
theorem dX9_planned_4 : decode cX9_planned 4 = .ok (.iload_n 3, 1) := by decide +kernel
theorem dX9_planned_5 : decode cX9_planned 5 = .ok (.aload_n 0, 1) := by decide +kernel
theorem dX9_planned_6 : decode cX9_planned 6 = .ok (.getfield 143, 3) := by decide +kernel
theorem dX9_planned_9 : decode cX9_planned 9 = .ok (.if_icmp .ge 59, 3) := by decide +kernel
theorem dX9_planned_12 : decode cX9_planned 12 = .ok (.iload_n 1, 1) := by decide +kernel
theorem dX9_planned_13 : decode cX9_planned 13 = .ok (.iconst 3, 1) := by decide +kernel
theorem dX9_planned_14 : decode cX9_planned 14 = .ok (.if_icmp .ne 23, 3) := by decide +kernel
theorem dX9_planned_17 : decode cX9_planned 17 = .ok (.iload_n 2, 1) := by decide +kernel
theorem dX9_planned_18 : decode cX9_planned 18 = .ok (.aload_n 0, 1) := by decide +kernel
theorem dX9_planned_19 : decode cX9_planned 19 = .ok (.getfield 101, 3) := by decide +kernel
theorem dX9_planned_22 : decode cX9_planned 22 = .ok (.iload_n 3, 1) := by decide +kernel
theorem dX9_planned_23 : decode cX9_planned 23 = .ok (.iaload, 1) := by decide +kernel
theorem dX9_planned_24 : decode cX9_planned 24 = .ok (.ifCond .eq 7, 3) := by decide +kernel
theorem dX9_planned_27 : decode cX9_planned 27 = .ok (.iconst 1, 1) := by decide +kernel
theorem dX9_planned_28 : decode cX9_planned 28 = .ok (.goto 4, 3) := by decide +kernel
theorem dX9_planned_31 : decode cX9_planned 31 = .ok (.iconst 0, 1) := by decide +kernel
theorem dX9_planned_32 : decode cX9_planned 32 = .ok (.iadd, 1) := by decide +kernel
theorem dX9_planned_33 : decode cX9_planned 33 = .ok (.istore_n 2, 1) := by decide +kernel
theorem dX9_planned_34 : decode cX9_planned 34 = .ok (.goto 28, 3) := by decide +kernel
theorem dX9_planned_37 : decode cX9_planned 37 = .ok (.aload_n 0, 1) := by decide +kernel
theorem dX9_planned_38 : decode cX9_planned 38 = .ok (.iload_n 3, 1) := by decide +kernel
theorem dX9_planned_39 : decode cX9_planned 39 = .ok (.invokevirtual 222, 3) := by decide +kernel
theorem dX9_planned_42 : decode cX9_planned 42 = .ok (.ifCond .eq 20, 3) := by decide +kernel
theorem dX9_planned_45 : decode cX9_planned 45 = .ok (.iload_n 2, 1) := by decide +kernel
theorem dX9_planned_46 : decode cX9_planned 46 = .ok (.iload_n 1, 1) := by decide +kernel
theorem dX9_planned_47 : decode cX9_planned 47 = .ok (.ifCond .ne 7, 3) := by decide +kernel
theorem dX9_planned_50 : decode cX9_planned 50 = .ok (.iconst 1, 1) := by decide +kernel
theorem dX9_planned_51 : decode cX9_planned 51 = .ok (.goto 9, 3) := by decide +kernel
theorem dX9_planned_54 : decode cX9_planned 54 = .ok (.aload_n 0, 1) := by decide +kernel
theorem dX9_planned_55 : decode cX9_planned 55 = .ok (.getfield 113, 3) := by decide +kernel
theorem dX9_planned_58 : decode cX9_planned 58 = .ok (.iload_n 3, 1) := by decide +kernel
theorem dX9_planned_59 : decode cX9_planned 59 = .ok (.iaload, 1) := by decide +kernel
theorem dX9_planned_60 : decode cX9_planned 60 = .ok (.iadd, 1) := by decide +kernel
theorem dX9_planned_61 : decode cX9_planned 61 = .ok (.istore_n 2, 1) := by decide +kernel
theorem dX9_planned_62 : decode cX9_planned 62 = .ok (.iinc 3 1, 3) := by decide +kernel
theorem dX9_planned_65 : decode cX9_planned 65 = .ok (.goto (-61), 3) := by decide +kernel
theorem dX9_planned_68 : decode cX9_planned 68 = .ok (.iload_n 2, 1) := by decide +kernel
theorem dX9_planned_69 : decode cX9_planned 69 = .ok (.ireturn, 1) := by decide +kernel
theorem dX9_planOf_0 : decode cX9_planOf 0 = .ok (.aload_n 0, 1) := by decide +kernel
theorem dX9_planOf_1 : decode cX9_planOf 1 = .ok (.getfield 219, 3) := by decide +kernel
theorem dX9_planOf_4 : decode cX9_planOf 4 = .ok (.ifCond .ne 10, 3) := by decide +kernel
theorem dX9_planOf_7 : decode cX9_planOf 7 = .ok (.aload_n 0, 1) := by decide +kernel
theorem dX9_planOf_8 : decode cX9_planOf 8 = .ok (.bipush (-3), 2) := by decide +kernel
theorem dX9_planOf_10 : decode cX9_planOf 10 = .ok (.invokevirtual 136, 3) := by decide +kernel
theorem dX9_planOf_13 : decode cX9_planOf 13 = .ok (.ireturn, 1) := by decide +kernel
theorem dX9_planOf_14 : decode cX9_planOf 14 = .ok (.iload_n 1, 1) := by decide +kernel
theorem dX9_planOf_15 : decode cX9_planOf 15 = .ok (.iconst 4, 1) := by decide +kernel
theorem dX9_planOf_16 : decode cX9_planOf 16 = .ok (.invokestatic 132, 3) := by decide +kernel
theorem dX9_planOf_19 : decode cX9_planOf 19 = .ok (.ifCond .ne 10, 3) := by decide +kernel
theorem dX9_planOf_22 : decode cX9_planOf 22 = .ok (.aload_n 0, 1) := by decide +kernel
theorem dX9_planOf_23 : decode cX9_planOf 23 = .ok (.bipush (-2), 2) := by decide +kernel
theorem dX9_planOf_25 : decode cX9_planOf 25 = .ok (.invokevirtual 136, 3) := by decide +kernel
theorem dX9_planOf_28 : decode cX9_planOf 28 = .ok (.ireturn, 1) := by decide +kernel
theorem dX9_planOf_29 : decode cX9_planOf 29 = .ok (.iload_n 1, 1) := by decide +kernel
theorem dX9_planOf_30 : decode cX9_planOf 30 = .ok (.iconst 1, 1) := by decide +kernel
theorem dX9_planOf_31 : decode cX9_planOf 31 = .ok (.if_icmp .ne 10, 3) := by decide +kernel
theorem dX9_planOf_34 : decode cX9_planOf 34 = .ok (.aload_n 0, 1) := by decide +kernel
theorem dX9_planOf_35 : decode cX9_planOf 35 = .ok (.getfield 212, 3) := by decide +kernel
theorem dX9_planOf_38 : decode cX9_planOf 38 = .ok (.goto 8, 3) := by decide +kernel
theorem dX9_planOf_41 : decode cX9_planOf 41 = .ok (.aload_n 0, 1) := by decide +kernel
theorem dX9_planOf_42 : decode cX9_planOf 42 = .ok (.iload_n 1, 1) := by decide +kernel
theorem dX9_planOf_43 : decode cX9_planOf 43 = .ok (.invokevirtual 225, 3) := by decide +kernel
theorem dX9_planOf_46 : decode cX9_planOf 46 = .ok (.ireturn, 1) := by decide +kernel
theorem dX9_poolOf_0 : decode cX9_poolOf 0 = .ok (.aload_n 0, 1) := by decide +kernel
theorem dX9_poolOf_1 : decode cX9_poolOf 1 = .ok (.getfield 219, 3) := by decide +kernel
theorem dX9_poolOf_4 : decode cX9_poolOf 4 = .ok (.ifCond .ne 10, 3) := by decide +kernel
theorem dX9_poolOf_7 : decode cX9_poolOf 7 = .ok (.aload_n 0, 1) := by decide +kernel
theorem dX9_poolOf_8 : decode cX9_poolOf 8 = .ok (.bipush (-3), 2) := by decide +kernel
theorem dX9_poolOf_10 : decode cX9_poolOf 10 = .ok (.invokevirtual 136, 3) := by decide +kernel
theorem dX9_poolOf_13 : decode cX9_poolOf 13 = .ok (.ireturn, 1) := by decide +kernel
theorem dX9_poolOf_14 : decode cX9_poolOf 14 = .ok (.aload_n 0, 1) := by decide +kernel
theorem dX9_poolOf_15 : decode cX9_poolOf 15 = .ok (.iload_n 1, 1) := by decide +kernel
theorem dX9_poolOf_16 : decode cX9_poolOf 16 = .ok (.invokevirtual 147, 3) := by decide +kernel
theorem dX9_poolOf_19 : decode cX9_poolOf 19 = .ok (.ifCond .ne 9, 3) := by decide +kernel
theorem dX9_poolOf_22 : decode cX9_poolOf 22 = .ok (.aload_n 0, 1) := by decide +kernel
theorem dX9_poolOf_23 : decode cX9_poolOf 23 = .ok (.iconst (-1), 1) := by decide +kernel
theorem dX9_poolOf_24 : decode cX9_poolOf 24 = .ok (.invokevirtual 136, 3) := by decide +kernel
theorem dX9_poolOf_27 : decode cX9_poolOf 27 = .ok (.ireturn, 1) := by decide +kernel
theorem dX9_poolOf_28 : decode cX9_poolOf 28 = .ok (.iload_n 2, 1) := by decide +kernel
theorem dX9_poolOf_29 : decode cX9_poolOf 29 = .ok (.tableswitch 101 0 3 #[31, 38, 59, 80], 31) := by decide +kernel
theorem dX9_poolOf_60 : decode cX9_poolOf 60 = .ok (.aload_n 0, 1) := by decide +kernel
theorem dX9_poolOf_61 : decode cX9_poolOf 61 = .ok (.getfield 101, 3) := by decide +kernel
theorem dX9_poolOf_64 : decode cX9_poolOf 64 = .ok (.iload_n 1, 1) := by decide +kernel
theorem dX9_poolOf_65 : decode cX9_poolOf 65 = .ok (.iaload, 1) := by decide +kernel
theorem dX9_poolOf_66 : decode cX9_poolOf 66 = .ok (.ireturn, 1) := by decide +kernel
theorem dX9_poolOf_67 : decode cX9_poolOf 67 = .ok (.aload_n 0, 1) := by decide +kernel
theorem dX9_poolOf_68 : decode cX9_poolOf 68 = .ok (.getfield 101, 3) := by decide +kernel
theorem dX9_poolOf_71 : decode cX9_poolOf 71 = .ok (.iload_n 1, 1) := by decide +kernel
theorem dX9_poolOf_72 : decode cX9_poolOf 72 = .ok (.iaload, 1) := by decide +kernel
theorem dX9_poolOf_73 : decode cX9_poolOf 73 = .ok (.ifCond .ne 8, 3) := by decide +kernel
theorem dX9_poolOf_76 : decode cX9_poolOf 76 = .ok (.bipush (-9), 2) := by decide +kernel
theorem dX9_poolOf_78 : decode cX9_poolOf 78 = .ok (.goto 9, 3) := by decide +kernel
theorem dX9_poolOf_81 : decode cX9_poolOf 81 = .ok (.aload_n 0, 1) := by decide +kernel
theorem dX9_poolOf_82 : decode cX9_poolOf 82 = .ok (.getfield 104, 3) := by decide +kernel
theorem dX9_poolOf_85 : decode cX9_poolOf 85 = .ok (.iload_n 1, 1) := by decide +kernel
theorem dX9_poolOf_86 : decode cX9_poolOf 86 = .ok (.iaload, 1) := by decide +kernel
theorem dX9_poolOf_87 : decode cX9_poolOf 87 = .ok (.ireturn, 1) := by decide +kernel
theorem dX9_poolOf_88 : decode cX9_poolOf 88 = .ok (.aload_n 0, 1) := by decide +kernel
theorem dX9_poolOf_89 : decode cX9_poolOf 89 = .ok (.getfield 101, 3) := by decide +kernel
theorem dX9_poolOf_92 : decode cX9_poolOf 92 = .ok (.iload_n 1, 1) := by decide +kernel
theorem dX9_poolOf_93 : decode cX9_poolOf 93 = .ok (.iaload, 1) := by decide +kernel
theorem dX9_poolOf_94 : decode cX9_poolOf 94 = .ok (.ifCond .ne 8, 3) := by decide +kernel
theorem dX9_poolOf_97 : decode cX9_poolOf 97 = .ok (.bipush (-9), 2) := by decide +kernel
theorem dX9_poolOf_99 : decode cX9_poolOf 99 = .ok (.goto 9, 3) := by decide +kernel
theorem dX9_poolOf_102 : decode cX9_poolOf 102 = .ok (.aload_n 0, 1) := by decide +kernel
theorem dX9_poolOf_103 : decode cX9_poolOf 103 = .ok (.getfield 107, 3) := by decide +kernel
theorem dX9_poolOf_106 : decode cX9_poolOf 106 = .ok (.iload_n 1, 1) := by decide +kernel
theorem dX9_poolOf_107 : decode cX9_poolOf 107 = .ok (.iaload, 1) := by decide +kernel
theorem dX9_poolOf_108 : decode cX9_poolOf 108 = .ok (.ireturn, 1) := by decide +kernel
theorem dX9_poolOf_109 : decode cX9_poolOf 109 = .ok (.aload_n 0, 1) := by decide +kernel
theorem dX9_poolOf_110 : decode cX9_poolOf 110 = .ok (.getfield 101, 3) := by decide +kernel
theorem dX9_poolOf_113 : decode cX9_poolOf 113 = .ok (.iload_n 1, 1) := by decide +kernel
theorem dX9_poolOf_114 : decode cX9_poolOf 114 = .ok (.iaload, 1) := by decide +kernel
theorem dX9_poolOf_115 : decode cX9_poolOf 115 = .ok (.ifCond .ne 8, 3) := by decide +kernel
theorem dX9_poolOf_118 : decode cX9_poolOf 118 = .ok (.bipush (-9), 2) := by decide +kernel
theorem dX9_poolOf_120 : decode cX9_poolOf 120 = .ok (.goto 9, 3) := by decide +kernel
theorem dX9_poolOf_123 : decode cX9_poolOf 123 = .ok (.aload_n 0, 1) := by decide +kernel
theorem dX9_poolOf_124 : decode cX9_poolOf 124 = .ok (.getfield 110, 3) := by decide +kernel
theorem dX9_poolOf_127 : decode cX9_poolOf 127 = .ok (.iload_n 1, 1) := by decide +kernel
theorem dX9_poolOf_128 : decode cX9_poolOf 128 = .ok (.iaload, 1) := by decide +kernel
theorem dX9_poolOf_129 : decode cX9_poolOf 129 = .ok (.ireturn, 1) := by decide +kernel
theorem dX9_poolOf_130 : decode cX9_poolOf 130 = .ok (.aload_n 0, 1) := by decide +kernel
theorem dX9_poolOf_131 : decode cX9_poolOf 131 = .ok (.bipush (-2), 2) := by decide +kernel
theorem dX9_poolOf_133 : decode cX9_poolOf 133 = .ok (.invokevirtual 136, 3) := by decide +kernel
theorem dX9_poolOf_136 : decode cX9_poolOf 136 = .ok (.ireturn, 1) := by decide +kernel
theorem dX9_same_0 : decode cX9_same 0 = .ok (.aload_n 0, 1) := by decide +kernel
theorem dX9_same_1 : decode cX9_same 1 = .ok (.getfield 219, 3) := by decide +kernel
theorem dX9_same_4 : decode cX9_same 4 = .ok (.ifCond .ne 10, 3) := by decide +kernel
theorem dX9_same_7 : decode cX9_same 7 = .ok (.aload_n 0, 1) := by decide +kernel
theorem dX9_same_8 : decode cX9_same 8 = .ok (.bipush (-3), 2) := by decide +kernel
theorem dX9_same_10 : decode cX9_same 10 = .ok (.invokevirtual 136, 3) := by decide +kernel
theorem dX9_same_13 : decode cX9_same 13 = .ok (.ireturn, 1) := by decide +kernel
theorem dX9_same_14 : decode cX9_same 14 = .ok (.aload_n 0, 1) := by decide +kernel
theorem dX9_same_15 : decode cX9_same 15 = .ok (.invokevirtual 206, 3) := by decide +kernel
theorem dX9_same_18 : decode cX9_same 18 = .ok (.aload_n 0, 1) := by decide +kernel
theorem dX9_same_19 : decode cX9_same 19 = .ok (.invokevirtual 199, 3) := by decide +kernel
theorem dX9_same_22 : decode cX9_same 22 = .ok (.istore_n 1, 1) := by decide +kernel
theorem dX9_same_23 : decode cX9_same 23 = .ok (.aload_n 0, 1) := by decide +kernel
theorem dX9_same_24 : decode cX9_same 24 = .ok (.getfield 212, 3) := by decide +kernel
theorem dX9_same_27 : decode cX9_same 27 = .ok (.aload_n 0, 1) := by decide +kernel
theorem dX9_same_28 : decode cX9_same 28 = .ok (.getfield 86, 3) := by decide +kernel
theorem dX9_same_31 : decode cX9_same 31 = .ok (.iload_n 1, 1) := by decide +kernel
theorem dX9_same_32 : decode cX9_same 32 = .ok (.iaload, 1) := by decide +kernel
theorem dX9_same_33 : decode cX9_same 33 = .ok (.if_icmp .ne 35, 3) := by decide +kernel
theorem dX9_same_36 : decode cX9_same 36 = .ok (.aload_n 0, 1) := by decide +kernel
theorem dX9_same_37 : decode cX9_same 37 = .ok (.iconst 2, 1) := by decide +kernel
theorem dX9_same_38 : decode cX9_same 38 = .ok (.invokevirtual 225, 3) := by decide +kernel
theorem dX9_same_41 : decode cX9_same 41 = .ok (.aload_n 0, 1) := by decide +kernel
theorem dX9_same_42 : decode cX9_same 42 = .ok (.getfield 89, 3) := by decide +kernel
theorem dX9_same_45 : decode cX9_same 45 = .ok (.iload_n 1, 1) := by decide +kernel
theorem dX9_same_46 : decode cX9_same 46 = .ok (.iaload, 1) := by decide +kernel
theorem dX9_same_47 : decode cX9_same 47 = .ok (.if_icmp .ne 21, 3) := by decide +kernel
theorem dX9_same_50 : decode cX9_same 50 = .ok (.aload_n 0, 1) := by decide +kernel
theorem dX9_same_51 : decode cX9_same 51 = .ok (.iconst 0, 1) := by decide +kernel
theorem dX9_same_52 : decode cX9_same 52 = .ok (.invokevirtual 225, 3) := by decide +kernel
theorem dX9_same_55 : decode cX9_same 55 = .ok (.aload_n 0, 1) := by decide +kernel
theorem dX9_same_56 : decode cX9_same 56 = .ok (.getfield 92, 3) := by decide +kernel
theorem dX9_same_59 : decode cX9_same 59 = .ok (.iload_n 1, 1) := by decide +kernel
theorem dX9_same_60 : decode cX9_same 60 = .ok (.iaload, 1) := by decide +kernel
theorem dX9_same_61 : decode cX9_same 61 = .ok (.if_icmp .ne 7, 3) := by decide +kernel
theorem dX9_same_64 : decode cX9_same 64 = .ok (.iconst 1, 1) := by decide +kernel
theorem dX9_same_65 : decode cX9_same 65 = .ok (.goto 4, 3) := by decide +kernel
theorem dX9_same_68 : decode cX9_same 68 = .ok (.iconst 0, 1) := by decide +kernel
theorem dX9_same_69 : decode cX9_same 69 = .ok (.ireturn, 1) := by decide +kernel
theorem dX9_even_0 : decode cX9_even 0 = .ok (.aload_n 0, 1) := by decide +kernel
theorem dX9_even_1 : decode cX9_even 1 = .ok (.getfield 219, 3) := by decide +kernel
theorem dX9_even_4 : decode cX9_even 4 = .ok (.ifCond .ne 10, 3) := by decide +kernel
theorem dX9_even_7 : decode cX9_even 7 = .ok (.aload_n 0, 1) := by decide +kernel
theorem dX9_even_8 : decode cX9_even 8 = .ok (.bipush (-3), 2) := by decide +kernel
theorem dX9_even_10 : decode cX9_even 10 = .ok (.invokevirtual 136, 3) := by decide +kernel
theorem dX9_even_13 : decode cX9_even 13 = .ok (.ireturn, 1) := by decide +kernel
theorem dX9_even_14 : decode cX9_even 14 = .ok (.iconst 0, 1) := by decide +kernel
theorem dX9_even_15 : decode cX9_even 15 = .ok (.istore_n 1, 1) := by decide +kernel
theorem dX9_even_16 : decode cX9_even 16 = .ok (.iconst 0, 1) := by decide +kernel
theorem dX9_even_17 : decode cX9_even 17 = .ok (.istore_n 2, 1) := by decide +kernel
theorem dX9_even_18 : decode cX9_even 18 = .ok (.iload_n 2, 1) := by decide +kernel
theorem dX9_even_19 : decode cX9_even 19 = .ok (.aload_n 0, 1) := by decide +kernel
theorem dX9_even_20 : decode cX9_even 20 = .ok (.getfield 143, 3) := by decide +kernel
theorem dX9_even_23 : decode cX9_even 23 = .ok (.if_icmp .ge 80, 3) := by decide +kernel
theorem dX9_even_26 : decode cX9_even 26 = .ok (.aload_n 0, 1) := by decide +kernel
theorem dX9_even_27 : decode cX9_even 27 = .ok (.iload_n 2, 1) := by decide +kernel
theorem dX9_even_28 : decode cX9_even 28 = .ok (.invokevirtual 222, 3) := by decide +kernel
theorem dX9_even_31 : decode cX9_even 31 = .ok (.ifCond .eq 66, 3) := by decide +kernel
theorem dX9_even_34 : decode cX9_even 34 = .ok (.aload_n 0, 1) := by decide +kernel
theorem dX9_even_35 : decode cX9_even 35 = .ok (.aload_n 0, 1) := by decide +kernel
theorem dX9_even_36 : decode cX9_even 36 = .ok (.getfield 101, 3) := by decide +kernel
theorem dX9_even_39 : decode cX9_even 39 = .ok (.iload_n 2, 1) := by decide +kernel
theorem dX9_even_40 : decode cX9_even 40 = .ok (.iaload, 1) := by decide +kernel
theorem dX9_even_41 : decode cX9_even 41 = .ok (.invokevirtual 181, 3) := by decide +kernel
theorem dX9_even_44 : decode cX9_even 44 = .ok (.ifCond .eq 6, 3) := by decide +kernel
theorem dX9_even_47 : decode cX9_even 47 = .ok (.goto 50, 3) := by decide +kernel
theorem dX9_even_50 : decode cX9_even 50 = .ok (.aload_n 0, 1) := by decide +kernel
theorem dX9_even_51 : decode cX9_even 51 = .ok (.aload_n 0, 1) := by decide +kernel
theorem dX9_even_52 : decode cX9_even 52 = .ok (.getfield 101, 3) := by decide +kernel
theorem dX9_even_55 : decode cX9_even 55 = .ok (.iload_n 2, 1) := by decide +kernel
theorem dX9_even_56 : decode cX9_even 56 = .ok (.iaload, 1) := by decide +kernel
theorem dX9_even_57 : decode cX9_even 57 = .ok (.invokevirtual 196, 3) := by decide +kernel
theorem dX9_even_60 : decode cX9_even 60 = .ok (.istore_n 3, 1) := by decide +kernel
theorem dX9_even_61 : decode cX9_even 61 = .ok (.iload_n 3, 1) := by decide +kernel
theorem dX9_even_62 : decode cX9_even 62 = .ok (.ifCond .ge 6, 3) := by decide +kernel
theorem dX9_even_65 : decode cX9_even 65 = .ok (.goto 32, 3) := by decide +kernel
theorem dX9_even_68 : decode cX9_even 68 = .ok (.iload_n 1, 1) := by decide +kernel
theorem dX9_even_69 : decode cX9_even 69 = .ok (.iload_n 3, 1) := by decide +kernel
theorem dX9_even_70 : decode cX9_even 70 = .ok (.aload_n 0, 1) := by decide +kernel
theorem dX9_even_71 : decode cX9_even 71 = .ok (.getfield 104, 3) := by decide +kernel
theorem dX9_even_74 : decode cX9_even 74 = .ok (.iload_n 2, 1) := by decide +kernel
theorem dX9_even_75 : decode cX9_even 75 = .ok (.iaload, 1) := by decide +kernel
theorem dX9_even_76 : decode cX9_even 76 = .ok (.if_icmp .eq 7, 3) := by decide +kernel
theorem dX9_even_79 : decode cX9_even 79 = .ok (.iconst 1, 1) := by decide +kernel
theorem dX9_even_80 : decode cX9_even 80 = .ok (.goto 4, 3) := by decide +kernel
theorem dX9_even_83 : decode cX9_even 83 = .ok (.iconst 0, 1) := by decide +kernel
theorem dX9_even_84 : decode cX9_even 84 = .ok (.iadd, 1) := by decide +kernel
theorem dX9_even_85 : decode cX9_even 85 = .ok (.istore_n 1, 1) := by decide +kernel
theorem dX9_even_86 : decode cX9_even 86 = .ok (.aload_n 0, 1) := by decide +kernel
theorem dX9_even_87 : decode cX9_even 87 = .ok (.aload_n 0, 1) := by decide +kernel
theorem dX9_even_88 : decode cX9_even 88 = .ok (.getfield 101, 3) := by decide +kernel
theorem dX9_even_91 : decode cX9_even 91 = .ok (.iload_n 2, 1) := by decide +kernel
theorem dX9_even_92 : decode cX9_even 92 = .ok (.iaload, 1) := by decide +kernel
theorem dX9_even_93 : decode cX9_even 93 = .ok (.iload_n 3, 1) := by decide +kernel
theorem dX9_even_94 : decode cX9_even 94 = .ok (.invokevirtual 215, 3) := by decide +kernel
theorem dX9_even_97 : decode cX9_even 97 = .ok (.iinc 2 1, 3) := by decide +kernel
theorem dX9_even_100 : decode cX9_even 100 = .ok (.goto (-82), 3) := by decide +kernel
theorem dX9_even_103 : decode cX9_even 103 = .ok (.iload_n 1, 1) := by decide +kernel
theorem dX9_even_104 : decode cX9_even 104 = .ok (.ireturn, 1) := by decide +kernel
theorem dX9_mornings_0 : decode cX9_mornings 0 = .ok (.aload_n 0, 1) := by decide +kernel
theorem dX9_mornings_1 : decode cX9_mornings 1 = .ok (.getfield 219, 3) := by decide +kernel
theorem dX9_mornings_4 : decode cX9_mornings 4 = .ok (.ifCond .ne 10, 3) := by decide +kernel
theorem dX9_mornings_7 : decode cX9_mornings 7 = .ok (.aload_n 0, 1) := by decide +kernel
theorem dX9_mornings_8 : decode cX9_mornings 8 = .ok (.bipush (-3), 2) := by decide +kernel
theorem dX9_mornings_10 : decode cX9_mornings 10 = .ok (.invokevirtual 136, 3) := by decide +kernel
theorem dX9_mornings_13 : decode cX9_mornings 13 = .ok (.ireturn, 1) := by decide +kernel
theorem dX9_mornings_14 : decode cX9_mornings 14 = .ok (.iload_n 1, 1) := by decide +kernel
theorem dX9_mornings_15 : decode cX9_mornings 15 = .ok (.iconst 1, 1) := by decide +kernel
theorem dX9_mornings_16 : decode cX9_mornings 16 = .ok (.if_icmp .ge 10, 3) := by decide +kernel
theorem dX9_mornings_19 : decode cX9_mornings 19 = .ok (.aload_n 0, 1) := by decide +kernel
theorem dX9_mornings_20 : decode cX9_mornings 20 = .ok (.bipush (-4), 2) := by decide +kernel
theorem dX9_mornings_22 : decode cX9_mornings 22 = .ok (.invokevirtual 136, 3) := by decide +kernel
theorem dX9_mornings_25 : decode cX9_mornings 25 = .ok (.ireturn, 1) := by decide +kernel
theorem dX9_mornings_26 : decode cX9_mornings 26 = .ok (.iload_n 1, 1) := by decide +kernel
theorem dX9_mornings_27 : decode cX9_mornings 27 = .ok (.sipush 1000, 3) := by decide +kernel
theorem dX9_mornings_30 : decode cX9_mornings 30 = .ok (.if_icmp .le 10, 3) := by decide +kernel
theorem dX9_mornings_33 : decode cX9_mornings 33 = .ok (.aload_n 0, 1) := by decide +kernel
theorem dX9_mornings_34 : decode cX9_mornings 34 = .ok (.bipush (-6), 2) := by decide +kernel
theorem dX9_mornings_36 : decode cX9_mornings 36 = .ok (.invokevirtual 136, 3) := by decide +kernel
theorem dX9_mornings_39 : decode cX9_mornings 39 = .ok (.ireturn, 1) := by decide +kernel
theorem dX9_mornings_40 : decode cX9_mornings 40 = .ok (.iconst 0, 1) := by decide +kernel
theorem dX9_mornings_41 : decode cX9_mornings 41 = .ok (.istore_n 2, 1) := by decide +kernel
theorem dX9_mornings_42 : decode cX9_mornings 42 = .ok (.iload_n 2, 1) := by decide +kernel
theorem dX9_mornings_43 : decode cX9_mornings 43 = .ok (.aload_n 0, 1) := by decide +kernel
theorem dX9_mornings_44 : decode cX9_mornings 44 = .ok (.getfield 143, 3) := by decide +kernel
theorem dX9_mornings_47 : decode cX9_mornings 47 = .ok (.if_icmp .ge 52, 3) := by decide +kernel
theorem dX9_mornings_50 : decode cX9_mornings 50 = .ok (.aload_n 0, 1) := by decide +kernel
theorem dX9_mornings_51 : decode cX9_mornings 51 = .ok (.getfield 101, 3) := by decide +kernel
theorem dX9_mornings_54 : decode cX9_mornings 54 = .ok (.iload_n 2, 1) := by decide +kernel
theorem dX9_mornings_55 : decode cX9_mornings 55 = .ok (.iaload, 1) := by decide +kernel
theorem dX9_mornings_56 : decode cX9_mornings 56 = .ok (.invokestatic 155, 3) := by decide +kernel
theorem dX9_mornings_59 : decode cX9_mornings 59 = .ok (.iconst 1, 1) := by decide +kernel
theorem dX9_mornings_60 : decode cX9_mornings 60 = .ok (.isub, 1) := by decide +kernel
theorem dX9_mornings_61 : decode cX9_mornings 61 = .ok (.istore_n 3, 1) := by decide +kernel
theorem dX9_mornings_62 : decode cX9_mornings 62 = .ok (.iload_n 3, 1) := by decide +kernel
theorem dX9_mornings_63 : decode cX9_mornings 63 = .ok (.ifCond .le 30, 3) := by decide +kernel
theorem dX9_mornings_66 : decode cX9_mornings 66 = .ok (.aload_n 0, 1) := by decide +kernel
theorem dX9_mornings_67 : decode cX9_mornings 67 = .ok (.getfield 43, 3) := by decide +kernel
theorem dX9_mornings_70 : decode cX9_mornings 70 = .ok (.iload_n 2, 1) := by decide +kernel
theorem dX9_mornings_71 : decode cX9_mornings 71 = .ok (.dup2, 1) := by decide +kernel
theorem dX9_mornings_72 : decode cX9_mornings 72 = .ok (.iaload, 1) := by decide +kernel
theorem dX9_mornings_73 : decode cX9_mornings 73 = .ok (.aload_n 0, 1) := by decide +kernel
theorem dX9_mornings_74 : decode cX9_mornings 74 = .ok (.getfield 104, 3) := by decide +kernel
theorem dX9_mornings_77 : decode cX9_mornings 77 = .ok (.iload_n 2, 1) := by decide +kernel
theorem dX9_mornings_78 : decode cX9_mornings 78 = .ok (.iaload, 1) := by decide +kernel
theorem dX9_mornings_79 : decode cX9_mornings 79 = .ok (.iload_n 2, 1) := by decide +kernel
theorem dX9_mornings_80 : decode cX9_mornings 80 = .ok (.if_icmp .ne 9, 3) := by decide +kernel
theorem dX9_mornings_83 : decode cX9_mornings 83 = .ok (.iload_n 1, 1) := by decide +kernel
theorem dX9_mornings_84 : decode cX9_mornings 84 = .ok (.iload_n 3, 1) := by decide +kernel
theorem dX9_mornings_85 : decode cX9_mornings 85 = .ok (.imul, 1) := by decide +kernel
theorem dX9_mornings_86 : decode cX9_mornings 86 = .ok (.goto 5, 3) := by decide +kernel
theorem dX9_mornings_89 : decode cX9_mornings 89 = .ok (.iload_n 1, 1) := by decide +kernel
theorem dX9_mornings_90 : decode cX9_mornings 90 = .ok (.ineg, 1) := by decide +kernel
theorem dX9_mornings_91 : decode cX9_mornings 91 = .ok (.iadd, 1) := by decide +kernel
theorem dX9_mornings_92 : decode cX9_mornings 92 = .ok (.iastore, 1) := by decide +kernel
theorem dX9_mornings_93 : decode cX9_mornings 93 = .ok (.iinc 2 1, 3) := by decide +kernel
theorem dX9_mornings_96 : decode cX9_mornings 96 = .ok (.goto (-54), 3) := by decide +kernel
theorem dX9_mornings_99 : decode cX9_mornings 99 = .ok (.aload_n 0, 1) := by decide +kernel
theorem dX9_mornings_100 : decode cX9_mornings 100 = .ok (.dup, 1) := by decide +kernel
theorem dX9_mornings_101 : decode cX9_mornings 101 = .ok (.getfield 228, 3) := by decide +kernel
theorem dX9_mornings_104 : decode cX9_mornings 104 = .ok (.iload_n 1, 1) := by decide +kernel
theorem dX9_mornings_105 : decode cX9_mornings 105 = .ok (.iadd, 1) := by decide +kernel
theorem dX9_mornings_106 : decode cX9_mornings 106 = .ok (.putfield 228, 3) := by decide +kernel
theorem dX9_mornings_109 : decode cX9_mornings 109 = .ok (.iload_n 1, 1) := by decide +kernel
theorem dX9_mornings_110 : decode cX9_mornings 110 = .ok (.ireturn, 1) := by decide +kernel
theorem dX9_joins_0 : decode cX9_joins 0 = .ok (.aload_n 0, 1) := by decide +kernel
theorem dX9_joins_1 : decode cX9_joins 1 = .ok (.getfield 46, 3) := by decide +kernel
theorem dX9_joins_4 : decode cX9_joins 4 = .ok (.iload_n 1, 1) := by decide +kernel
theorem dX9_joins_5 : decode cX9_joins 5 = .ok (.baload, 1) := by decide +kernel
theorem dX9_joins_6 : decode cX9_joins 6 = .ok (.ifCond .eq 5, 3) := by decide +kernel
theorem dX9_joins_9 : decode cX9_joins 9 = .ok (.iconst 0, 1) := by decide +kernel
theorem dX9_joins_10 : decode cX9_joins 10 = .ok (.ireturn, 1) := by decide +kernel
theorem dX9_joins_11 : decode cX9_joins 11 = .ok (.iconst 0, 1) := by decide +kernel
theorem dX9_joins_12 : decode cX9_joins 12 = .ok (.istore_n 2, 1) := by decide +kernel
theorem dX9_joins_13 : decode cX9_joins 13 = .ok (.iload_n 2, 1) := by decide +kernel
theorem dX9_joins_14 : decode cX9_joins 14 = .ok (.aload_n 0, 1) := by decide +kernel
theorem dX9_joins_15 : decode cX9_joins 15 = .ok (.getfield 143, 3) := by decide +kernel
theorem dX9_joins_18 : decode cX9_joins 18 = .ok (.if_icmp .ge 77, 3) := by decide +kernel
theorem dX9_joins_21 : decode cX9_joins 21 = .ok (.aload_n 0, 1) := by decide +kernel
theorem dX9_joins_22 : decode cX9_joins 22 = .ok (.iload_n 2, 1) := by decide +kernel
theorem dX9_joins_23 : decode cX9_joins 23 = .ok (.invokevirtual 222, 3) := by decide +kernel
theorem dX9_joins_26 : decode cX9_joins 26 = .ok (.ifCond .ne 6, 3) := by decide +kernel
theorem dX9_joins_29 : decode cX9_joins 29 = .ok (.goto 60, 3) := by decide +kernel
theorem dX9_joins_32 : decode cX9_joins 32 = .ok (.aload_n 0, 1) := by decide +kernel
theorem dX9_joins_33 : decode cX9_joins 33 = .ok (.getfield 101, 3) := by decide +kernel
theorem dX9_joins_36 : decode cX9_joins 36 = .ok (.iload_n 2, 1) := by decide +kernel
theorem dX9_joins_37 : decode cX9_joins 37 = .ok (.iaload, 1) := by decide +kernel
theorem dX9_joins_38 : decode cX9_joins 38 = .ok (.iconst 1, 1) := by decide +kernel
theorem dX9_joins_39 : decode cX9_joins 39 = .ok (.iload_n 1, 1) := by decide +kernel
theorem dX9_joins_40 : decode cX9_joins 40 = .ok (.ishl, 1) := by decide +kernel
theorem dX9_joins_41 : decode cX9_joins 41 = .ok (.ior, 1) := by decide +kernel
theorem dX9_joins_42 : decode cX9_joins 42 = .ok (.istore_n 3, 1) := by decide +kernel
theorem dX9_joins_43 : decode cX9_joins 43 = .ok (.aload_n 0, 1) := by decide +kernel
theorem dX9_joins_44 : decode cX9_joins 44 = .ok (.iload_n 3, 1) := by decide +kernel
theorem dX9_joins_45 : decode cX9_joins 45 = .ok (.invokevirtual 178, 3) := by decide +kernel
theorem dX9_joins_48 : decode cX9_joins 48 = .ok (.ifCond .eq 41, 3) := by decide +kernel
theorem dX9_joins_51 : decode cX9_joins 51 = .ok (.aload_n 0, 1) := by decide +kernel
theorem dX9_joins_52 : decode cX9_joins 52 = .ok (.iload_n 3, 1) := by decide +kernel
theorem dX9_joins_53 : decode cX9_joins 53 = .ok (.invokevirtual 181, 3) := by decide +kernel
theorem dX9_joins_56 : decode cX9_joins 56 = .ok (.ifCond .ne 33, 3) := by decide +kernel
theorem dX9_joins_59 : decode cX9_joins 59 = .ok (.aload_n 0, 1) := by decide +kernel
theorem dX9_joins_60 : decode cX9_joins 60 = .ok (.iload_n 3, 1) := by decide +kernel
theorem dX9_joins_61 : decode cX9_joins 61 = .ok (.aload_n 0, 1) := by decide +kernel
theorem dX9_joins_62 : decode cX9_joins 62 = .ok (.getfield 104, 3) := by decide +kernel
theorem dX9_joins_65 : decode cX9_joins 65 = .ok (.iload_n 2, 1) := by decide +kernel
theorem dX9_joins_66 : decode cX9_joins 66 = .ok (.iaload, 1) := by decide +kernel
theorem dX9_joins_67 : decode cX9_joins 67 = .ok (.invokevirtual 187, 3) := by decide +kernel
theorem dX9_joins_70 : decode cX9_joins 70 = .ok (.ifCond .eq 6, 3) := by decide +kernel
theorem dX9_joins_73 : decode cX9_joins 73 = .ok (.goto 16, 3) := by decide +kernel
theorem dX9_joins_76 : decode cX9_joins 76 = .ok (.aload_n 0, 1) := by decide +kernel
theorem dX9_joins_77 : decode cX9_joins 77 = .ok (.iload_n 3, 1) := by decide +kernel
theorem dX9_joins_78 : decode cX9_joins 78 = .ok (.aload_n 0, 1) := by decide +kernel
theorem dX9_joins_79 : decode cX9_joins 79 = .ok (.getfield 104, 3) := by decide +kernel
theorem dX9_joins_82 : decode cX9_joins 82 = .ok (.iload_n 2, 1) := by decide +kernel
theorem dX9_joins_83 : decode cX9_joins 83 = .ok (.iaload, 1) := by decide +kernel
theorem dX9_joins_84 : decode cX9_joins 84 = .ok (.invokevirtual 215, 3) := by decide +kernel
theorem dX9_joins_87 : decode cX9_joins 87 = .ok (.iconst 1, 1) := by decide +kernel
theorem dX9_joins_88 : decode cX9_joins 88 = .ok (.ireturn, 1) := by decide +kernel
theorem dX9_joins_89 : decode cX9_joins 89 = .ok (.iinc 2 1, 3) := by decide +kernel
theorem dX9_joins_92 : decode cX9_joins 92 = .ok (.goto (-79), 3) := by decide +kernel
theorem dX9_joins_95 : decode cX9_joins 95 = .ok (.aload_n 0, 1) := by decide +kernel
theorem dX9_joins_96 : decode cX9_joins 96 = .ok (.iconst 1, 1) := by decide +kernel
theorem dX9_joins_97 : decode cX9_joins 97 = .ok (.iload_n 1, 1) := by decide +kernel
theorem dX9_joins_98 : decode cX9_joins 98 = .ok (.ishl, 1) := by decide +kernel
theorem dX9_joins_99 : decode cX9_joins 99 = .ok (.iload_n 1, 1) := by decide +kernel
theorem dX9_joins_100 : decode cX9_joins 100 = .ok (.invokevirtual 187, 3) := by decide +kernel
theorem dX9_joins_103 : decode cX9_joins 103 = .ok (.ifCond .eq 5, 3) := by decide +kernel
theorem dX9_joins_106 : decode cX9_joins 106 = .ok (.iconst 0, 1) := by decide +kernel
theorem dX9_joins_107 : decode cX9_joins 107 = .ok (.ireturn, 1) := by decide +kernel
theorem dX9_joins_108 : decode cX9_joins 108 = .ok (.aload_n 0, 1) := by decide +kernel
theorem dX9_joins_109 : decode cX9_joins 109 = .ok (.iconst 1, 1) := by decide +kernel
theorem dX9_joins_110 : decode cX9_joins 110 = .ok (.iload_n 1, 1) := by decide +kernel
theorem dX9_joins_111 : decode cX9_joins 111 = .ok (.ishl, 1) := by decide +kernel
theorem dX9_joins_112 : decode cX9_joins 112 = .ok (.iload_n 1, 1) := by decide +kernel
theorem dX9_joins_113 : decode cX9_joins 113 = .ok (.invokevirtual 215, 3) := by decide +kernel
theorem dX9_joins_116 : decode cX9_joins 116 = .ok (.iconst 1, 1) := by decide +kernel
theorem dX9_joins_117 : decode cX9_joins 117 = .ok (.ireturn, 1) := by decide +kernel
theorem dX9_fail_0 : decode cX9_fail 0 = .ok (.aload_n 0, 1) := by decide +kernel
theorem dX9_fail_1 : decode cX9_fail 1 = .ok (.getfield 219, 3) := by decide +kernel
theorem dX9_fail_4 : decode cX9_fail 4 = .ok (.ifCond .ne 10, 3) := by decide +kernel
theorem dX9_fail_7 : decode cX9_fail 7 = .ok (.aload_n 0, 1) := by decide +kernel
theorem dX9_fail_8 : decode cX9_fail 8 = .ok (.bipush (-3), 2) := by decide +kernel
theorem dX9_fail_10 : decode cX9_fail 10 = .ok (.invokevirtual 136, 3) := by decide +kernel
theorem dX9_fail_13 : decode cX9_fail 13 = .ok (.ireturn, 1) := by decide +kernel
theorem dX9_fail_14 : decode cX9_fail 14 = .ok (.aload_n 0, 1) := by decide +kernel
theorem dX9_fail_15 : decode cX9_fail 15 = .ok (.iload_n 1, 1) := by decide +kernel
theorem dX9_fail_16 : decode cX9_fail 16 = .ok (.invokevirtual 147, 3) := by decide +kernel
theorem dX9_fail_19 : decode cX9_fail 19 = .ok (.ifCond .ne 9, 3) := by decide +kernel
theorem dX9_fail_22 : decode cX9_fail 22 = .ok (.aload_n 0, 1) := by decide +kernel
theorem dX9_fail_23 : decode cX9_fail 23 = .ok (.iconst (-1), 1) := by decide +kernel
theorem dX9_fail_24 : decode cX9_fail 24 = .ok (.invokevirtual 136, 3) := by decide +kernel
theorem dX9_fail_27 : decode cX9_fail 27 = .ok (.ireturn, 1) := by decide +kernel
theorem dX9_fail_28 : decode cX9_fail 28 = .ok (.aload_n 0, 1) := by decide +kernel
theorem dX9_fail_29 : decode cX9_fail 29 = .ok (.getfield 50, 3) := by decide +kernel
theorem dX9_fail_32 : decode cX9_fail 32 = .ok (.iload_n 1, 1) := by decide +kernel
theorem dX9_fail_33 : decode cX9_fail 33 = .ok (.iconst 1, 1) := by decide +kernel
theorem dX9_fail_34 : decode cX9_fail 34 = .ok (.bastore, 1) := by decide +kernel
theorem dX9_fail_35 : decode cX9_fail 35 = .ok (.aload_n 0, 1) := by decide +kernel
theorem dX9_fail_36 : decode cX9_fail 36 = .ok (.invokevirtual 129, 3) := by decide +kernel
theorem dX9_fail_39 : decode cX9_fail 39 = .ok (.aload_n 0, 1) := by decide +kernel
theorem dX9_fail_40 : decode cX9_fail 40 = .ok (.getfield 101, 3) := by decide +kernel
theorem dX9_fail_43 : decode cX9_fail 43 = .ok (.iload_n 1, 1) := by decide +kernel
theorem dX9_fail_44 : decode cX9_fail 44 = .ok (.iaload, 1) := by decide +kernel
theorem dX9_fail_45 : decode cX9_fail 45 = .ok (.istore_n 2, 1) := by decide +kernel
theorem dX9_fail_46 : decode cX9_fail 46 = .ok (.iload_n 2, 1) := by decide +kernel
theorem dX9_fail_47 : decode cX9_fail 47 = .ok (.ifCond .eq 13, 3) := by decide +kernel
theorem dX9_fail_50 : decode cX9_fail 50 = .ok (.aload_n 0, 1) := by decide +kernel
theorem dX9_fail_51 : decode cX9_fail 51 = .ok (.getfield 104, 3) := by decide +kernel
theorem dX9_fail_54 : decode cX9_fail 54 = .ok (.iload_n 1, 1) := by decide +kernel
theorem dX9_fail_55 : decode cX9_fail 55 = .ok (.iaload, 1) := by decide +kernel
theorem dX9_fail_56 : decode cX9_fail 56 = .ok (.iload_n 1, 1) := by decide +kernel
theorem dX9_fail_57 : decode cX9_fail 57 = .ok (.if_icmp .eq 5, 3) := by decide +kernel
theorem dX9_fail_60 : decode cX9_fail 60 = .ok (.iconst 0, 1) := by decide +kernel
theorem dX9_fail_61 : decode cX9_fail 61 = .ok (.ireturn, 1) := by decide +kernel
theorem dX9_fail_62 : decode cX9_fail 62 = .ok (.iconst 0, 1) := by decide +kernel
theorem dX9_fail_63 : decode cX9_fail 63 = .ok (.istore_n 3, 1) := by decide +kernel
theorem dX9_fail_64 : decode cX9_fail 64 = .ok (.iload_n 3, 1) := by decide +kernel
theorem dX9_fail_65 : decode cX9_fail 65 = .ok (.aload_n 0, 1) := by decide +kernel
theorem dX9_fail_66 : decode cX9_fail 66 = .ok (.getfield 143, 3) := by decide +kernel
theorem dX9_fail_69 : decode cX9_fail 69 = .ok (.if_icmp .ge 23, 3) := by decide +kernel
theorem dX9_fail_72 : decode cX9_fail 72 = .ok (.iload_n 2, 1) := by decide +kernel
theorem dX9_fail_73 : decode cX9_fail 73 = .ok (.iload_n 3, 1) := by decide +kernel
theorem dX9_fail_74 : decode cX9_fail 74 = .ok (.ishr, 1) := by decide +kernel
theorem dX9_fail_75 : decode cX9_fail 75 = .ok (.iconst 1, 1) := by decide +kernel
theorem dX9_fail_76 : decode cX9_fail 76 = .ok (.iand, 1) := by decide +kernel
theorem dX9_fail_77 : decode cX9_fail 77 = .ok (.iconst 1, 1) := by decide +kernel
theorem dX9_fail_78 : decode cX9_fail 78 = .ok (.if_icmp .ne 8, 3) := by decide +kernel
theorem dX9_fail_81 : decode cX9_fail 81 = .ok (.aload_n 0, 1) := by decide +kernel
theorem dX9_fail_82 : decode cX9_fail 82 = .ok (.iload_n 3, 1) := by decide +kernel
theorem dX9_fail_83 : decode cX9_fail 83 = .ok (.invokevirtual 209, 3) := by decide +kernel
theorem dX9_fail_86 : decode cX9_fail 86 = .ok (.iinc 3 1, 3) := by decide +kernel
theorem dX9_fail_89 : decode cX9_fail 89 = .ok (.goto (-25), 3) := by decide +kernel
theorem dX9_fail_92 : decode cX9_fail 92 = .ok (.iconst 0, 1) := by decide +kernel
theorem dX9_fail_93 : decode cX9_fail 93 = .ok (.istore_n 3, 1) := by decide +kernel
theorem dX9_fail_94 : decode cX9_fail 94 = .ok (.iconst 0, 1) := by decide +kernel
theorem dX9_fail_95 : decode cX9_fail 95 = .ok (.istore 4, 2) := by decide +kernel
theorem dX9_fail_97 : decode cX9_fail 97 = .ok (.iload 4, 2) := by decide +kernel
theorem dX9_fail_99 : decode cX9_fail 99 = .ok (.aload_n 0, 1) := by decide +kernel
theorem dX9_fail_100 : decode cX9_fail 100 = .ok (.getfield 143, 3) := by decide +kernel
theorem dX9_fail_103 : decode cX9_fail 103 = .ok (.if_icmp .ge 31, 3) := by decide +kernel
theorem dX9_fail_106 : decode cX9_fail 106 = .ok (.iload_n 2, 1) := by decide +kernel
theorem dX9_fail_107 : decode cX9_fail 107 = .ok (.iload 4, 2) := by decide +kernel
theorem dX9_fail_109 : decode cX9_fail 109 = .ok (.ishr, 1) := by decide +kernel
theorem dX9_fail_110 : decode cX9_fail 110 = .ok (.iconst 1, 1) := by decide +kernel
theorem dX9_fail_111 : decode cX9_fail 111 = .ok (.iand, 1) := by decide +kernel
theorem dX9_fail_112 : decode cX9_fail 112 = .ok (.iconst 1, 1) := by decide +kernel
theorem dX9_fail_113 : decode cX9_fail 113 = .ok (.if_icmp .ne 15, 3) := by decide +kernel
theorem dX9_fail_116 : decode cX9_fail 116 = .ok (.aload_n 0, 1) := by decide +kernel
theorem dX9_fail_117 : decode cX9_fail 117 = .ok (.iload 4, 2) := by decide +kernel
theorem dX9_fail_119 : decode cX9_fail 119 = .ok (.invokevirtual 231, 3) := by decide +kernel
theorem dX9_fail_122 : decode cX9_fail 122 = .ok (.ifCond .ne 6, 3) := by decide +kernel
theorem dX9_fail_125 : decode cX9_fail 125 = .ok (.iinc 3 1, 3) := by decide +kernel
theorem dX9_fail_128 : decode cX9_fail 128 = .ok (.iinc 4 1, 3) := by decide +kernel
theorem dX9_fail_131 : decode cX9_fail 131 = .ok (.goto (-34), 3) := by decide +kernel
theorem dX9_fail_134 : decode cX9_fail 134 = .ok (.aload_n 0, 1) := by decide +kernel
theorem dX9_fail_135 : decode cX9_fail 135 = .ok (.dup, 1) := by decide +kernel
theorem dX9_fail_136 : decode cX9_fail 136 = .ok (.getfield 212, 3) := by decide +kernel
theorem dX9_fail_139 : decode cX9_fail 139 = .ok (.iload_n 3, 1) := by decide +kernel
theorem dX9_fail_140 : decode cX9_fail 140 = .ok (.iadd, 1) := by decide +kernel
theorem dX9_fail_141 : decode cX9_fail 141 = .ok (.putfield 212, 3) := by decide +kernel
theorem dX9_fail_144 : decode cX9_fail 144 = .ok (.iload_n 3, 1) := by decide +kernel
theorem dX9_fail_145 : decode cX9_fail 145 = .ok (.ireturn, 1) := by decide +kernel
theorem dX9_few_0 : decode cX9_few 0 = .ok (.aload_n 0, 1) := by decide +kernel
theorem dX9_few_1 : decode cX9_few 1 = .ok (.invokevirtual 206, 3) := by decide +kernel
theorem dX9_few_4 : decode cX9_few 4 = .ok (.aload_n 0, 1) := by decide +kernel
theorem dX9_few_5 : decode cX9_few 5 = .ok (.getfield 98, 3) := by decide +kernel
theorem dX9_few_8 : decode cX9_few 8 = .ok (.aload_n 0, 1) := by decide +kernel
theorem dX9_few_9 : decode cX9_few 9 = .ok (.invokevirtual 199, 3) := by decide +kernel
theorem dX9_few_12 : decode cX9_few 12 = .ok (.iaload, 1) := by decide +kernel
theorem dX9_few_13 : decode cX9_few 13 = .ok (.istore_n 1, 1) := by decide +kernel
theorem dX9_few_14 : decode cX9_few 14 = .ok (.iload_n 1, 1) := by decide +kernel
theorem dX9_few_15 : decode cX9_few 15 = .ok (.ldc 151, 2) := by decide +kernel
theorem dX9_few_17 : decode cX9_few 17 = .ok (.if_icmp .lt 8, 3) := by decide +kernel
theorem dX9_few_20 : decode cX9_few 20 = .ok (.bipush (-9), 2) := by decide +kernel
theorem dX9_few_22 : decode cX9_few 22 = .ok (.goto 4, 3) := by decide +kernel
theorem dX9_few_25 : decode cX9_few 25 = .ok (.iload_n 1, 1) := by decide +kernel
theorem dX9_few_26 : decode cX9_few 26 = .ok (.ireturn, 1) := by decide +kernel
theorem dX9_personOf_0 : decode cX9_personOf 0 = .ok (.aload_n 0, 1) := by decide +kernel
theorem dX9_personOf_1 : decode cX9_personOf 1 = .ok (.iload_n 1, 1) := by decide +kernel
theorem dX9_personOf_2 : decode cX9_personOf 2 = .ok (.invokevirtual 147, 3) := by decide +kernel
theorem dX9_personOf_5 : decode cX9_personOf 5 = .ok (.ifCond .ne 9, 3) := by decide +kernel
theorem dX9_personOf_8 : decode cX9_personOf 8 = .ok (.aload_n 0, 1) := by decide +kernel
theorem dX9_personOf_9 : decode cX9_personOf 9 = .ok (.iconst (-1), 1) := by decide +kernel
theorem dX9_personOf_10 : decode cX9_personOf 10 = .ok (.invokevirtual 136, 3) := by decide +kernel
theorem dX9_personOf_13 : decode cX9_personOf 13 = .ok (.ireturn, 1) := by decide +kernel
theorem dX9_personOf_14 : decode cX9_personOf 14 = .ok (.iload_n 2, 1) := by decide +kernel
theorem dX9_personOf_15 : decode cX9_personOf 15 = .ok (.tableswitch 174 0 11 #[61, 68, 75, 82, 89, 96, 103, 110, 125, 140, 147, 164], 61) := by decide +kernel
theorem dX9_personOf_76 : decode cX9_personOf 76 = .ok (.aload_n 0, 1) := by decide +kernel
theorem dX9_personOf_77 : decode cX9_personOf 77 = .ok (.getfield 19, 3) := by decide +kernel
theorem dX9_personOf_80 : decode cX9_personOf 80 = .ok (.iload_n 1, 1) := by decide +kernel
theorem dX9_personOf_81 : decode cX9_personOf 81 = .ok (.iaload, 1) := by decide +kernel
theorem dX9_personOf_82 : decode cX9_personOf 82 = .ok (.ireturn, 1) := by decide +kernel
theorem dX9_personOf_83 : decode cX9_personOf 83 = .ok (.aload_n 0, 1) := by decide +kernel
theorem dX9_personOf_84 : decode cX9_personOf 84 = .ok (.getfield 22, 3) := by decide +kernel
theorem dX9_personOf_87 : decode cX9_personOf 87 = .ok (.iload_n 1, 1) := by decide +kernel
theorem dX9_personOf_88 : decode cX9_personOf 88 = .ok (.iaload, 1) := by decide +kernel
theorem dX9_personOf_89 : decode cX9_personOf 89 = .ok (.ireturn, 1) := by decide +kernel
theorem dX9_personOf_90 : decode cX9_personOf 90 = .ok (.aload_n 0, 1) := by decide +kernel
theorem dX9_personOf_91 : decode cX9_personOf 91 = .ok (.getfield 25, 3) := by decide +kernel
theorem dX9_personOf_94 : decode cX9_personOf 94 = .ok (.iload_n 1, 1) := by decide +kernel
theorem dX9_personOf_95 : decode cX9_personOf 95 = .ok (.iaload, 1) := by decide +kernel
theorem dX9_personOf_96 : decode cX9_personOf 96 = .ok (.ireturn, 1) := by decide +kernel
theorem dX9_personOf_97 : decode cX9_personOf 97 = .ok (.aload_n 0, 1) := by decide +kernel
theorem dX9_personOf_98 : decode cX9_personOf 98 = .ok (.getfield 28, 3) := by decide +kernel
theorem dX9_personOf_101 : decode cX9_personOf 101 = .ok (.iload_n 1, 1) := by decide +kernel
theorem dX9_personOf_102 : decode cX9_personOf 102 = .ok (.iaload, 1) := by decide +kernel
theorem dX9_personOf_103 : decode cX9_personOf 103 = .ok (.ireturn, 1) := by decide +kernel
theorem dX9_personOf_104 : decode cX9_personOf 104 = .ok (.aload_n 0, 1) := by decide +kernel
theorem dX9_personOf_105 : decode cX9_personOf 105 = .ok (.getfield 31, 3) := by decide +kernel
theorem dX9_personOf_108 : decode cX9_personOf 108 = .ok (.iload_n 1, 1) := by decide +kernel
theorem dX9_personOf_109 : decode cX9_personOf 109 = .ok (.iaload, 1) := by decide +kernel
theorem dX9_personOf_110 : decode cX9_personOf 110 = .ok (.ireturn, 1) := by decide +kernel
theorem dX9_personOf_111 : decode cX9_personOf 111 = .ok (.aload_n 0, 1) := by decide +kernel
theorem dX9_personOf_112 : decode cX9_personOf 112 = .ok (.getfield 34, 3) := by decide +kernel
theorem dX9_personOf_115 : decode cX9_personOf 115 = .ok (.iload_n 1, 1) := by decide +kernel
theorem dX9_personOf_116 : decode cX9_personOf 116 = .ok (.iaload, 1) := by decide +kernel
theorem dX9_personOf_117 : decode cX9_personOf 117 = .ok (.ireturn, 1) := by decide +kernel
theorem dX9_personOf_118 : decode cX9_personOf 118 = .ok (.aload_n 0, 1) := by decide +kernel
theorem dX9_personOf_119 : decode cX9_personOf 119 = .ok (.getfield 37, 3) := by decide +kernel
theorem dX9_personOf_122 : decode cX9_personOf 122 = .ok (.iload_n 1, 1) := by decide +kernel
theorem dX9_personOf_123 : decode cX9_personOf 123 = .ok (.iaload, 1) := by decide +kernel
theorem dX9_personOf_124 : decode cX9_personOf 124 = .ok (.ireturn, 1) := by decide +kernel
theorem dX9_personOf_125 : decode cX9_personOf 125 = .ok (.aload_n 0, 1) := by decide +kernel
theorem dX9_personOf_126 : decode cX9_personOf 126 = .ok (.getfield 46, 3) := by decide +kernel
theorem dX9_personOf_129 : decode cX9_personOf 129 = .ok (.iload_n 1, 1) := by decide +kernel
theorem dX9_personOf_130 : decode cX9_personOf 130 = .ok (.baload, 1) := by decide +kernel
theorem dX9_personOf_131 : decode cX9_personOf 131 = .ok (.ifCond .eq 7, 3) := by decide +kernel
theorem dX9_personOf_134 : decode cX9_personOf 134 = .ok (.iconst 1, 1) := by decide +kernel
theorem dX9_personOf_135 : decode cX9_personOf 135 = .ok (.goto 4, 3) := by decide +kernel
theorem dX9_personOf_138 : decode cX9_personOf 138 = .ok (.iconst 0, 1) := by decide +kernel
theorem dX9_personOf_139 : decode cX9_personOf 139 = .ok (.ireturn, 1) := by decide +kernel
theorem dX9_personOf_140 : decode cX9_personOf 140 = .ok (.aload_n 0, 1) := by decide +kernel
theorem dX9_personOf_141 : decode cX9_personOf 141 = .ok (.getfield 50, 3) := by decide +kernel
theorem dX9_personOf_144 : decode cX9_personOf 144 = .ok (.iload_n 1, 1) := by decide +kernel
theorem dX9_personOf_145 : decode cX9_personOf 145 = .ok (.baload, 1) := by decide +kernel
theorem dX9_personOf_146 : decode cX9_personOf 146 = .ok (.ifCond .eq 7, 3) := by decide +kernel
theorem dX9_personOf_149 : decode cX9_personOf 149 = .ok (.iconst 1, 1) := by decide +kernel
theorem dX9_personOf_150 : decode cX9_personOf 150 = .ok (.goto 4, 3) := by decide +kernel
theorem dX9_personOf_153 : decode cX9_personOf 153 = .ok (.iconst 0, 1) := by decide +kernel
theorem dX9_personOf_154 : decode cX9_personOf 154 = .ok (.ireturn, 1) := by decide +kernel
theorem dX9_personOf_155 : decode cX9_personOf 155 = .ok (.aload_n 0, 1) := by decide +kernel
theorem dX9_personOf_156 : decode cX9_personOf 156 = .ok (.getfield 40, 3) := by decide +kernel
theorem dX9_personOf_159 : decode cX9_personOf 159 = .ok (.iload_n 1, 1) := by decide +kernel
theorem dX9_personOf_160 : decode cX9_personOf 160 = .ok (.iaload, 1) := by decide +kernel
theorem dX9_personOf_161 : decode cX9_personOf 161 = .ok (.ireturn, 1) := by decide +kernel
theorem dX9_personOf_162 : decode cX9_personOf 162 = .ok (.aload_n 0, 1) := by decide +kernel
theorem dX9_personOf_163 : decode cX9_personOf 163 = .ok (.aload_n 0, 1) := by decide +kernel
theorem dX9_personOf_164 : decode cX9_personOf 164 = .ok (.getfield 22, 3) := by decide +kernel
theorem dX9_personOf_167 : decode cX9_personOf 167 = .ok (.iload_n 1, 1) := by decide +kernel
theorem dX9_personOf_168 : decode cX9_personOf 168 = .ok (.iaload, 1) := by decide +kernel
theorem dX9_personOf_169 : decode cX9_personOf 169 = .ok (.aload_n 0, 1) := by decide +kernel
theorem dX9_personOf_170 : decode cX9_personOf 170 = .ok (.getfield 25, 3) := by decide +kernel
theorem dX9_personOf_173 : decode cX9_personOf 173 = .ok (.iload_n 1, 1) := by decide +kernel
theorem dX9_personOf_174 : decode cX9_personOf 174 = .ok (.iaload, 1) := by decide +kernel
theorem dX9_personOf_175 : decode cX9_personOf 175 = .ok (.invokevirtual 140, 3) := by decide +kernel
theorem dX9_personOf_178 : decode cX9_personOf 178 = .ok (.ireturn, 1) := by decide +kernel
theorem dX9_personOf_179 : decode cX9_personOf 179 = .ok (.aload_n 0, 1) := by decide +kernel
theorem dX9_personOf_180 : decode cX9_personOf 180 = .ok (.getfield 43, 3) := by decide +kernel
theorem dX9_personOf_183 : decode cX9_personOf 183 = .ok (.iload_n 1, 1) := by decide +kernel
theorem dX9_personOf_184 : decode cX9_personOf 184 = .ok (.iaload, 1) := by decide +kernel
theorem dX9_personOf_185 : decode cX9_personOf 185 = .ok (.ldc 234, 2) := by decide +kernel
theorem dX9_personOf_187 : decode cX9_personOf 187 = .ok (.iadd, 1) := by decide +kernel
theorem dX9_personOf_188 : decode cX9_personOf 188 = .ok (.ireturn, 1) := by decide +kernel
theorem dX9_personOf_189 : decode cX9_personOf 189 = .ok (.aload_n 0, 1) := by decide +kernel
theorem dX9_personOf_190 : decode cX9_personOf 190 = .ok (.bipush (-2), 2) := by decide +kernel
theorem dX9_personOf_192 : decode cX9_personOf 192 = .ok (.invokevirtual 136, 3) := by decide +kernel
theorem dX9_personOf_195 : decode cX9_personOf 195 = .ok (.ireturn, 1) := by decide +kernel
theorem dX9_count_0 : decode cX9_count 0 = .ok (.iload_n 1, 1) := by decide +kernel
theorem dX9_count_1 : decode cX9_count 1 = .ok (.bipush 10, 2) := by decide +kernel
theorem dX9_count_3 : decode cX9_count 3 = .ok (.if_icmp .le 19, 3) := by decide +kernel
theorem dX9_count_6 : decode cX9_count 6 = .ok (.iload_n 1, 1) := by decide +kernel
theorem dX9_count_7 : decode cX9_count 7 = .ok (.bipush 17, 2) := by decide +kernel
theorem dX9_count_9 : decode cX9_count 9 = .ok (.if_icmp .ge 13, 3) := by decide +kernel
theorem dX9_count_12 : decode cX9_count 12 = .ok (.aload_n 0, 1) := by decide +kernel
theorem dX9_count_13 : decode cX9_count 13 = .ok (.getfield 7, 3) := by decide +kernel
theorem dX9_count_16 : decode cX9_count 16 = .ok (.iload_n 1, 1) := by decide +kernel
theorem dX9_count_17 : decode cX9_count 17 = .ok (.bipush 10, 2) := by decide +kernel
theorem dX9_count_19 : decode cX9_count 19 = .ok (.isub, 1) := by decide +kernel
theorem dX9_count_20 : decode cX9_count 20 = .ok (.iaload, 1) := by decide +kernel
theorem dX9_count_21 : decode cX9_count 21 = .ok (.ireturn, 1) := by decide +kernel
theorem dX9_count_22 : decode cX9_count 22 = .ok (.iconst 0, 1) := by decide +kernel
theorem dX9_count_23 : decode cX9_count 23 = .ok (.istore_n 2, 1) := by decide +kernel
theorem dX9_count_24 : decode cX9_count 24 = .ok (.iload_n 1, 1) := by decide +kernel
theorem dX9_count_25 : decode cX9_count 25 = .ok (.tableswitch 110 0 4 #[35, 40, 48, 92, 105], 35) := by decide +kernel
theorem dX9_count_60 : decode cX9_count 60 = .ok (.aload_n 0, 1) := by decide +kernel
theorem dX9_count_61 : decode cX9_count 61 = .ok (.getfield 143, 3) := by decide +kernel
theorem dX9_count_64 : decode cX9_count 64 = .ok (.ireturn, 1) := by decide +kernel
theorem dX9_count_65 : decode cX9_count 65 = .ok (.aload_n 0, 1) := by decide +kernel
theorem dX9_count_66 : decode cX9_count 66 = .ok (.invokevirtual 199, 3) := by decide +kernel
theorem dX9_count_69 : decode cX9_count 69 = .ok (.invokestatic 155, 3) := by decide +kernel
theorem dX9_count_72 : decode cX9_count 72 = .ok (.ireturn, 1) := by decide +kernel
theorem dX9_count_73 : decode cX9_count 73 = .ok (.iconst 0, 1) := by decide +kernel
theorem dX9_count_74 : decode cX9_count 74 = .ok (.istore_n 3, 1) := by decide +kernel
theorem dX9_count_75 : decode cX9_count 75 = .ok (.iload_n 3, 1) := by decide +kernel
theorem dX9_count_76 : decode cX9_count 76 = .ok (.aload_n 0, 1) := by decide +kernel
theorem dX9_count_77 : decode cX9_count 77 = .ok (.getfield 143, 3) := by decide +kernel
theorem dX9_count_80 : decode cX9_count 80 = .ok (.if_icmp .ge 35, 3) := by decide +kernel
theorem dX9_count_83 : decode cX9_count 83 = .ok (.iload_n 2, 1) := by decide +kernel
theorem dX9_count_84 : decode cX9_count 84 = .ok (.aload_n 0, 1) := by decide +kernel
theorem dX9_count_85 : decode cX9_count 85 = .ok (.getfield 37, 3) := by decide +kernel
theorem dX9_count_88 : decode cX9_count 88 = .ok (.iload_n 3, 1) := by decide +kernel
theorem dX9_count_89 : decode cX9_count 89 = .ok (.iaload, 1) := by decide +kernel
theorem dX9_count_90 : decode cX9_count 90 = .ok (.ifCond .le 16, 3) := by decide +kernel
theorem dX9_count_93 : decode cX9_count 93 = .ok (.aload_n 0, 1) := by decide +kernel
theorem dX9_count_94 : decode cX9_count 94 = .ok (.getfield 50, 3) := by decide +kernel
theorem dX9_count_97 : decode cX9_count 97 = .ok (.iload_n 3, 1) := by decide +kernel
theorem dX9_count_98 : decode cX9_count 98 = .ok (.baload, 1) := by decide +kernel
theorem dX9_count_99 : decode cX9_count 99 = .ok (.ifCond .ne 7, 3) := by decide +kernel
theorem dX9_count_102 : decode cX9_count 102 = .ok (.iconst 1, 1) := by decide +kernel
theorem dX9_count_103 : decode cX9_count 103 = .ok (.goto 4, 3) := by decide +kernel
theorem dX9_count_106 : decode cX9_count 106 = .ok (.iconst 0, 1) := by decide +kernel
theorem dX9_count_107 : decode cX9_count 107 = .ok (.iadd, 1) := by decide +kernel
theorem dX9_count_108 : decode cX9_count 108 = .ok (.istore_n 2, 1) := by decide +kernel
theorem dX9_count_109 : decode cX9_count 109 = .ok (.iinc 3 1, 3) := by decide +kernel
theorem dX9_count_112 : decode cX9_count 112 = .ok (.goto (-37), 3) := by decide +kernel
theorem dX9_count_115 : decode cX9_count 115 = .ok (.iload_n 2, 1) := by decide +kernel
theorem dX9_count_116 : decode cX9_count 116 = .ok (.ireturn, 1) := by decide +kernel
theorem dX9_count_117 : decode cX9_count 117 = .ok (.aload_n 0, 1) := by decide +kernel
theorem dX9_count_118 : decode cX9_count 118 = .ok (.getfield 219, 3) := by decide +kernel
theorem dX9_count_121 : decode cX9_count 121 = .ok (.ifCond .eq 7, 3) := by decide +kernel
theorem dX9_count_124 : decode cX9_count 124 = .ok (.iconst 1, 1) := by decide +kernel
theorem dX9_count_125 : decode cX9_count 125 = .ok (.goto 4, 3) := by decide +kernel
theorem dX9_count_128 : decode cX9_count 128 = .ok (.iconst 0, 1) := by decide +kernel
theorem dX9_count_129 : decode cX9_count 129 = .ok (.ireturn, 1) := by decide +kernel
theorem dX9_count_130 : decode cX9_count 130 = .ok (.aload_n 0, 1) := by decide +kernel
theorem dX9_count_131 : decode cX9_count 131 = .ok (.getfield 228, 3) := by decide +kernel
theorem dX9_count_134 : decode cX9_count 134 = .ok (.ireturn, 1) := by decide +kernel
theorem dX9_count_135 : decode cX9_count 135 = .ok (.bipush (-9), 2) := by decide +kernel
theorem dX9_count_137 : decode cX9_count 137 = .ok (.ireturn, 1) := by decide +kernel
theorem dJ6_bitCount_0f7a4_0 : decode cJ6_bitCount_0f7a4 0 = .ok (.iload_n 0, 1) := by decide +kernel
