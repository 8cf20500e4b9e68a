theorem dX9_person_56 : decode cX9_person 56 = .ok (.ifCond .lt 8, 3) := by decide +kernel
theorem dX9_person_59 : decode cX9_person 59 = .ok (.iload 7, 2) := by decide +kernel
theorem dX9_person_61 : decode cX9_person 61 = .ok (.ifCond .ge 10, 3) := by decide +kernel
theorem dX9_person_64 : decode cX9_person 64 = .ok (.aload_n 0, 1) := by decide +kernel
theorem dX9_person_65 : decode cX9_person 65 = .ok (.bipush (-4), 2) := by decide +kernel
theorem dX9_person_67 : decode cX9_person 67 = .ok (.invokevirtual 136, 3) := by decide +kernel
theorem dX9_person_70 : decode cX9_person 70 = .ok (.ireturn, 1) := by decide +kernel
theorem dX9_person_71 : decode cX9_person 71 = .ok (.iload 4, 2) := by decide +kernel
theorem dX9_person_73 : decode cX9_person 73 = .ok (.sipush 1440, 3) := by decide +kernel
theorem dX9_person_76 : decode cX9_person 76 = .ok (.if_icmp .gt 34, 3) := by decide +kernel
theorem dX9_person_79 : decode cX9_person 79 = .ok (.iload 5, 2) := by decide +kernel
theorem dX9_person_81 : decode cX9_person 81 = .ok (.sipush 1440, 3) := by decide +kernel
theorem dX9_person_84 : decode cX9_person 84 = .ok (.if_icmp .gt 26, 3) := by decide +kernel
theorem dX9_person_87 : decode cX9_person 87 = .ok (.iload 6, 2) := by decide +kernel
theorem dX9_person_89 : decode cX9_person 89 = .ok (.sipush 300, 3) := by decide +kernel
theorem dX9_person_92 : decode cX9_person 92 = .ok (.if_icmp .gt 18, 3) := by decide +kernel
theorem dX9_person_95 : decode cX9_person 95 = .ok (.iload 7, 2) := by decide +kernel
theorem dX9_person_97 : decode cX9_person 97 = .ok (.iconst 5, 1) := by decide +kernel
theorem dX9_person_98 : decode cX9_person 98 = .ok (.if_icmp .gt 12, 3) := by decide +kernel
theorem dX9_person_101 : decode cX9_person 101 = .ok (.aload_n 0, 1) := by decide +kernel
theorem dX9_person_102 : decode cX9_person 102 = .ok (.getfield 143, 3) := by decide +kernel
theorem dX9_person_105 : decode cX9_person 105 = .ok (.bipush 9, 2) := by decide +kernel
theorem dX9_person_107 : decode cX9_person 107 = .ok (.if_icmp .ne 10, 3) := by decide +kernel
theorem dX9_person_110 : decode cX9_person 110 = .ok (.aload_n 0, 1) := by decide +kernel
theorem dX9_person_111 : decode cX9_person 111 = .ok (.bipush (-6), 2) := by decide +kernel
theorem dX9_person_113 : decode cX9_person 113 = .ok (.invokevirtual 136, 3) := by decide +kernel
theorem dX9_person_116 : decode cX9_person 116 = .ok (.ireturn, 1) := by decide +kernel
theorem dX9_person_117 : decode cX9_person 117 = .ok (.aload_n 0, 1) := by decide +kernel
theorem dX9_person_118 : decode cX9_person 118 = .ok (.getfield 143, 3) := by decide +kernel
theorem dX9_person_121 : decode cX9_person 121 = .ok (.istore 8, 2) := by decide +kernel
theorem dX9_person_123 : decode cX9_person 123 = .ok (.aload_n 0, 1) := by decide +kernel
theorem dX9_person_124 : decode cX9_person 124 = .ok (.dup, 1) := by decide +kernel
theorem dX9_person_125 : decode cX9_person 125 = .ok (.getfield 143, 3) := by decide +kernel
theorem dX9_person_128 : decode cX9_person 128 = .ok (.iconst 1, 1) := by decide +kernel
theorem dX9_person_129 : decode cX9_person 129 = .ok (.iadd, 1) := by decide +kernel
theorem dX9_person_130 : decode cX9_person 130 = .ok (.putfield 143, 3) := by decide +kernel
theorem dX9_person_133 : decode cX9_person 133 = .ok (.aload_n 0, 1) := by decide +kernel
theorem dX9_person_134 : decode cX9_person 134 = .ok (.getfield 19, 3) := by decide +kernel
theorem dX9_person_137 : decode cX9_person 137 = .ok (.iload 8, 2) := by decide +kernel
theorem dX9_person_139 : decode cX9_person 139 = .ok (.iload_n 1, 1) := by decide +kernel
theorem dX9_person_140 : decode cX9_person 140 = .ok (.iastore, 1) := by decide +kernel
theorem dX9_person_141 : decode cX9_person 141 = .ok (.aload_n 0, 1) := by decide +kernel
theorem dX9_person_142 : decode cX9_person 142 = .ok (.getfield 22, 3) := by decide +kernel
theorem dX9_person_145 : decode cX9_person 145 = .ok (.iload 8, 2) := by decide +kernel
theorem dX9_person_147 : decode cX9_person 147 = .ok (.iload_n 2, 1) := by decide +kernel
theorem dX9_person_148 : decode cX9_person 148 = .ok (.iastore, 1) := by decide +kernel
theorem dX9_person_149 : decode cX9_person 149 = .ok (.aload_n 0, 1) := by decide +kernel
theorem dX9_person_150 : decode cX9_person 150 = .ok (.getfield 25, 3) := by decide +kernel
theorem dX9_person_153 : decode cX9_person 153 = .ok (.iload 8, 2) := by decide +kernel
theorem dX9_person_155 : decode cX9_person 155 = .ok (.iload_n 3, 1) := by decide +kernel
theorem dX9_person_156 : decode cX9_person 156 = .ok (.iastore, 1) := by decide +kernel
theorem dX9_person_157 : decode cX9_person 157 = .ok (.aload_n 0, 1) := by decide +kernel
theorem dX9_person_158 : decode cX9_person 158 = .ok (.getfield 28, 3) := by decide +kernel
theorem dX9_person_161 : decode cX9_person 161 = .ok (.iload 8, 2) := by decide +kernel
theorem dX9_person_163 : decode cX9_person 163 = .ok (.iload 4, 2) := by decide +kernel
theorem dX9_person_165 : decode cX9_person 165 = .ok (.iastore, 1) := by decide +kernel
theorem dX9_person_166 : decode cX9_person 166 = .ok (.aload_n 0, 1) := by decide +kernel
theorem dX9_person_167 : decode cX9_person 167 = .ok (.getfield 31, 3) := by decide +kernel
theorem dX9_person_170 : decode cX9_person 170 = .ok (.iload 8, 2) := by decide +kernel
theorem dX9_person_172 : decode cX9_person 172 = .ok (.iload 5, 2) := by decide +kernel
theorem dX9_person_174 : decode cX9_person 174 = .ok (.iastore, 1) := by decide +kernel
theorem dX9_person_175 : decode cX9_person 175 = .ok (.aload_n 0, 1) := by decide +kernel
theorem dX9_person_176 : decode cX9_person 176 = .ok (.getfield 34, 3) := by decide +kernel
theorem dX9_person_179 : decode cX9_person 179 = .ok (.iload 8, 2) := by decide +kernel
theorem dX9_person_181 : decode cX9_person 181 = .ok (.iload 6, 2) := by decide +kernel
theorem dX9_person_183 : decode cX9_person 183 = .ok (.iastore, 1) := by decide +kernel
theorem dX9_person_184 : decode cX9_person 184 = .ok (.aload_n 0, 1) := by decide +kernel
theorem dX9_person_185 : decode cX9_person 185 = .ok (.getfield 37, 3) := by decide +kernel
theorem dX9_person_188 : decode cX9_person 188 = .ok (.iload 8, 2) := by decide +kernel
theorem dX9_person_190 : decode cX9_person 190 = .ok (.iload 7, 2) := by decide +kernel
theorem dX9_person_192 : decode cX9_person 192 = .ok (.iastore, 1) := by decide +kernel
theorem dX9_person_193 : decode cX9_person 193 = .ok (.aload_n 0, 1) := by decide +kernel
theorem dX9_person_194 : decode cX9_person 194 = .ok (.invokevirtual 129, 3) := by decide +kernel
theorem dX9_person_197 : decode cX9_person 197 = .ok (.iload 8, 2) := by decide +kernel
theorem dX9_person_199 : decode cX9_person 199 = .ok (.ireturn, 1) := by decide +kernel
theorem dX9_isPerson_0 : decode cX9_isPerson 0 = .ok (.iload_n 1, 1) := by decide +kernel
theorem dX9_isPerson_1 : decode cX9_isPerson 1 = .ok (.aload_n 0, 1) := by decide +kernel
theorem dX9_isPerson_2 : decode cX9_isPerson 2 = .ok (.getfield 143, 3) := by decide +kernel
theorem dX9_isPerson_5 : decode cX9_isPerson 5 = .ok (.invokestatic 132, 3) := by decide +kernel
theorem dX9_isPerson_8 : decode cX9_isPerson 8 = .ok (.ireturn, 1) := by decide +kernel
theorem dX9_times_0 : decode cX9_times 0 = .ok (.aload_n 0, 1) := by decide +kernel
theorem dX9_times_1 : decode cX9_times 1 = .ok (.iload_n 1, 1) := by decide +kernel
theorem dX9_times_2 : decode cX9_times 2 = .ok (.invokevirtual 147, 3) := by decide +kernel
theorem dX9_times_5 : decode cX9_times 5 = .ok (.ifCond .ne 9, 3) := by decide +kernel
theorem dX9_times_8 : decode cX9_times 8 = .ok (.aload_n 0, 1) := by decide +kernel
theorem dX9_times_9 : decode cX9_times 9 = .ok (.iconst (-1), 1) := by decide +kernel
theorem dX9_times_10 : decode cX9_times 10 = .ok (.invokevirtual 136, 3) := by decide +kernel
theorem dX9_times_13 : decode cX9_times 13 = .ok (.ireturn, 1) := by decide +kernel
theorem dX9_times_14 : decode cX9_times 14 = .ok (.iload_n 2, 1) := by decide +kernel
theorem dX9_times_15 : decode cX9_times 15 = .ok (.ifCond .lt 7, 3) := by decide +kernel
theorem dX9_times_18 : decode cX9_times 18 = .ok (.iload_n 3, 1) := by decide +kernel
theorem dX9_times_19 : decode cX9_times 19 = .ok (.ifCond .ge 10, 3) := by decide +kernel
theorem dX9_times_22 : decode cX9_times 22 = .ok (.aload_n 0, 1) := by decide +kernel
theorem dX9_times_23 : decode cX9_times 23 = .ok (.bipush (-4), 2) := by decide +kernel
theorem dX9_times_25 : decode cX9_times 25 = .ok (.invokevirtual 136, 3) := by decide +kernel
theorem dX9_times_28 : decode cX9_times 28 = .ok (.ireturn, 1) := by decide +kernel
theorem dX9_times_29 : decode cX9_times 29 = .ok (.iload_n 2, 1) := by decide +kernel
theorem dX9_times_30 : decode cX9_times 30 = .ok (.sipush 1440, 3) := by decide +kernel
theorem dX9_times_33 : decode cX9_times 33 = .ok (.if_icmp .gt 10, 3) := by decide +kernel
theorem dX9_times_36 : decode cX9_times 36 = .ok (.iload_n 3, 1) := by decide +kernel
theorem dX9_times_37 : decode cX9_times 37 = .ok (.sipush 1440, 3) := by decide +kernel
theorem dX9_times_40 : decode cX9_times 40 = .ok (.if_icmp .le 10, 3) := by decide +kernel
theorem dX9_times_43 : decode cX9_times 43 = .ok (.aload_n 0, 1) := by decide +kernel
theorem dX9_times_44 : decode cX9_times 44 = .ok (.bipush (-6), 2) := by decide +kernel
theorem dX9_times_46 : decode cX9_times 46 = .ok (.invokevirtual 136, 3) := by decide +kernel
theorem dX9_times_49 : decode cX9_times 49 = .ok (.ireturn, 1) := by decide +kernel
theorem dX9_times_50 : decode cX9_times 50 = .ok (.aload_n 0, 1) := by decide +kernel
theorem dX9_times_51 : decode cX9_times 51 = .ok (.getfield 28, 3) := by decide +kernel
theorem dX9_times_54 : decode cX9_times 54 = .ok (.iload_n 1, 1) := by decide +kernel
theorem dX9_times_55 : decode cX9_times 55 = .ok (.iload_n 2, 1) := by decide +kernel
theorem dX9_times_56 : decode cX9_times 56 = .ok (.iastore, 1) := by decide +kernel
theorem dX9_times_57 : decode cX9_times 57 = .ok (.aload_n 0, 1) := by decide +kernel
theorem dX9_times_58 : decode cX9_times 58 = .ok (.getfield 31, 3) := by decide +kernel
theorem dX9_times_61 : decode cX9_times 61 = .ok (.iload_n 1, 1) := by decide +kernel
theorem dX9_times_62 : decode cX9_times 62 = .ok (.iload_n 3, 1) := by decide +kernel
theorem dX9_times_63 : decode cX9_times 63 = .ok (.iastore, 1) := by decide +kernel
theorem dX9_times_64 : decode cX9_times 64 = .ok (.aload_n 0, 1) := by decide +kernel
theorem dX9_times_65 : decode cX9_times 65 = .ok (.invokevirtual 129, 3) := by decide +kernel
theorem dX9_times_68 : decode cX9_times 68 = .ok (.iconst 1, 1) := by decide +kernel
theorem dX9_times_69 : decode cX9_times 69 = .ok (.ireturn, 1) := by decide +kernel
theorem dX9_bar_0 : decode cX9_bar 0 = .ok (.aload_n 0, 1) := by decide +kernel
theorem dX9_bar_1 : decode cX9_bar 1 = .ok (.iload_n 1, 1) := by decide +kernel
theorem dX9_bar_2 : decode cX9_bar 2 = .ok (.invokevirtual 147, 3) := by decide +kernel
theorem dX9_bar_5 : decode cX9_bar 5 = .ok (.ifCond .eq 16, 3) := by decide +kernel
theorem dX9_bar_8 : decode cX9_bar 8 = .ok (.aload_n 0, 1) := by decide +kernel
theorem dX9_bar_9 : decode cX9_bar 9 = .ok (.iload_n 2, 1) := by decide +kernel
theorem dX9_bar_10 : decode cX9_bar 10 = .ok (.invokevirtual 147, 3) := by decide +kernel
theorem dX9_bar_13 : decode cX9_bar 13 = .ok (.ifCond .eq 8, 3) := by decide +kernel
theorem dX9_bar_16 : decode cX9_bar 16 = .ok (.iload_n 1, 1) := by decide +kernel
theorem dX9_bar_17 : decode cX9_bar 17 = .ok (.iload_n 2, 1) := by decide +kernel
theorem dX9_bar_18 : decode cX9_bar 18 = .ok (.if_icmp .ne 9, 3) := by decide +kernel
theorem dX9_bar_21 : decode cX9_bar 21 = .ok (.aload_n 0, 1) := by decide +kernel
theorem dX9_bar_22 : decode cX9_bar 22 = .ok (.iconst (-1), 1) := by decide +kernel
theorem dX9_bar_23 : decode cX9_bar 23 = .ok (.invokevirtual 136, 3) := by decide +kernel
theorem dX9_bar_26 : decode cX9_bar 26 = .ok (.ireturn, 1) := by decide +kernel
theorem dX9_bar_27 : decode cX9_bar 27 = .ok (.aload_n 0, 1) := by decide +kernel
theorem dX9_bar_28 : decode cX9_bar 28 = .ok (.getfield 40, 3) := by decide +kernel
theorem dX9_bar_31 : decode cX9_bar 31 = .ok (.iload_n 1, 1) := by decide +kernel
theorem dX9_bar_32 : decode cX9_bar 32 = .ok (.iaload, 1) := by decide +kernel
theorem dX9_bar_33 : decode cX9_bar 33 = .ok (.iload_n 2, 1) := by decide +kernel
theorem dX9_bar_34 : decode cX9_bar 34 = .ok (.ishr, 1) := by decide +kernel
theorem dX9_bar_35 : decode cX9_bar 35 = .ok (.iconst 1, 1) := by decide +kernel
theorem dX9_bar_36 : decode cX9_bar 36 = .ok (.iand, 1) := by decide +kernel
theorem dX9_bar_37 : decode cX9_bar 37 = .ok (.iconst 1, 1) := by decide +kernel
theorem dX9_bar_38 : decode cX9_bar 38 = .ok (.if_icmp .ne 7, 3) := by decide +kernel
theorem dX9_bar_41 : decode cX9_bar 41 = .ok (.iconst 1, 1) := by decide +kernel
theorem dX9_bar_42 : decode cX9_bar 42 = .ok (.goto 4, 3) := by decide +kernel
theorem dX9_bar_45 : decode cX9_bar 45 = .ok (.iconst 0, 1) := by decide +kernel
theorem dX9_bar_46 : decode cX9_bar 46 = .ok (.iload_n 3, 1) := by decide +kernel
theorem dX9_bar_47 : decode cX9_bar 47 = .ok (.if_icmp .ne 5, 3) := by decide +kernel
theorem dX9_bar_50 : decode cX9_bar 50 = .ok (.iconst 0, 1) := by decide +kernel
theorem dX9_bar_51 : decode cX9_bar 51 = .ok (.ireturn, 1) := by decide +kernel
theorem dX9_bar_52 : decode cX9_bar 52 = .ok (.aload_n 0, 1) := by decide +kernel
theorem dX9_bar_53 : decode cX9_bar 53 = .ok (.getfield 40, 3) := by decide +kernel
theorem dX9_bar_56 : decode cX9_bar 56 = .ok (.iload_n 1, 1) := by decide +kernel
theorem dX9_bar_57 : decode cX9_bar 57 = .ok (.dup2, 1) := by decide +kernel
theorem dX9_bar_58 : decode cX9_bar 58 = .ok (.iaload, 1) := by decide +kernel
theorem dX9_bar_59 : decode cX9_bar 59 = .ok (.iconst 1, 1) := by decide +kernel
theorem dX9_bar_60 : decode cX9_bar 60 = .ok (.iload_n 2, 1) := by decide +kernel
theorem dX9_bar_61 : decode cX9_bar 61 = .ok (.ishl, 1) := by decide +kernel
theorem dX9_bar_62 : decode cX9_bar 62 = .ok (.ixor, 1) := by decide +kernel
theorem dX9_bar_63 : decode cX9_bar 63 = .ok (.iastore, 1) := by decide +kernel
theorem dX9_bar_64 : decode cX9_bar 64 = .ok (.aload_n 0, 1) := by decide +kernel
theorem dX9_bar_65 : decode cX9_bar 65 = .ok (.getfield 40, 3) := by decide +kernel
theorem dX9_bar_68 : decode cX9_bar 68 = .ok (.iload_n 2, 1) := by decide +kernel
theorem dX9_bar_69 : decode cX9_bar 69 = .ok (.dup2, 1) := by decide +kernel
theorem dX9_bar_70 : decode cX9_bar 70 = .ok (.iaload, 1) := by decide +kernel
theorem dX9_bar_71 : decode cX9_bar 71 = .ok (.iconst 1, 1) := by decide +kernel
theorem dX9_bar_72 : decode cX9_bar 72 = .ok (.iload_n 1, 1) := by decide +kernel
theorem dX9_bar_73 : decode cX9_bar 73 = .ok (.ishl, 1) := by decide +kernel
theorem dX9_bar_74 : decode cX9_bar 74 = .ok (.ixor, 1) := by decide +kernel
theorem dX9_bar_75 : decode cX9_bar 75 = .ok (.iastore, 1) := by decide +kernel
theorem dX9_bar_76 : decode cX9_bar 76 = .ok (.aload_n 0, 1) := by decide +kernel
theorem dX9_bar_77 : decode cX9_bar 77 = .ok (.invokevirtual 129, 3) := by decide +kernel
theorem dX9_bar_80 : decode cX9_bar 80 = .ok (.iconst 1, 1) := by decide +kernel
theorem dX9_bar_81 : decode cX9_bar 81 = .ok (.ireturn, 1) := by decide +kernel
theorem dX9_away_0 : decode cX9_away 0 = .ok (.aload_n 0, 1) := by decide +kernel
theorem dX9_away_1 : decode cX9_away 1 = .ok (.iload_n 1, 1) := by decide +kernel
theorem dX9_away_2 : decode cX9_away 2 = .ok (.invokevirtual 147, 3) := by decide +kernel
theorem dX9_away_5 : decode cX9_away 5 = .ok (.ifCond .ne 9, 3) := by decide +kernel
theorem dX9_away_8 : decode cX9_away 8 = .ok (.aload_n 0, 1) := by decide +kernel
theorem dX9_away_9 : decode cX9_away 9 = .ok (.iconst (-1), 1) := by decide +kernel
theorem dX9_away_10 : decode cX9_away 10 = .ok (.invokevirtual 136, 3) := by decide +kernel
theorem dX9_away_13 : decode cX9_away 13 = .ok (.ireturn, 1) := by decide +kernel
theorem dX9_away_14 : decode cX9_away 14 = .ok (.aload_n 0, 1) := by decide +kernel
theorem dX9_away_15 : decode cX9_away 15 = .ok (.getfield 46, 3) := by decide +kernel
theorem dX9_away_18 : decode cX9_away 18 = .ok (.iload_n 1, 1) := by decide +kernel
theorem dX9_away_19 : decode cX9_away 19 = .ok (.baload, 1) := by decide +kernel
theorem dX9_away_20 : decode cX9_away 20 = .ok (.iload_n 2, 1) := by decide +kernel
theorem dX9_away_21 : decode cX9_away 21 = .ok (.if_icmp .ne 5, 3) := by decide +kernel
theorem dX9_away_24 : decode cX9_away 24 = .ok (.iconst 0, 1) := by decide +kernel
theorem dX9_away_25 : decode cX9_away 25 = .ok (.ireturn, 1) := by decide +kernel
theorem dX9_away_26 : decode cX9_away 26 = .ok (.aload_n 0, 1) := by decide +kernel
theorem dX9_away_27 : decode cX9_away 27 = .ok (.getfield 46, 3) := by decide +kernel
theorem dX9_away_30 : decode cX9_away 30 = .ok (.iload_n 1, 1) := by decide +kernel
theorem dX9_away_31 : decode cX9_away 31 = .ok (.iload_n 2, 1) := by decide +kernel
theorem dX9_away_32 : decode cX9_away 32 = .ok (.bastore, 1) := by decide +kernel
theorem dX9_away_33 : decode cX9_away 33 = .ok (.aload_n 0, 1) := by decide +kernel
theorem dX9_away_34 : decode cX9_away 34 = .ok (.invokevirtual 129, 3) := by decide +kernel
theorem dX9_away_37 : decode cX9_away 37 = .ok (.iconst 1, 1) := by decide +kernel
theorem dX9_away_38 : decode cX9_away 38 = .ok (.ireturn, 1) := by decide +kernel
theorem dX9_broken_0 : decode cX9_broken 0 = .ok (.aload_n 0, 1) := by decide +kernel
theorem dX9_broken_1 : decode cX9_broken 1 = .ok (.iload_n 1, 1) := by decide +kernel
theorem dX9_broken_2 : decode cX9_broken 2 = .ok (.invokevirtual 147, 3) := by decide +kernel
theorem dX9_broken_5 : decode cX9_broken 5 = .ok (.ifCond .ne 9, 3) := by decide +kernel
theorem dX9_broken_8 : decode cX9_broken 8 = .ok (.aload_n 0, 1) := by decide +kernel
theorem dX9_broken_9 : decode cX9_broken 9 = .ok (.iconst (-1), 1) := by decide +kernel
theorem dX9_broken_10 : decode cX9_broken 10 = .ok (.invokevirtual 136, 3) := by decide +kernel
theorem dX9_broken_13 : decode cX9_broken 13 = .ok (.ireturn, 1) := by decide +kernel
theorem dX9_broken_14 : decode cX9_broken 14 = .ok (.aload_n 0, 1) := by decide +kernel
theorem dX9_broken_15 : decode cX9_broken 15 = .ok (.getfield 50, 3) := by decide +kernel
theorem dX9_broken_18 : decode cX9_broken 18 = .ok (.iload_n 1, 1) := by decide +kernel
theorem dX9_broken_19 : decode cX9_broken 19 = .ok (.baload, 1) := by decide +kernel
theorem dX9_broken_20 : decode cX9_broken 20 = .ok (.iload_n 2, 1) := by decide +kernel
theorem dX9_broken_21 : decode cX9_broken 21 = .ok (.if_icmp .ne 5, 3) := by decide +kernel
theorem dX9_broken_24 : decode cX9_broken 24 = .ok (.iconst 0, 1) := by decide +kernel
theorem dX9_broken_25 : decode cX9_broken 25 = .ok (.ireturn, 1) := by decide +kernel
theorem dX9_broken_26 : decode cX9_broken 26 = .ok (.aload_n 0, 1) := by decide +kernel
theorem dX9_broken_27 : decode cX9_broken 27 = .ok (.getfield 50, 3) := by decide +kernel
theorem dX9_broken_30 : decode cX9_broken 30 = .ok (.iload_n 1, 1) := by decide +kernel
theorem dX9_broken_31 : decode cX9_broken 31 = .ok (.iload_n 2, 1) := by decide +kernel
theorem dX9_broken_32 : decode cX9_broken 32 = .ok (.bastore, 1) := by decide +kernel
theorem dX9_broken_33 : decode cX9_broken 33 = .ok (.aload_n 0, 1) := by decide +kernel
theorem dX9_broken_34 : decode cX9_broken 34 = .ok (.invokevirtual 129, 3) := by decide +kernel
theorem dX9_broken_37 : decode cX9_broken 37 = .ok (.iconst 1, 1) := by decide +kernel
theorem dX9_broken_38 : decode cX9_broken 38 = .ok (.ireturn, 1) := by decide +kernel
theorem dX9_many_0 : decode cX9_many 0 = .ok (.iconst 0, 1) := by decide +kernel
theorem dX9_many_1 : decode cX9_many 1 = .ok (.istore_n 1, 1) := by decide +kernel
theorem dX9_many_2 : decode cX9_many 2 = .ok (.iload_n 0, 1) := by decide +kernel
theorem dX9_many_3 : decode cX9_many 3 = .ok (.istore_n 2, 1) := by decide +kernel
theorem dX9_many_4 : decode cX9_many 4 = .ok (.iload_n 2, 1) := by decide +kernel
theorem dX9_many_5 : decode cX9_many 5 = .ok (.ifCond .eq 15, 3) := by decide +kernel
theorem dX9_many_8 : decode cX9_many 8 = .ok (.iinc 1 1, 3) := by decide +kernel
theorem dX9_many_11 : decode cX9_many 11 = .ok (.iload_n 2, 1) := by decide +kernel
theorem dX9_many_12 : decode cX9_many 12 = .ok (.iload_n 2, 1) := by decide +kernel
theorem dX9_many_13 : decode cX9_many 13 = .ok (.iconst 1, 1) := by decide +kernel
theorem dX9_many_14 : decode cX9_many 14 = .ok (.isub, 1) := by decide +kernel
theorem dX9_many_15 : decode cX9_many 15 = .ok (.iand, 1) := by decide +kernel
theorem dX9_many_16 : decode cX9_many 16 = .ok (.istore_n 2, 1) := by decide +kernel
theorem dX9_many_17 : decode cX9_many 17 = .ok (.goto (-13), 3) := by decide +kernel
theorem dX9_many_20 : decode cX9_many 20 = .ok (.iload_n 1, 1) := by decide +kernel
theorem dX9_many_21 : decode cX9_many 21 = .ok (.ireturn, 1) := by decide +kernel
theorem dX9_whyNot_0 : decode cX9_whyNot 0 = .ok (.aload_n 0, 1) := by decide +kernel
theorem dX9_whyNot_1 : decode cX9_whyNot 1 = .ok (.ldc 151, 2) := by decide +kernel
theorem dX9_whyNot_3 : decode cX9_whyNot 3 = .ok (.putfield 152, 3) := by decide +kernel
theorem dX9_whyNot_6 : decode cX9_whyNot 6 = .ok (.aload_n 0, 1) := by decide +kernel
theorem dX9_whyNot_7 : decode cX9_whyNot 7 = .ok (.getfield 37, 3) := by decide +kernel
theorem dX9_whyNot_10 : decode cX9_whyNot 10 = .ok (.iload_n 2, 1) := by decide +kernel
theorem dX9_whyNot_11 : decode cX9_whyNot 11 = .ok (.iaload, 1) := by decide +kernel
theorem dX9_whyNot_12 : decode cX9_whyNot 12 = .ok (.ifCond .eq 12, 3) := by decide +kernel
theorem dX9_whyNot_15 : decode cX9_whyNot 15 = .ok (.aload_n 0, 1) := by decide +kernel
theorem dX9_whyNot_16 : decode cX9_whyNot 16 = .ok (.getfield 50, 3) := by decide +kernel
theorem dX9_whyNot_19 : decode cX9_whyNot 19 = .ok (.iload_n 2, 1) := by decide +kernel
theorem dX9_whyNot_20 : decode cX9_whyNot 20 = .ok (.baload, 1) := by decide +kernel
theorem dX9_whyNot_21 : decode cX9_whyNot 21 = .ok (.ifCond .eq 5, 3) := by decide +kernel
theorem dX9_whyNot_24 : decode cX9_whyNot 24 = .ok (.iconst 1, 1) := by decide +kernel
theorem dX9_whyNot_25 : decode cX9_whyNot 25 = .ok (.ireturn, 1) := by decide +kernel
theorem dX9_whyNot_26 : decode cX9_whyNot 26 = .ok (.iconst 0, 1) := by decide +kernel
theorem dX9_whyNot_27 : decode cX9_whyNot 27 = .ok (.istore_n 3, 1) := by decide +kernel
theorem dX9_whyNot_28 : decode cX9_whyNot 28 = .ok (.iconst 0, 1) := by decide +kernel
theorem dX9_whyNot_29 : decode cX9_whyNot 29 = .ok (.istore 4, 2) := by decide +kernel
theorem dX9_whyNot_31 : decode cX9_whyNot 31 = .ok (.iconst 0, 1) := by decide +kernel
theorem dX9_whyNot_32 : decode cX9_whyNot 32 = .ok (.istore 5, 2) := by decide +kernel
theorem dX9_whyNot_34 : decode cX9_whyNot 34 = .ok (.iload 5, 2) := by decide +kernel
theorem dX9_whyNot_36 : decode cX9_whyNot 36 = .ok (.aload_n 0, 1) := by decide +kernel
theorem dX9_whyNot_37 : decode cX9_whyNot 37 = .ok (.getfield 143, 3) := by decide +kernel
theorem dX9_whyNot_40 : decode cX9_whyNot 40 = .ok (.if_icmp .ge 45, 3) := by decide +kernel
theorem dX9_whyNot_43 : decode cX9_whyNot 43 = .ok (.iload_n 1, 1) := by decide +kernel
theorem dX9_whyNot_44 : decode cX9_whyNot 44 = .ok (.iload 5, 2) := by decide +kernel
theorem dX9_whyNot_46 : decode cX9_whyNot 46 = .ok (.ishr, 1) := by decide +kernel
theorem dX9_whyNot_47 : decode cX9_whyNot 47 = .ok (.iconst 1, 1) := by decide +kernel
theorem dX9_whyNot_48 : decode cX9_whyNot 48 = .ok (.iand, 1) := by decide +kernel
theorem dX9_whyNot_49 : decode cX9_whyNot 49 = .ok (.ifCond .ne 6, 3) := by decide +kernel
theorem dX9_whyNot_52 : decode cX9_whyNot 52 = .ok (.goto 27, 3) := by decide +kernel
theorem dX9_whyNot_55 : decode cX9_whyNot 55 = .ok (.iload_n 3, 1) := by decide +kernel
theorem dX9_whyNot_56 : decode cX9_whyNot 56 = .ok (.iconst 1, 1) := by decide +kernel
theorem dX9_whyNot_57 : decode cX9_whyNot 57 = .ok (.aload_n 0, 1) := by decide +kernel
theorem dX9_whyNot_58 : decode cX9_whyNot 58 = .ok (.getfield 19, 3) := by decide +kernel
theorem dX9_whyNot_61 : decode cX9_whyNot 61 = .ok (.iload 5, 2) := by decide +kernel
theorem dX9_whyNot_63 : decode cX9_whyNot 63 = .ok (.iaload, 1) := by decide +kernel
theorem dX9_whyNot_64 : decode cX9_whyNot 64 = .ok (.iadd, 1) := by decide +kernel
theorem dX9_whyNot_65 : decode cX9_whyNot 65 = .ok (.iadd, 1) := by decide +kernel
theorem dX9_whyNot_66 : decode cX9_whyNot 66 = .ok (.istore_n 3, 1) := by decide +kernel
theorem dX9_whyNot_67 : decode cX9_whyNot 67 = .ok (.iload 4, 2) := by decide +kernel
theorem dX9_whyNot_69 : decode cX9_whyNot 69 = .ok (.aload_n 0, 1) := by decide +kernel
theorem dX9_whyNot_70 : decode cX9_whyNot 70 = .ok (.getfield 40, 3) := by decide +kernel
theorem dX9_whyNot_73 : decode cX9_whyNot 73 = .ok (.iload 5, 2) := by decide +kernel
theorem dX9_whyNot_75 : decode cX9_whyNot 75 = .ok (.iaload, 1) := by decide +kernel
theorem dX9_whyNot_76 : decode cX9_whyNot 76 = .ok (.ior, 1) := by decide +kernel
theorem dX9_whyNot_77 : decode cX9_whyNot 77 = .ok (.istore 4, 2) := by decide +kernel
theorem dX9_whyNot_79 : decode cX9_whyNot 79 = .ok (.iinc 5 1, 3) := by decide +kernel
theorem dX9_whyNot_82 : decode cX9_whyNot 82 = .ok (.goto (-48), 3) := by decide +kernel
theorem dX9_whyNot_85 : decode cX9_whyNot 85 = .ok (.iload_n 3, 1) := by decide +kernel
theorem dX9_whyNot_86 : decode cX9_whyNot 86 = .ok (.aload_n 0, 1) := by decide +kernel
theorem dX9_whyNot_87 : decode cX9_whyNot 87 = .ok (.getfield 37, 3) := by decide +kernel
theorem dX9_whyNot_90 : decode cX9_whyNot 90 = .ok (.iload_n 2, 1) := by decide +kernel
theorem dX9_whyNot_91 : decode cX9_whyNot 91 = .ok (.iaload, 1) := by decide +kernel
theorem dX9_whyNot_92 : decode cX9_whyNot 92 = .ok (.if_icmp .le 5, 3) := by decide +kernel
theorem dX9_whyNot_95 : decode cX9_whyNot 95 = .ok (.iconst 2, 1) := by decide +kernel
theorem dX9_whyNot_96 : decode cX9_whyNot 96 = .ok (.ireturn, 1) := by decide +kernel
theorem dX9_whyNot_97 : decode cX9_whyNot 97 = .ok (.iload 4, 2) := by decide +kernel
theorem dX9_whyNot_99 : decode cX9_whyNot 99 = .ok (.iload_n 1, 1) := by decide +kernel
theorem dX9_whyNot_100 : decode cX9_whyNot 100 = .ok (.iand, 1) := by decide +kernel
theorem dX9_whyNot_101 : decode cX9_whyNot 101 = .ok (.ifCond .eq 5, 3) := by decide +kernel
theorem dX9_whyNot_104 : decode cX9_whyNot 104 = .ok (.iconst 3, 1) := by decide +kernel
theorem dX9_whyNot_105 : decode cX9_whyNot 105 = .ok (.ireturn, 1) := by decide +kernel
theorem dX9_whyNot_106 : decode cX9_whyNot 106 = .ok (.aload_n 0, 1) := by decide +kernel
theorem dX9_whyNot_107 : decode cX9_whyNot 107 = .ok (.iload_n 1, 1) := by decide +kernel
theorem dX9_whyNot_108 : decode cX9_whyNot 108 = .ok (.invokestatic 155, 3) := by decide +kernel
theorem dX9_whyNot_111 : decode cX9_whyNot 111 = .ok (.putfield 158, 3) := by decide +kernel
theorem dX9_whyNot_114 : decode cX9_whyNot 114 = .ok (.aload_n 0, 1) := by decide +kernel
theorem dX9_whyNot_115 : decode cX9_whyNot 115 = .ok (.getfield 53, 3) := by decide +kernel
theorem dX9_whyNot_118 : decode cX9_whyNot 118 = .ok (.iconst 0, 1) := by decide +kernel
theorem dX9_whyNot_119 : decode cX9_whyNot 119 = .ok (.iload_n 2, 1) := by decide +kernel
theorem dX9_whyNot_120 : decode cX9_whyNot 120 = .ok (.iastore, 1) := by decide +kernel
theorem dX9_whyNot_121 : decode cX9_whyNot 121 = .ok (.aload_n 0, 1) := by decide +kernel
theorem dX9_whyNot_122 : decode cX9_whyNot 122 = .ok (.getfield 59, 3) := by decide +kernel
theorem dX9_whyNot_125 : decode cX9_whyNot 125 = .ok (.iload_n 2, 1) := by decide +kernel
theorem dX9_whyNot_126 : decode cX9_whyNot 126 = .ok (.iconst 0, 1) := by decide +kernel
theorem dX9_whyNot_127 : decode cX9_whyNot 127 = .ok (.iastore, 1) := by decide +kernel
theorem dX9_whyNot_128 : decode cX9_whyNot 128 = .ok (.aload_n 0, 1) := by decide +kernel
theorem dX9_whyNot_129 : decode cX9_whyNot 129 = .ok (.iload_n 1, 1) := by decide +kernel
theorem dX9_whyNot_130 : decode cX9_whyNot 130 = .ok (.iload_n 1, 1) := by decide +kernel
theorem dX9_whyNot_131 : decode cX9_whyNot 131 = .ok (.iconst 1, 1) := by decide +kernel
theorem dX9_whyNot_132 : decode cX9_whyNot 132 = .ok (.iload_n 2, 1) := by decide +kernel
theorem dX9_whyNot_133 : decode cX9_whyNot 133 = .ok (.ishl, 1) := by decide +kernel
theorem dX9_whyNot_134 : decode cX9_whyNot 134 = .ok (.iconst (-1), 1) := by decide +kernel
theorem dX9_whyNot_135 : decode cX9_whyNot 135 = .ok (.ixor, 1) := by decide +kernel
theorem dX9_whyNot_136 : decode cX9_whyNot 136 = .ok (.iand, 1) := by decide +kernel
theorem dX9_whyNot_137 : decode cX9_whyNot 137 = .ok (.iconst 1, 1) := by decide +kernel
theorem dX9_whyNot_138 : decode cX9_whyNot 138 = .ok (.iconst 0, 1) := by decide +kernel
theorem dX9_whyNot_139 : decode cX9_whyNot 139 = .ok (.invokevirtual 161, 3) := by decide +kernel
theorem dX9_whyNot_142 : decode cX9_whyNot 142 = .ok (.aload_n 0, 1) := by decide +kernel
theorem dX9_whyNot_143 : decode cX9_whyNot 143 = .ok (.getfield 152, 3) := by decide +kernel
theorem dX9_whyNot_146 : decode cX9_whyNot 146 = .ok (.ldc 151, 2) := by decide +kernel
theorem dX9_whyNot_148 : decode cX9_whyNot 148 = .ok (.if_icmp .ne 7, 3) := by decide +kernel
theorem dX9_whyNot_151 : decode cX9_whyNot 151 = .ok (.iconst 4, 1) := by decide +kernel
theorem dX9_whyNot_152 : decode cX9_whyNot 152 = .ok (.goto 4, 3) := by decide +kernel
theorem dX9_whyNot_155 : decode cX9_whyNot 155 = .ok (.iconst 0, 1) := by decide +kernel
theorem dX9_whyNot_156 : decode cX9_whyNot 156 = .ok (.ireturn, 1) := by decide +kernel
theorem dX9_picks_0 : decode cX9_picks 0 = .ok (.iload_n 2, 1) := by decide +kernel
theorem dX9_picks_1 : decode cX9_picks 1 = .ok (.ifCond .ne 25, 3) := by decide +kernel
theorem dX9_picks_4 : decode cX9_picks 4 = .ok (.aload_n 0, 1) := by decide +kernel
theorem dX9_picks_5 : decode cX9_picks 5 = .ok (.iload_n 1, 1) := by decide +kernel
theorem dX9_picks_6 : decode cX9_picks 6 = .ok (.iconst 0, 1) := by decide +kernel
theorem dX9_picks_7 : decode cX9_picks 7 = .ok (.iload 4, 2) := by decide +kernel
theorem dX9_picks_9 : decode cX9_picks 9 = .ok (.aload_n 0, 1) := by decide +kernel
theorem dX9_picks_10 : decode cX9_picks 10 = .ok (.getfield 22, 3) := by decide +kernel
theorem dX9_picks_13 : decode cX9_picks 13 = .ok (.aload_n 0, 1) := by decide +kernel
theorem dX9_picks_14 : decode cX9_picks 14 = .ok (.getfield 53, 3) := by decide +kernel
theorem dX9_picks_17 : decode cX9_picks 17 = .ok (.iload_n 3, 1) := by decide +kernel
theorem dX9_picks_18 : decode cX9_picks 18 = .ok (.iconst 1, 1) := by decide +kernel
theorem dX9_picks_19 : decode cX9_picks 19 = .ok (.isub, 1) := by decide +kernel
theorem dX9_picks_20 : decode cX9_picks 20 = .ok (.iaload, 1) := by decide +kernel
theorem dX9_picks_21 : decode cX9_picks 21 = .ok (.iaload, 1) := by decide +kernel
theorem dX9_picks_22 : decode cX9_picks 22 = .ok (.invokevirtual 165, 3) := by decide +kernel
theorem dX9_picks_25 : decode cX9_picks 25 = .ok (.return_, 1) := by decide +kernel
theorem dX9_picks_26 : decode cX9_picks 26 = .ok (.iconst 0, 1) := by decide +kernel
theorem dX9_picks_27 : decode cX9_picks 27 = .ok (.istore 5, 2) := by decide +kernel
theorem dX9_picks_29 : decode cX9_picks 29 = .ok (.iload 5, 2) := by decide +kernel
theorem dX9_picks_31 : decode cX9_picks 31 = .ok (.aload_n 0, 1) := by decide +kernel
theorem dX9_picks_32 : decode cX9_picks 32 = .ok (.getfield 143, 3) := by decide +kernel
theorem dX9_picks_35 : decode cX9_picks 35 = .ok (.if_icmp .ge 86, 3) := by decide +kernel
theorem dX9_picks_38 : decode cX9_picks 38 = .ok (.iload_n 2, 1) := by decide +kernel
theorem dX9_picks_39 : decode cX9_picks 39 = .ok (.iload 5, 2) := by decide +kernel
theorem dX9_picks_41 : decode cX9_picks 41 = .ok (.ishr, 1) := by decide +kernel
theorem dX9_picks_42 : decode cX9_picks 42 = .ok (.iconst 1, 1) := by decide +kernel
theorem dX9_picks_43 : decode cX9_picks 43 = .ok (.iand, 1) := by decide +kernel
theorem dX9_picks_44 : decode cX9_picks 44 = .ok (.ifCond .ne 6, 3) := by decide +kernel
theorem dX9_picks_47 : decode cX9_picks 47 = .ok (.goto 68, 3) := by decide +kernel
theorem dX9_picks_50 : decode cX9_picks 50 = .ok (.aload_n 0, 1) := by decide +kernel
theorem dX9_picks_51 : decode cX9_picks 51 = .ok (.getfield 53, 3) := by decide +kernel
theorem dX9_picks_54 : decode cX9_picks 54 = .ok (.iload_n 3, 1) := by decide +kernel
theorem dX9_picks_55 : decode cX9_picks 55 = .ok (.iload 5, 2) := by decide +kernel
theorem dX9_picks_57 : decode cX9_picks 57 = .ok (.iastore, 1) := by decide +kernel
theorem dX9_picks_58 : decode cX9_picks 58 = .ok (.aload_n 0, 1) := by decide +kernel
theorem dX9_picks_59 : decode cX9_picks 59 = .ok (.getfield 59, 3) := by decide +kernel
theorem dX9_picks_62 : decode cX9_picks 62 = .ok (.iload 5, 2) := by decide +kernel
theorem dX9_picks_64 : decode cX9_picks 64 = .ok (.iload 4, 2) := by decide +kernel
theorem dX9_picks_66 : decode cX9_picks 66 = .ok (.aload_n 0, 1) := by decide +kernel
theorem dX9_picks_67 : decode cX9_picks 67 = .ok (.aload_n 0, 1) := by decide +kernel
theorem dX9_picks_68 : decode cX9_picks 68 = .ok (.getfield 22, 3) := by decide +kernel
theorem dX9_picks_71 : decode cX9_picks 71 = .ok (.aload_n 0, 1) := by decide +kernel
theorem dX9_picks_72 : decode cX9_picks 72 = .ok (.getfield 53, 3) := by decide +kernel
theorem dX9_picks_75 : decode cX9_picks 75 = .ok (.iload_n 3, 1) := by decide +kernel
theorem dX9_picks_76 : decode cX9_picks 76 = .ok (.iconst 1, 1) := by decide +kernel
theorem dX9_picks_77 : decode cX9_picks 77 = .ok (.isub, 1) := by decide +kernel
theorem dX9_picks_78 : decode cX9_picks 78 = .ok (.iaload, 1) := by decide +kernel
theorem dX9_picks_79 : decode cX9_picks 79 = .ok (.iaload, 1) := by decide +kernel
theorem dX9_picks_80 : decode cX9_picks 80 = .ok (.aload_n 0, 1) := by decide +kernel
theorem dX9_picks_81 : decode cX9_picks 81 = .ok (.getfield 22, 3) := by decide +kernel
theorem dX9_picks_84 : decode cX9_picks 84 = .ok (.iload 5, 2) := by decide +kernel
theorem dX9_picks_86 : decode cX9_picks 86 = .ok (.iaload, 1) := by decide +kernel
theorem dX9_picks_87 : decode cX9_picks 87 = .ok (.invokevirtual 140, 3) := by decide +kernel
theorem dX9_picks_90 : decode cX9_picks 90 = .ok (.iadd, 1) := by decide +kernel
theorem dX9_picks_91 : decode cX9_picks 91 = .ok (.iastore, 1) := by decide +kernel
theorem dX9_picks_92 : decode cX9_picks 92 = .ok (.aload_n 0, 1) := by decide +kernel
theorem dX9_picks_93 : decode cX9_picks 93 = .ok (.iload_n 1, 1) := by decide +kernel
theorem dX9_picks_94 : decode cX9_picks 94 = .ok (.iload_n 2, 1) := by decide +kernel
theorem dX9_picks_95 : decode cX9_picks 95 = .ok (.iconst 1, 1) := by decide +kernel
theorem dX9_picks_96 : decode cX9_picks 96 = .ok (.iload 5, 2) := by decide +kernel
theorem dX9_picks_98 : decode cX9_picks 98 = .ok (.ishl, 1) := by decide +kernel
theorem dX9_picks_99 : decode cX9_picks 99 = .ok (.iconst (-1), 1) := by decide +kernel
theorem dX9_picks_100 : decode cX9_picks 100 = .ok (.ixor, 1) := by decide +kernel
theorem dX9_picks_101 : decode cX9_picks 101 = .ok (.iand, 1) := by decide +kernel
theorem dX9_picks_102 : decode cX9_picks 102 = .ok (.iload_n 3, 1) := by decide +kernel
theorem dX9_picks_103 : decode cX9_picks 103 = .ok (.iconst 1, 1) := by decide +kernel
theorem dX9_picks_104 : decode cX9_picks 104 = .ok (.iadd, 1) := by decide +kernel
theorem dX9_picks_105 : decode cX9_picks 105 = .ok (.aload_n 0, 1) := by decide +kernel
theorem dX9_picks_106 : decode cX9_picks 106 = .ok (.getfield 59, 3) := by decide +kernel
theorem dX9_picks_109 : decode cX9_picks 109 = .ok (.iload 5, 2) := by decide +kernel
theorem dX9_picks_111 : decode cX9_picks 111 = .ok (.iaload, 1) := by decide +kernel
theorem dX9_picks_112 : decode cX9_picks 112 = .ok (.invokevirtual 161, 3) := by decide +kernel
theorem dX9_picks_115 : decode cX9_picks 115 = .ok (.iinc 5 1, 3) := by decide +kernel
theorem dX9_picks_118 : decode cX9_picks 118 = .ok (.goto (-89), 3) := by decide +kernel
theorem dX9_picks_121 : decode cX9_picks 121 = .ok (.return_, 1) := by decide +kernel
theorem dX9_drops_0 : decode cX9_drops 0 = .ok (.iload_n 1, 1) := by decide +kernel
theorem dX9_drops_1 : decode cX9_drops 1 = .ok (.ifCond .ne 9, 3) := by decide +kernel
theorem dX9_drops_4 : decode cX9_drops 4 = .ok (.aload_n 0, 1) := by decide +kernel
theorem dX9_drops_5 : decode cX9_drops 5 = .ok (.iload_n 3, 1) := by decide +kernel
theorem dX9_drops_6 : decode cX9_drops 6 = .ok (.invokevirtual 168, 3) := by decide +kernel
theorem dX9_drops_9 : decode cX9_drops 9 = .ok (.return_, 1) := by decide +kernel
theorem dX9_drops_10 : decode cX9_drops 10 = .ok (.iconst 0, 1) := by decide +kernel
theorem dX9_drops_11 : decode cX9_drops 11 = .ok (.istore 5, 2) := by decide +kernel
theorem dX9_drops_13 : decode cX9_drops 13 = .ok (.iload 5, 2) := by decide +kernel
theorem dX9_drops_15 : decode cX9_drops 15 = .ok (.aload_n 0, 1) := by decide +kernel
theorem dX9_drops_16 : decode cX9_drops 16 = .ok (.getfield 143, 3) := by decide +kernel
theorem dX9_drops_19 : decode cX9_drops 19 = .ok (.if_icmp .ge 80, 3) := by decide +kernel
theorem dX9_drops_22 : decode cX9_drops 22 = .ok (.iload_n 1, 1) := by decide +kernel
theorem dX9_drops_23 : decode cX9_drops 23 = .ok (.iload 5, 2) := by decide +kernel
theorem dX9_drops_25 : decode cX9_drops 25 = .ok (.ishr, 1) := by decide +kernel
theorem dX9_drops_26 : decode cX9_drops 26 = .ok (.iconst 1, 1) := by decide +kernel
theorem dX9_drops_27 : decode cX9_drops 27 = .ok (.iand, 1) := by decide +kernel
theorem dX9_drops_28 : decode cX9_drops 28 = .ok (.ifCond .ne 6, 3) := by decide +kernel
theorem dX9_drops_31 : decode cX9_drops 31 = .ok (.goto 62, 3) := by decide +kernel
theorem dX9_drops_34 : decode cX9_drops 34 = .ok (.aload_n 0, 1) := by decide +kernel
theorem dX9_drops_35 : decode cX9_drops 35 = .ok (.getfield 56, 3) := by decide +kernel
theorem dX9_drops_38 : decode cX9_drops 38 = .ok (.iload_n 2, 1) := by decide +kernel
theorem dX9_drops_39 : decode cX9_drops 39 = .ok (.iload 5, 2) := by decide +kernel
theorem dX9_drops_41 : decode cX9_drops 41 = .ok (.iastore, 1) := by decide +kernel
theorem dX9_drops_42 : decode cX9_drops 42 = .ok (.aload_n 0, 1) := by decide +kernel
theorem dX9_drops_43 : decode cX9_drops 43 = .ok (.getfield 62, 3) := by decide +kernel
theorem dX9_drops_46 : decode cX9_drops 46 = .ok (.iload 5, 2) := by decide +kernel
theorem dX9_drops_48 : decode cX9_drops 48 = .ok (.iload_n 3, 1) := by decide +kernel
theorem dX9_drops_49 : decode cX9_drops 49 = .ok (.aload_n 0, 1) := by decide +kernel
theorem dX9_drops_50 : decode cX9_drops 50 = .ok (.iload 4, 2) := by decide +kernel
theorem dX9_drops_52 : decode cX9_drops 52 = .ok (.aload_n 0, 1) := by decide +kernel
theorem dX9_drops_53 : decode cX9_drops 53 = .ok (.getfield 25, 3) := by decide +kernel
theorem dX9_drops_56 : decode cX9_drops 56 = .ok (.iload 5, 2) := by decide +kernel
theorem dX9_drops_58 : decode cX9_drops 58 = .ok (.iaload, 1) := by decide +kernel
theorem dX9_drops_59 : decode cX9_drops 59 = .ok (.invokevirtual 140, 3) := by decide +kernel
theorem dX9_drops_62 : decode cX9_drops 62 = .ok (.iadd, 1) := by decide +kernel
theorem dX9_drops_63 : decode cX9_drops 63 = .ok (.iastore, 1) := by decide +kernel
theorem dX9_drops_64 : decode cX9_drops 64 = .ok (.aload_n 0, 1) := by decide +kernel
theorem dX9_drops_65 : decode cX9_drops 65 = .ok (.iload_n 1, 1) := by decide +kernel
theorem dX9_drops_66 : decode cX9_drops 66 = .ok (.iconst 1, 1) := by decide +kernel
theorem dX9_drops_67 : decode cX9_drops 67 = .ok (.iload 5, 2) := by decide +kernel
theorem dX9_drops_69 : decode cX9_drops 69 = .ok (.ishl, 1) := by decide +kernel
theorem dX9_drops_70 : decode cX9_drops 70 = .ok (.iconst (-1), 1) := by decide +kernel
theorem dX9_drops_71 : decode cX9_drops 71 = .ok (.ixor, 1) := by decide +kernel
theorem dX9_drops_72 : decode cX9_drops 72 = .ok (.iand, 1) := by decide +kernel
theorem dX9_drops_73 : decode cX9_drops 73 = .ok (.iload_n 2, 1) := by decide +kernel
theorem dX9_drops_74 : decode cX9_drops 74 = .ok (.iconst 1, 1) := by decide +kernel
theorem dX9_drops_75 : decode cX9_drops 75 = .ok (.iadd, 1) := by decide +kernel
theorem dX9_drops_76 : decode cX9_drops 76 = .ok (.aload_n 0, 1) := by decide +kernel
theorem dX9_drops_77 : decode cX9_drops 77 = .ok (.getfield 62, 3) := by decide +kernel
theorem dX9_drops_80 : decode cX9_drops 80 = .ok (.iload 5, 2) := by decide +kernel
theorem dX9_drops_82 : decode cX9_drops 82 = .ok (.iaload, 1) := by decide +kernel
theorem dX9_drops_83 : decode cX9_drops 83 = .ok (.aload_n 0, 1) := by decide +kernel
theorem dX9_drops_84 : decode cX9_drops 84 = .ok (.getfield 25, 3) := by decide +kernel
theorem dX9_drops_87 : decode cX9_drops 87 = .ok (.iload 5, 2) := by decide +kernel
theorem dX9_drops_89 : decode cX9_drops 89 = .ok (.iaload, 1) := by decide +kernel
theorem dX9_drops_90 : decode cX9_drops 90 = .ok (.invokevirtual 165, 3) := by decide +kernel
theorem dX9_drops_93 : decode cX9_drops 93 = .ok (.iinc 5 1, 3) := by decide +kernel
theorem dX9_drops_96 : decode cX9_drops 96 = .ok (.goto (-83), 3) := by decide +kernel
theorem dX9_drops_99 : decode cX9_drops 99 = .ok (.return_, 1) := by decide +kernel
theorem dX9_looks_0 : decode cX9_looks 0 = .ok (.iload_n 1, 1) := by decide +kernel
theorem dX9_looks_1 : decode cX9_looks 1 = .ok (.aload_n 0, 1) := by decide +kernel
theorem dX9_looks_2 : decode cX9_looks 2 = .ok (.getfield 152, 3) := by decide +kernel
theorem dX9_looks_5 : decode cX9_looks 5 = .ok (.if_icmp .lt 4, 3) := by decide +kernel
theorem dX9_looks_8 : decode cX9_looks 8 = .ok (.return_, 1) := by decide +kernel
theorem dX9_looks_9 : decode cX9_looks 9 = .ok (.iconst 0, 1) := by decide +kernel
theorem dX9_looks_10 : decode cX9_looks 10 = .ok (.istore_n 2, 1) := by decide +kernel
theorem dX9_looks_11 : decode cX9_looks 11 = .ok (.sipush 1440, 3) := by decide +kernel
theorem dX9_looks_14 : decode cX9_looks 14 = .ok (.iload_n 1, 1) := by decide +kernel
theorem dX9_looks_15 : decode cX9_looks 15 = .ok (.isub, 1) := by decide +kernel
theorem dX9_looks_16 : decode cX9_looks 16 = .ok (.istore_n 3, 1) := by decide +kernel
theorem dX9_looks_17 : decode cX9_looks 17 = .ok (.iconst 0, 1) := by decide +kernel
theorem dX9_looks_18 : decode cX9_looks 18 = .ok (.istore 4, 2) := by decide +kernel
theorem dX9_looks_20 : decode cX9_looks 20 = .ok (.iload 4, 2) := by decide +kernel
theorem dX9_looks_22 : decode cX9_looks 22 = .ok (.aload_n 0, 1) := by decide +kernel
theorem dX9_looks_23 : decode cX9_looks 23 = .ok (.getfield 158, 3) := by decide +kernel
theorem dX9_looks_26 : decode cX9_looks 26 = .ok (.if_icmp .ge 103, 3) := by decide +kernel
theorem dX9_looks_29 : decode cX9_looks 29 = .ok (.aload_n 0, 1) := by decide +kernel
theorem dX9_looks_30 : decode cX9_looks 30 = .ok (.getfield 53, 3) := by decide +kernel
theorem dX9_looks_33 : decode cX9_looks 33 = .ok (.iload 4, 2) := by decide +kernel
theorem dX9_looks_35 : decode cX9_looks 35 = .ok (.iaload, 1) := by decide +kernel
theorem dX9_looks_36 : decode cX9_looks 36 = .ok (.istore 5, 2) := by decide +kernel
theorem dX9_looks_38 : decode cX9_looks 38 = .ok (.aload_n 0, 1) := by decide +kernel
theorem dX9_looks_39 : decode cX9_looks 39 = .ok (.getfield 62, 3) := by decide +kernel
theorem dX9_looks_42 : decode cX9_looks 42 = .ok (.iload 5, 2) := by decide +kernel
theorem dX9_looks_44 : decode cX9_looks 44 = .ok (.iaload, 1) := by decide +kernel
theorem dX9_looks_45 : decode cX9_looks 45 = .ok (.aload_n 0, 1) := by decide +kernel
theorem dX9_looks_46 : decode cX9_looks 46 = .ok (.getfield 59, 3) := by decide +kernel
theorem dX9_looks_49 : decode cX9_looks 49 = .ok (.iload 5, 2) := by decide +kernel
theorem dX9_looks_51 : decode cX9_looks 51 = .ok (.iaload, 1) := by decide +kernel
theorem dX9_looks_52 : decode cX9_looks 52 = .ok (.isub, 1) := by decide +kernel
theorem dX9_looks_53 : decode cX9_looks 53 = .ok (.aload_n 0, 1) := by decide +kernel
theorem dX9_looks_54 : decode cX9_looks 54 = .ok (.aload_n 0, 1) := by decide +kernel
theorem dX9_looks_55 : decode cX9_looks 55 = .ok (.getfield 22, 3) := by decide +kernel
theorem dX9_looks_58 : decode cX9_looks 58 = .ok (.iload 5, 2) := by decide +kernel
theorem dX9_looks_60 : decode cX9_looks 60 = .ok (.iaload, 1) := by decide +kernel
theorem dX9_looks_61 : decode cX9_looks 61 = .ok (.aload_n 0, 1) := by decide +kernel
theorem dX9_looks_62 : decode cX9_looks 62 = .ok (.getfield 25, 3) := by decide +kernel
theorem dX9_looks_65 : decode cX9_looks 65 = .ok (.iload 5, 2) := by decide +kernel
theorem dX9_looks_67 : decode cX9_looks 67 = .ok (.iaload, 1) := by decide +kernel
theorem dX9_looks_68 : decode cX9_looks 68 = .ok (.invokevirtual 140, 3) := by decide +kernel
theorem dX9_looks_71 : decode cX9_looks 71 = .ok (.aload_n 0, 1) := by decide +kernel
theorem dX9_looks_72 : decode cX9_looks 72 = .ok (.getfield 34, 3) := by decide +kernel
theorem dX9_looks_75 : decode cX9_looks 75 = .ok (.iload 5, 2) := by decide +kernel
theorem dX9_looks_77 : decode cX9_looks 77 = .ok (.iaload, 1) := by decide +kernel
theorem dX9_looks_78 : decode cX9_looks 78 = .ok (.iadd, 1) := by decide +kernel
theorem dX9_looks_79 : decode cX9_looks 79 = .ok (.if_icmp .le 4, 3) := by decide +kernel
theorem dX9_looks_82 : decode cX9_looks 82 = .ok (.return_, 1) := by decide +kernel
theorem dX9_looks_83 : decode cX9_looks 83 = .ok (.iload_n 2, 1) := by decide +kernel
theorem dX9_looks_84 : decode cX9_looks 84 = .ok (.aload_n 0, 1) := by decide +kernel
theorem dX9_looks_85 : decode cX9_looks 85 = .ok (.getfield 28, 3) := by decide +kernel
theorem dX9_looks_88 : decode cX9_looks 88 = .ok (.iload 5, 2) := by decide +kernel
theorem dX9_looks_90 : decode cX9_looks 90 = .ok (.iaload, 1) := by decide +kernel
theorem dX9_looks_91 : decode cX9_looks 91 = .ok (.aload_n 0, 1) := by decide +kernel
theorem dX9_looks_92 : decode cX9_looks 92 = .ok (.getfield 59, 3) := by decide +kernel
theorem dX9_looks_95 : decode cX9_looks 95 = .ok (.iload 5, 2) := by decide +kernel
theorem dX9_looks_97 : decode cX9_looks 97 = .ok (.iaload, 1) := by decide +kernel
theorem dX9_looks_98 : decode cX9_looks 98 = .ok (.isub, 1) := by decide +kernel
theorem dX9_looks_99 : decode cX9_looks 99 = .ok (.invokestatic 172, 3) := by decide +kernel
theorem dX9_looks_102 : decode cX9_looks 102 = .ok (.istore_n 2, 1) := by decide +kernel
theorem dX9_looks_103 : decode cX9_looks 103 = .ok (.iload_n 3, 1) := by decide +kernel
theorem dX9_looks_104 : decode cX9_looks 104 = .ok (.aload_n 0, 1) := by decide +kernel
theorem dX9_looks_105 : decode cX9_looks 105 = .ok (.getfield 31, 3) := by decide +kernel
theorem dX9_looks_108 : decode cX9_looks 108 = .ok (.iload 5, 2) := by decide +kernel
theorem dX9_looks_110 : decode cX9_looks 110 = .ok (.iaload, 1) := by decide +kernel
theorem dX9_looks_111 : decode cX9_looks 111 = .ok (.aload_n 0, 1) := by decide +kernel
theorem dX9_looks_112 : decode cX9_looks 112 = .ok (.getfield 62, 3) := by decide +kernel
theorem dX9_looks_115 : decode cX9_looks 115 = .ok (.iload 5, 2) := by decide +kernel
theorem dX9_looks_117 : decode cX9_looks 117 = .ok (.iaload, 1) := by decide +kernel
theorem dX9_looks_118 : decode cX9_looks 118 = .ok (.isub, 1) := by decide +kernel
theorem dX9_looks_119 : decode cX9_looks 119 = .ok (.invokestatic 123, 3) := by decide +kernel
theorem dX9_looks_122 : decode cX9_looks 122 = .ok (.istore_n 3, 1) := by decide +kernel
theorem dX9_looks_123 : decode cX9_looks 123 = .ok (.iinc 4 1, 3) := by decide +kernel
theorem dX9_looks_126 : decode cX9_looks 126 = .ok (.goto (-106), 3) := by decide +kernel
theorem dX9_looks_129 : decode cX9_looks 129 = .ok (.iload_n 2, 1) := by decide +kernel
theorem dX9_looks_130 : decode cX9_looks 130 = .ok (.iload_n 3, 1) := by decide +kernel
theorem dX9_looks_131 : decode cX9_looks 131 = .ok (.if_icmp .le 4, 3) := by decide +kernel
theorem dX9_looks_134 : decode cX9_looks 134 = .ok (.return_, 1) := by decide +kernel
theorem dX9_looks_135 : decode cX9_looks 135 = .ok (.aload_n 0, 1) := by decide +kernel
theorem dX9_looks_136 : decode cX9_looks 136 = .ok (.iload_n 1, 1) := by decide +kernel
theorem dX9_looks_137 : decode cX9_looks 137 = .ok (.putfield 152, 3) := by decide +kernel
theorem dX9_looks_140 : decode cX9_looks 140 = .ok (.aload_n 0, 1) := by decide +kernel
theorem dX9_looks_141 : decode cX9_looks 141 = .ok (.iload_n 3, 1) := by decide +kernel
theorem dX9_looks_142 : decode cX9_looks 142 = .ok (.putfield 175, 3) := by decide +kernel
theorem dX9_looks_145 : decode cX9_looks 145 = .ok (.iconst 0, 1) := by decide +kernel
theorem dX9_looks_146 : decode cX9_looks 146 = .ok (.istore 4, 2) := by decide +kernel
theorem dX9_looks_148 : decode cX9_looks 148 = .ok (.iload 4, 2) := by decide +kernel
theorem dX9_looks_150 : decode cX9_looks 150 = .ok (.aload_n 0, 1) := by decide +kernel
theorem dX9_looks_151 : decode cX9_looks 151 = .ok (.getfield 158, 3) := by decide +kernel
theorem dX9_looks_154 : decode cX9_looks 154 = .ok (.if_icmp .ge 85, 3) := by decide +kernel
theorem dX9_looks_157 : decode cX9_looks 157 = .ok (.aload_n 0, 1) := by decide +kernel
theorem dX9_looks_158 : decode cX9_looks 158 = .ok (.getfield 65, 3) := by decide +kernel
theorem dX9_looks_161 : decode cX9_looks 161 = .ok (.iload 4, 2) := by decide +kernel
theorem dX9_looks_163 : decode cX9_looks 163 = .ok (.aload_n 0, 1) := by decide +kernel
theorem dX9_looks_164 : decode cX9_looks 164 = .ok (.getfield 53, 3) := by decide +kernel
theorem dX9_looks_167 : decode cX9_looks 167 = .ok (.iload 4, 2) := by decide +kernel
theorem dX9_looks_169 : decode cX9_looks 169 = .ok (.iaload, 1) := by decide +kernel
theorem dX9_looks_170 : decode cX9_looks 170 = .ok (.iastore, 1) := by decide +kernel
theorem dX9_looks_171 : decode cX9_looks 171 = .ok (.aload_n 0, 1) := by decide +kernel
theorem dX9_looks_172 : decode cX9_looks 172 = .ok (.getfield 68, 3) := by decide +kernel
theorem dX9_looks_175 : decode cX9_looks 175 = .ok (.iload 4, 2) := by decide +kernel
theorem dX9_looks_177 : decode cX9_looks 177 = .ok (.aload_n 0, 1) := by decide +kernel
theorem dX9_looks_178 : decode cX9_looks 178 = .ok (.getfield 56, 3) := by decide +kernel
theorem dX9_looks_181 : decode cX9_looks 181 = .ok (.iload 4, 2) := by decide +kernel
theorem dX9_looks_183 : decode cX9_looks 183 = .ok (.iaload, 1) := by decide +kernel
theorem dX9_looks_184 : decode cX9_looks 184 = .ok (.iastore, 1) := by decide +kernel
theorem dX9_looks_185 : decode cX9_looks 185 = .ok (.aload_n 0, 1) := by decide +kernel
theorem dX9_looks_186 : decode cX9_looks 186 = .ok (.getfield 71, 3) := by decide +kernel
theorem dX9_looks_189 : decode cX9_looks 189 = .ok (.aload_n 0, 1) := by decide +kernel
theorem dX9_looks_190 : decode cX9_looks 190 = .ok (.getfield 53, 3) := by decide +kernel
theorem dX9_looks_193 : decode cX9_looks 193 = .ok (.iload 4, 2) := by decide +kernel
theorem dX9_looks_195 : decode cX9_looks 195 = .ok (.iaload, 1) := by decide +kernel
theorem dX9_looks_196 : decode cX9_looks 196 = .ok (.aload_n 0, 1) := by decide +kernel
theorem dX9_looks_197 : decode cX9_looks 197 = .ok (.getfield 59, 3) := by decide +kernel
theorem dX9_looks_200 : decode cX9_looks 200 = .ok (.aload_n 0, 1) := by decide +kernel
theorem dX9_looks_201 : decode cX9_looks 201 = .ok (.getfield 53, 3) := by decide +kernel
theorem dX9_looks_204 : decode cX9_looks 204 = .ok (.iload 4, 2) := by decide +kernel
theorem dX9_looks_206 : decode cX9_looks 206 = .ok (.iaload, 1) := by decide +kernel
theorem dX9_looks_207 : decode cX9_looks 207 = .ok (.iaload, 1) := by decide +kernel
theorem dX9_looks_208 : decode cX9_looks 208 = .ok (.iastore, 1) := by decide +kernel
theorem dX9_looks_209 : decode cX9_looks 209 = .ok (.aload_n 0, 1) := by decide +kernel
theorem dX9_looks_210 : decode cX9_looks 210 = .ok (.getfield 74, 3) := by decide +kernel
theorem dX9_looks_213 : decode cX9_looks 213 = .ok (.aload_n 0, 1) := by decide +kernel
theorem dX9_looks_214 : decode cX9_looks 214 = .ok (.getfield 53, 3) := by decide +kernel
theorem dX9_looks_217 : decode cX9_looks 217 = .ok (.iload 4, 2) := by decide +kernel
theorem dX9_looks_219 : decode cX9_looks 219 = .ok (.iaload, 1) := by decide +kernel
theorem dX9_looks_220 : decode cX9_looks 220 = .ok (.aload_n 0, 1) := by decide +kernel
theorem dX9_looks_221 : decode cX9_looks 221 = .ok (.getfield 62, 3) := by decide +kernel
theorem dX9_looks_224 : decode cX9_looks 224 = .ok (.aload_n 0, 1) := by decide +kernel
theorem dX9_looks_225 : decode cX9_looks 225 = .ok (.getfield 53, 3) := by decide +kernel
theorem dX9_looks_228 : decode cX9_looks 228 = .ok (.iload 4, 2) := by decide +kernel
theorem dX9_looks_230 : decode cX9_looks 230 = .ok (.iaload, 1) := by decide +kernel
theorem dX9_looks_231 : decode cX9_looks 231 = .ok (.iaload, 1) := by decide +kernel
theorem dX9_looks_232 : decode cX9_looks 232 = .ok (.iastore, 1) := by decide +kernel
theorem dX9_looks_233 : decode cX9_looks 233 = .ok (.iinc 4 1, 3) := by decide +kernel
theorem dX9_looks_236 : decode cX9_looks 236 = .ok (.goto (-88), 3) := by decide +kernel
theorem dX9_looks_239 : decode cX9_looks 239 = .ok (.return_, 1) := by decide +kernel
theorem dX9_isSet_0 : decode cX9_isSet 0 = .ok (.iload_n 1, 1) := by decide +kernel
theorem dX9_isSet_1 : decode cX9_isSet 1 = .ok (.ifCond .le 25, 3) := by decide +kernel
theorem dX9_isSet_4 : decode cX9_isSet 4 = .ok (.iload_n 1, 1) := by decide +kernel
theorem dX9_isSet_5 : decode cX9_isSet 5 = .ok (.iconst 1, 1) := by decide +kernel
theorem dX9_isSet_6 : decode cX9_isSet 6 = .ok (.aload_n 0, 1) := by decide +kernel
theorem dX9_isSet_7 : decode cX9_isSet 7 = .ok (.getfield 143, 3) := by decide +kernel
theorem dX9_isSet_10 : decode cX9_isSet 10 = .ok (.ishl, 1) := by decide +kernel
theorem dX9_isSet_11 : decode cX9_isSet 11 = .ok (.if_icmp .ge 15, 3) := by decide +kernel
theorem dX9_isSet_14 : decode cX9_isSet 14 = .ok (.iload_n 1, 1) := by decide +kernel
theorem dX9_isSet_15 : decode cX9_isSet 15 = .ok (.invokestatic 155, 3) := by decide +kernel
theorem dX9_isSet_18 : decode cX9_isSet 18 = .ok (.iconst 4, 1) := by decide +kernel
theorem dX9_isSet_19 : decode cX9_isSet 19 = .ok (.if_icmp .gt 7, 3) := by decide +kernel
theorem dX9_isSet_22 : decode cX9_isSet 22 = .ok (.iconst 1, 1) := by decide +kernel
theorem dX9_isSet_23 : decode cX9_isSet 23 = .ok (.goto 4, 3) := by decide +kernel
theorem dX9_isSet_26 : decode cX9_isSet 26 = .ok (.iconst 0, 1) := by decide +kernel
theorem dX9_isSet_27 : decode cX9_isSet 27 = .ok (.ireturn, 1) := by decide +kernel
theorem dX9_hasAway_0 : decode cX9_hasAway 0 = .ok (.iconst 0, 1) := by decide +kernel
theorem dX9_hasAway_1 : decode cX9_hasAway 1 = .ok (.istore_n 2, 1) := by decide +kernel
theorem dX9_hasAway_2 : decode cX9_hasAway 2 = .ok (.iconst 0, 1) := by decide +kernel
theorem dX9_hasAway_3 : decode cX9_hasAway 3 = .ok (.istore_n 3, 1) := by decide +kernel
theorem dX9_hasAway_4 : decode cX9_hasAway 4 = .ok (.iload_n 3, 1) := by decide +kernel
theorem dX9_hasAway_5 : decode cX9_hasAway 5 = .ok (.aload_n 0, 1) := by decide +kernel
theorem dX9_hasAway_6 : decode cX9_hasAway 6 = .ok (.getfield 143, 3) := by decide +kernel
theorem dX9_hasAway_9 : decode cX9_hasAway 9 = .ok (.if_icmp .ge 37, 3) := by decide +kernel
theorem dX9_hasAway_12 : decode cX9_hasAway 12 = .ok (.iload_n 2, 1) := by decide +kernel
theorem dX9_hasAway_13 : decode cX9_hasAway 13 = .ok (.ifCond .ne 33, 3) := by decide +kernel
theorem dX9_hasAway_16 : decode cX9_hasAway 16 = .ok (.iload_n 1, 1) := by decide +kernel
theorem dX9_hasAway_17 : decode cX9_hasAway 17 = .ok (.iload_n 3, 1) := by decide +kernel
theorem dX9_hasAway_18 : decode cX9_hasAway 18 = .ok (.ishr, 1) := by decide +kernel
theorem dX9_hasAway_19 : decode cX9_hasAway 19 = .ok (.iconst 1, 1) := by decide +kernel
theorem dX9_hasAway_20 : decode cX9_hasAway 20 = .ok (.iand, 1) := by decide +kernel
theorem dX9_hasAway_21 : decode cX9_hasAway 21 = .ok (.iconst 1, 1) := by decide +kernel
theorem dX9_hasAway_22 : decode cX9_hasAway 22 = .ok (.if_icmp .ne 16, 3) := by decide +kernel
theorem dX9_hasAway_25 : decode cX9_hasAway 25 = .ok (.aload_n 0, 1) := by decide +kernel
theorem dX9_hasAway_26 : decode cX9_hasAway 26 = .ok (.getfield 46, 3) := by decide +kernel
theorem dX9_hasAway_29 : decode cX9_hasAway 29 = .ok (.iload_n 3, 1) := by decide +kernel
theorem dX9_hasAway_30 : decode cX9_hasAway 30 = .ok (.baload, 1) := by decide +kernel
theorem dX9_hasAway_31 : decode cX9_hasAway 31 = .ok (.ifCond .eq 7, 3) := by decide +kernel
theorem dX9_hasAway_34 : decode cX9_hasAway 34 = .ok (.iconst 1, 1) := by decide +kernel
theorem dX9_hasAway_35 : decode cX9_hasAway 35 = .ok (.goto 4, 3) := by decide +kernel
theorem dX9_hasAway_38 : decode cX9_hasAway 38 = .ok (.iconst 0, 1) := by decide +kernel
theorem dX9_hasAway_39 : decode cX9_hasAway 39 = .ok (.istore_n 2, 1) := by decide +kernel
theorem dX9_hasAway_40 : decode cX9_hasAway 40 = .ok (.iinc 3 1, 3) := by decide +kernel
theorem dX9_hasAway_43 : decode cX9_hasAway 43 = .ok (.goto (-39), 3) := by decide +kernel
theorem dX9_hasAway_46 : decode cX9_hasAway 46 = .ok (.iload_n 2, 1) := by decide +kernel
theorem dX9_hasAway_47 : decode cX9_hasAway 47 = .ok (.ireturn, 1) := by decide +kernel
theorem dX9_wrong_0 : decode cX9_wrong 0 = .ok (.aload_n 0, 1) := by decide +kernel
theorem dX9_wrong_1 : decode cX9_wrong 1 = .ok (.iload_n 1, 1) := by decide +kernel
theorem dX9_wrong_2 : decode cX9_wrong 2 = .ok (.invokevirtual 178, 3) := by decide +kernel
theorem dX9_wrong_5 : decode cX9_wrong 5 = .ok (.ifCond .eq 19, 3) := by decide +kernel
theorem dX9_wrong_8 : decode cX9_wrong 8 = .ok (.aload_n 0, 1) := by decide +kernel
theorem dX9_wrong_9 : decode cX9_wrong 9 = .ok (.iload_n 2, 1) := by decide +kernel
theorem dX9_wrong_10 : decode cX9_wrong 10 = .ok (.invokevirtual 147, 3) := by decide +kernel
theorem dX9_wrong_13 : decode cX9_wrong 13 = .ok (.ifCond .eq 11, 3) := by decide +kernel
theorem dX9_wrong_16 : decode cX9_wrong 16 = .ok (.iload_n 1, 1) := by decide +kernel
theorem dX9_wrong_17 : decode cX9_wrong 17 = .ok (.iload_n 2, 1) := by decide +kernel
theorem dX9_wrong_18 : decode cX9_wrong 18 = .ok (.ishr, 1) := by decide +kernel
theorem dX9_wrong_19 : decode cX9_wrong 19 = .ok (.iconst 1, 1) := by decide +kernel
theorem dX9_wrong_20 : decode cX9_wrong 20 = .ok (.iand, 1) := by decide +kernel
theorem dX9_wrong_21 : decode cX9_wrong 21 = .ok (.ifCond .ne 5, 3) := by decide +kernel
theorem dX9_wrong_24 : decode cX9_wrong 24 = .ok (.iconst (-1), 1) := by decide +kernel
theorem dX9_wrong_25 : decode cX9_wrong 25 = .ok (.ireturn, 1) := by decide +kernel
theorem dX9_wrong_26 : decode cX9_wrong 26 = .ok (.aload_n 0, 1) := by decide +kernel
theorem dX9_wrong_27 : decode cX9_wrong 27 = .ok (.iload_n 1, 1) := by decide +kernel
theorem dX9_wrong_28 : decode cX9_wrong 28 = .ok (.invokevirtual 181, 3) := by decide +kernel
theorem dX9_wrong_31 : decode cX9_wrong 31 = .ok (.ifCond .eq 8, 3) := by decide +kernel
theorem dX9_wrong_34 : decode cX9_wrong 34 = .ok (.bipush (-3), 2) := by decide +kernel
theorem dX9_wrong_36 : decode cX9_wrong 36 = .ok (.goto 4, 3) := by decide +kernel
theorem dX9_wrong_39 : decode cX9_wrong 39 = .ok (.iconst 0, 1) := by decide +kernel
theorem dX9_wrong_40 : decode cX9_wrong 40 = .ok (.ireturn, 1) := by decide +kernel
theorem dX9_fits_0 : decode cX9_fits 0 = .ok (.aload_n 0, 1) := by decide +kernel
theorem dX9_fits_1 : decode cX9_fits 1 = .ok (.iload_n 1, 1) := by decide +kernel
theorem dX9_fits_2 : decode cX9_fits 2 = .ok (.iload_n 2, 1) := by decide +kernel
theorem dX9_fits_3 : decode cX9_fits 3 = .ok (.invokevirtual 184, 3) := by decide +kernel
theorem dX9_fits_6 : decode cX9_fits 6 = .ok (.istore_n 3, 1) := by decide +kernel
theorem dX9_fits_7 : decode cX9_fits 7 = .ok (.iload_n 3, 1) := by decide +kernel
theorem dX9_fits_8 : decode cX9_fits 8 = .ok (.ifCond .eq 9, 3) := by decide +kernel
theorem dX9_fits_11 : decode cX9_fits 11 = .ok (.aload_n 0, 1) := by decide +kernel
theorem dX9_fits_12 : decode cX9_fits 12 = .ok (.iload_n 3, 1) := by decide +kernel
theorem dX9_fits_13 : decode cX9_fits 13 = .ok (.invokevirtual 136, 3) := by decide +kernel
theorem dX9_fits_16 : decode cX9_fits 16 = .ok (.ireturn, 1) := by decide +kernel
theorem dX9_fits_17 : decode cX9_fits 17 = .ok (.aload_n 0, 1) := by decide +kernel
theorem dX9_fits_18 : decode cX9_fits 18 = .ok (.iload_n 1, 1) := by decide +kernel
theorem dX9_fits_19 : decode cX9_fits 19 = .ok (.iload_n 2, 1) := by decide +kernel
theorem dX9_fits_20 : decode cX9_fits 20 = .ok (.invokevirtual 187, 3) := by decide +kernel
theorem dX9_fits_23 : decode cX9_fits 23 = .ok (.ifCond .ne 10, 3) := by decide +kernel
theorem dX9_fits_26 : decode cX9_fits 26 = .ok (.aload_n 0, 1) := by decide +kernel
theorem dX9_fits_27 : decode cX9_fits 27 = .ok (.getfield 152, 3) := by decide +kernel
theorem dX9_fits_30 : decode cX9_fits 30 = .ok (.goto 5, 3) := by decide +kernel
theorem dX9_fits_33 : decode cX9_fits 33 = .ok (.bipush (-9), 2) := by decide +kernel
theorem dX9_fits_35 : decode cX9_fits 35 = .ok (.ireturn, 1) := by decide +kernel
theorem dX9_why_0 : decode cX9_why 0 = .ok (.aload_n 0, 1) := by decide +kernel
theorem dX9_why_1 : decode cX9_why 1 = .ok (.iload_n 1, 1) := by decide +kernel
theorem dX9_why_2 : decode cX9_why 2 = .ok (.iload_n 2, 1) := by decide +kernel
theorem dX9_why_3 : decode cX9_why 3 = .ok (.invokevirtual 184, 3) := by decide +kernel
theorem dX9_why_6 : decode cX9_why 6 = .ok (.istore_n 3, 1) := by decide +kernel
theorem dX9_why_7 : decode cX9_why 7 = .ok (.iload_n 3, 1) := by decide +kernel
theorem dX9_why_8 : decode cX9_why 8 = .ok (.ifCond .eq 11, 3) := by decide +kernel
theorem dX9_why_11 : decode cX9_why 11 = .ok (.aload_n 0, 1) := by decide +kernel
theorem dX9_why_12 : decode cX9_why 12 = .ok (.iload_n 3, 1) := by decide +kernel
theorem dX9_why_13 : decode cX9_why 13 = .ok (.invokevirtual 136, 3) := by decide +kernel
theorem dX9_why_16 : decode cX9_why 16 = .ok (.goto 9, 3) := by decide +kernel
theorem dX9_why_19 : decode cX9_why 19 = .ok (.aload_n 0, 1) := by decide +kernel
theorem dX9_why_20 : decode cX9_why 20 = .ok (.iload_n 1, 1) := by decide +kernel
theorem dX9_why_21 : decode cX9_why 21 = .ok (.iload_n 2, 1) := by decide +kernel
theorem dX9_why_22 : decode cX9_why 22 = .ok (.invokevirtual 187, 3) := by decide +kernel
theorem dX9_why_25 : decode cX9_why 25 = .ok (.ireturn, 1) := by decide +kernel
theorem dX9_way_0 : decode cX9_way 0 = .ok (.aload_n 0, 1) := by decide +kernel
theorem dX9_way_1 : decode cX9_way 1 = .ok (.iload_n 1, 1) := by decide +kernel
theorem dX9_way_2 : decode cX9_way 2 = .ok (.iload_n 2, 1) := by decide +kernel
theorem dX9_way_3 : decode cX9_way 3 = .ok (.invokevirtual 184, 3) := by decide +kernel
theorem dX9_way_6 : decode cX9_way 6 = .ok (.istore 4, 2) := by decide +kernel
theorem dX9_way_8 : decode cX9_way 8 = .ok (.iload 4, 2) := by decide +kernel
theorem dX9_way_10 : decode cX9_way 10 = .ok (.ifCond .eq 10, 3) := by decide +kernel
theorem dX9_way_13 : decode cX9_way 13 = .ok (.aload_n 0, 1) := by decide +kernel
theorem dX9_way_14 : decode cX9_way 14 = .ok (.iload 4, 2) := by decide +kernel
theorem dX9_way_16 : decode cX9_way 16 = .ok (.invokevirtual 136, 3) := by decide +kernel
theorem dX9_way_19 : decode cX9_way 19 = .ok (.ireturn, 1) := by decide +kernel
theorem dX9_way_20 : decode cX9_way 20 = .ok (.aload_n 0, 1) := by decide +kernel
theorem dX9_way_21 : decode cX9_way 21 = .ok (.iload_n 1, 1) := by decide +kernel
theorem dX9_way_22 : decode cX9_way 22 = .ok (.iload_n 2, 1) := by decide +kernel
theorem dX9_way_23 : decode cX9_way 23 = .ok (.invokevirtual 187, 3) := by decide +kernel
theorem dX9_way_26 : decode cX9_way 26 = .ok (.ifCond .eq 6, 3) := by decide +kernel
theorem dX9_way_29 : decode cX9_way 29 = .ok (.bipush (-9), 2) := by decide +kernel
theorem dX9_way_31 : decode cX9_way 31 = .ok (.ireturn, 1) := by decide +kernel
theorem dX9_way_32 : decode cX9_way 32 = .ok (.iload_n 3, 1) := by decide +kernel
theorem dX9_way_33 : decode cX9_way 33 = .ok (.ifCond .ne 8, 3) := by decide +kernel
theorem dX9_way_36 : decode cX9_way 36 = .ok (.aload_n 0, 1) := by decide +kernel
theorem dX9_way_37 : decode cX9_way 37 = .ok (.getfield 175, 3) := by decide +kernel
theorem dX9_way_40 : decode cX9_way 40 = .ok (.ireturn, 1) := by decide +kernel
theorem dX9_way_41 : decode cX9_way 41 = .ok (.iload_n 3, 1) := by decide +kernel
theorem dX9_way_42 : decode cX9_way 42 = .ok (.iconst 1, 1) := by decide +kernel
theorem dX9_way_43 : decode cX9_way 43 = .ok (.if_icmp .ne 13, 3) := by decide +kernel
theorem dX9_way_46 : decode cX9_way 46 = .ok (.aload_n 0, 1) := by decide +kernel
theorem dX9_way_47 : decode cX9_way 47 = .ok (.getfield 175, 3) := by decide +kernel
theorem dX9_way_50 : decode cX9_way 50 = .ok (.aload_n 0, 1) := by decide +kernel
theorem dX9_way_51 : decode cX9_way 51 = .ok (.getfield 152, 3) := by decide +kernel
theorem dX9_way_54 : decode cX9_way 54 = .ok (.iadd, 1) := by decide +kernel
theorem dX9_way_55 : decode cX9_way 55 = .ok (.ireturn, 1) := by decide +kernel
theorem dX9_way_56 : decode cX9_way 56 = .ok (.iload_n 3, 1) := by decide +kernel
theorem dX9_way_57 : decode cX9_way 57 = .ok (.iconst 2, 1) := by decide +kernel
theorem dX9_way_58 : decode cX9_way 58 = .ok (.isub, 1) := by decide +kernel
theorem dX9_way_59 : decode cX9_way 59 = .ok (.aload_n 0, 1) := by decide +kernel
theorem dX9_way_60 : decode cX9_way 60 = .ok (.getfield 158, 3) := by decide +kernel
theorem dX9_way_63 : decode cX9_way 63 = .ok (.invokestatic 132, 3) := by decide +kernel
theorem dX9_way_66 : decode cX9_way 66 = .ok (.ifCond .eq 12, 3) := by decide +kernel
theorem dX9_way_69 : decode cX9_way 69 = .ok (.aload_n 0, 1) := by decide +kernel
theorem dX9_way_70 : decode cX9_way 70 = .ok (.getfield 65, 3) := by decide +kernel
theorem dX9_way_73 : decode cX9_way 73 = .ok (.iload_n 3, 1) := by decide +kernel
theorem dX9_way_74 : decode cX9_way 74 = .ok (.iconst 2, 1) := by decide +kernel
theorem dX9_way_75 : decode cX9_way 75 = .ok (.isub, 1) := by decide +kernel
theorem dX9_way_76 : decode cX9_way 76 = .ok (.iaload, 1) := by decide +kernel
theorem dX9_way_77 : decode cX9_way 77 = .ok (.ireturn, 1) := by decide +kernel
theorem dX9_way_78 : decode cX9_way 78 = .ok (.iload_n 3, 1) := by decide +kernel
theorem dX9_way_79 : decode cX9_way 79 = .ok (.bipush 11, 2) := by decide +kernel
theorem dX9_way_81 : decode cX9_way 81 = .ok (.if_icmp .le 29, 3) := by decide +kernel
theorem dX9_way_84 : decode cX9_way 84 = .ok (.iload_n 3, 1) := by decide +kernel
theorem dX9_way_85 : decode cX9_way 85 = .ok (.bipush 12, 2) := by decide +kernel
theorem dX9_way_87 : decode cX9_way 87 = .ok (.isub, 1) := by decide +kernel
theorem dX9_way_88 : decode cX9_way 88 = .ok (.aload_n 0, 1) := by decide +kernel
theorem dX9_way_89 : decode cX9_way 89 = .ok (.getfield 158, 3) := by decide +kernel
theorem dX9_way_92 : decode cX9_way 92 = .ok (.invokestatic 132, 3) := by decide +kernel
theorem dX9_way_95 : decode cX9_way 95 = .ok (.ifCond .eq 15, 3) := by decide +kernel
theorem dX9_way_98 : decode cX9_way 98 = .ok (.aload_n 0, 1) := by decide +kernel
theorem dX9_way_99 : decode cX9_way 99 = .ok (.getfield 68, 3) := by decide +kernel
theorem dX9_way_102 : decode cX9_way 102 = .ok (.iload_n 3, 1) := by decide +kernel
theorem dX9_way_103 : decode cX9_way 103 = .ok (.bipush 12, 2) := by decide +kernel
theorem dX9_way_105 : decode cX9_way 105 = .ok (.isub, 1) := by decide +kernel
theorem dX9_way_106 : decode cX9_way 106 = .ok (.iaload, 1) := by decide +kernel
theorem dX9_way_107 : decode cX9_way 107 = .ok (.goto 5, 3) := by decide +kernel
theorem dX9_way_110 : decode cX9_way 110 = .ok (.bipush (-9), 2) := by decide +kernel
theorem dX9_way_112 : decode cX9_way 112 = .ok (.ireturn, 1) := by decide +kernel
theorem dX9_know_0 : decode cX9_know 0 = .ok (.aload_n 0, 1) := by decide +kernel
theorem dX9_know_1 : decode cX9_know 1 = .ok (.getfield 119, 3) := by decide +kernel
theorem dX9_know_4 : decode cX9_know 4 = .ok (.ifCond .eq 4, 3) := by decide +kernel
theorem dX9_know_7 : decode cX9_know 7 = .ok (.return_, 1) := by decide +kernel
theorem dX9_know_8 : decode cX9_know 8 = .ok (.aload_n 0, 1) := by decide +kernel
theorem dX9_know_9 : decode cX9_know 9 = .ok (.iconst 1, 1) := by decide +kernel
theorem dX9_know_10 : decode cX9_know 10 = .ok (.putfield 119, 3) := by decide +kernel
theorem dX9_know_13 : decode cX9_know 13 = .ok (.iconst 1, 1) := by decide +kernel
theorem dX9_know_14 : decode cX9_know 14 = .ok (.istore_n 1, 1) := by decide +kernel
theorem dX9_know_15 : decode cX9_know 15 = .ok (.iload_n 1, 1) := by decide +kernel
theorem dX9_know_16 : decode cX9_know 16 = .ok (.iconst 1, 1) := by decide +kernel
theorem dX9_know_17 : decode cX9_know 17 = .ok (.aload_n 0, 1) := by decide +kernel
theorem dX9_know_18 : decode cX9_know 18 = .ok (.getfield 143, 3) := by decide +kernel
theorem dX9_know_21 : decode cX9_know 21 = .ok (.ishl, 1) := by decide +kernel
theorem dX9_know_22 : decode cX9_know 22 = .ok (.if_icmp .ge 132, 3) := by decide +kernel
theorem dX9_know_25 : decode cX9_know 25 = .ok (.aload_n 0, 1) := by decide +kernel
theorem dX9_know_26 : decode cX9_know 26 = .ok (.getfield 77, 3) := by decide +kernel
theorem dX9_know_29 : decode cX9_know 29 = .ok (.iload_n 1, 1) := by decide +kernel
theorem dX9_know_30 : decode cX9_know 30 = .ok (.ldc 151, 2) := by decide +kernel
theorem dX9_know_32 : decode cX9_know 32 = .ok (.iastore, 1) := by decide +kernel
theorem dX9_know_33 : decode cX9_know 33 = .ok (.aload_n 0, 1) := by decide +kernel
theorem dX9_know_34 : decode cX9_know 34 = .ok (.getfield 80, 3) := by decide +kernel
theorem dX9_know_37 : decode cX9_know 37 = .ok (.iload_n 1, 1) := by decide +kernel
theorem dX9_know_38 : decode cX9_know 38 = .ok (.bipush (-9), 2) := by decide +kernel
theorem dX9_know_40 : decode cX9_know 40 = .ok (.iastore, 1) := by decide +kernel
theorem dX9_know_41 : decode cX9_know 41 = .ok (.aload_n 0, 1) := by decide +kernel
theorem dX9_know_42 : decode cX9_know 42 = .ok (.getfield 83, 3) := by decide +kernel
theorem dX9_know_45 : decode cX9_know 45 = .ok (.iload_n 1, 1) := by decide +kernel
theorem dX9_know_46 : decode cX9_know 46 = .ok (.iconst 0, 1) := by decide +kernel
theorem dX9_know_47 : decode cX9_know 47 = .ok (.iastore, 1) := by decide +kernel
theorem dX9_know_48 : decode cX9_know 48 = .ok (.aload_n 0, 1) := by decide +kernel
theorem dX9_know_49 : decode cX9_know 49 = .ok (.iload_n 1, 1) := by decide +kernel
theorem dX9_know_50 : decode cX9_know 50 = .ok (.invokevirtual 178, 3) := by decide +kernel
theorem dX9_know_53 : decode cX9_know 53 = .ok (.ifCond .eq 95, 3) := by decide +kernel
theorem dX9_know_56 : decode cX9_know 56 = .ok (.aload_n 0, 1) := by decide +kernel
theorem dX9_know_57 : decode cX9_know 57 = .ok (.iload_n 1, 1) := by decide +kernel
theorem dX9_know_58 : decode cX9_know 58 = .ok (.invokevirtual 181, 3) := by decide +kernel
theorem dX9_know_61 : decode cX9_know 61 = .ok (.ifCond .eq 6, 3) := by decide +kernel
theorem dX9_know_64 : decode cX9_know 64 = .ok (.goto 84, 3) := by decide +kernel
theorem dX9_know_67 : decode cX9_know 67 = .ok (.iconst 0, 1) := by decide +kernel
theorem dX9_know_68 : decode cX9_know 68 = .ok (.istore_n 2, 1) := by decide +kernel
theorem dX9_know_69 : decode cX9_know 69 = .ok (.iload_n 2, 1) := by decide +kernel
theorem dX9_know_70 : decode cX9_know 70 = .ok (.aload_n 0, 1) := by decide +kernel
theorem dX9_know_71 : decode cX9_know 71 = .ok (.getfield 143, 3) := by decide +kernel
theorem dX9_know_74 : decode cX9_know 74 = .ok (.if_icmp .ge 74, 3) := by decide +kernel
theorem dX9_know_77 : decode cX9_know 77 = .ok (.iload_n 1, 1) := by decide +kernel
theorem dX9_know_78 : decode cX9_know 78 = .ok (.iload_n 2, 1) := by decide +kernel
theorem dX9_know_79 : decode cX9_know 79 = .ok (.ishr, 1) := by decide +kernel
theorem dX9_know_80 : decode cX9_know 80 = .ok (.iconst 1, 1) := by decide +kernel
theorem dX9_know_81 : decode cX9_know 81 = .ok (.iand, 1) := by decide +kernel
theorem dX9_know_82 : decode cX9_know 82 = .ok (.ifCond .eq 60, 3) := by decide +kernel
theorem dX9_know_85 : decode cX9_know 85 = .ok (.aload_n 0, 1) := by decide +kernel
theorem dX9_know_86 : decode cX9_know 86 = .ok (.iload_n 1, 1) := by decide +kernel
theorem dX9_know_87 : decode cX9_know 87 = .ok (.iload_n 2, 1) := by decide +kernel
theorem dX9_know_88 : decode cX9_know 88 = .ok (.invokevirtual 187, 3) := by decide +kernel
theorem dX9_know_91 : decode cX9_know 91 = .ok (.ifCond .eq 6, 3) := by decide +kernel
theorem dX9_know_94 : decode cX9_know 94 = .ok (.goto 48, 3) := by decide +kernel
theorem dX9_know_97 : decode cX9_know 97 = .ok (.aload_n 0, 1) := by decide +kernel
theorem dX9_know_98 : decode cX9_know 98 = .ok (.getfield 83, 3) := by decide +kernel
theorem dX9_know_101 : decode cX9_know 101 = .ok (.iload_n 1, 1) := by decide +kernel
theorem dX9_know_102 : decode cX9_know 102 = .ok (.dup2, 1) := by decide +kernel
theorem dX9_know_103 : decode cX9_know 103 = .ok (.iaload, 1) := by decide +kernel
theorem dX9_know_104 : decode cX9_know 104 = .ok (.iconst 1, 1) := by decide +kernel
theorem dX9_know_105 : decode cX9_know 105 = .ok (.iload_n 2, 1) := by decide +kernel
theorem dX9_know_106 : decode cX9_know 106 = .ok (.ishl, 1) := by decide +kernel
theorem dX9_know_107 : decode cX9_know 107 = .ok (.ior, 1) := by decide +kernel
theorem dX9_know_108 : decode cX9_know 108 = .ok (.iastore, 1) := by decide +kernel
theorem dX9_know_109 : decode cX9_know 109 = .ok (.aload_n 0, 1) := by decide +kernel
theorem dX9_know_110 : decode cX9_know 110 = .ok (.getfield 152, 3) := by decide +kernel
theorem dX9_know_113 : decode cX9_know 113 = .ok (.aload_n 0, 1) := by decide +kernel
theorem dX9_know_114 : decode cX9_know 114 = .ok (.getfield 77, 3) := by decide +kernel
theorem dX9_know_117 : decode cX9_know 117 = .ok (.iload_n 1, 1) := by decide +kernel
theorem dX9_know_118 : decode cX9_know 118 = .ok (.iaload, 1) := by decide +kernel
theorem dX9_know_119 : decode cX9_know 119 = .ok (.if_icmp .lt 6, 3) := by decide +kernel
theorem dX9_know_122 : decode cX9_know 122 = .ok (.goto 20, 3) := by decide +kernel
theorem dX9_know_125 : decode cX9_know 125 = .ok (.aload_n 0, 1) := by decide +kernel
theorem dX9_know_126 : decode cX9_know 126 = .ok (.getfield 77, 3) := by decide +kernel
theorem dX9_know_129 : decode cX9_know 129 = .ok (.iload_n 1, 1) := by decide +kernel
theorem dX9_know_130 : decode cX9_know 130 = .ok (.aload_n 0, 1) := by decide +kernel
theorem dX9_know_131 : decode cX9_know 131 = .ok (.getfield 152, 3) := by decide +kernel
theorem dX9_know_134 : decode cX9_know 134 = .ok (.iastore, 1) := by decide +kernel
theorem dX9_know_135 : decode cX9_know 135 = .ok (.aload_n 0, 1) := by decide +kernel
theorem dX9_know_136 : decode cX9_know 136 = .ok (.getfield 80, 3) := by decide +kernel
theorem dX9_know_139 : decode cX9_know 139 = .ok (.iload_n 1, 1) := by decide +kernel
theorem dX9_know_140 : decode cX9_know 140 = .ok (.iload_n 2, 1) := by decide +kernel
theorem dX9_know_141 : decode cX9_know 141 = .ok (.iastore, 1) := by decide +kernel
theorem dX9_know_142 : decode cX9_know 142 = .ok (.iinc 2 1, 3) := by decide +kernel
theorem dX9_know_145 : decode cX9_know 145 = .ok (.goto (-76), 3) := by decide +kernel
theorem dX9_know_148 : decode cX9_know 148 = .ok (.iinc 1 1, 3) := by decide +kernel
theorem dX9_know_151 : decode cX9_know 151 = .ok (.goto (-136), 3) := by decide +kernel
theorem dX9_know_154 : decode cX9_know 154 = .ok (.return_, 1) := by decide +kernel
theorem dX9_wrongSet_0 : decode cX9_wrongSet 0 = .ok (.aload_n 0, 1) := by decide +kernel
theorem dX9_wrongSet_1 : decode cX9_wrongSet 1 = .ok (.iload_n 1, 1) := by decide +kernel
theorem dX9_wrongSet_2 : decode cX9_wrongSet 2 = .ok (.invokevirtual 178, 3) := by decide +kernel
theorem dX9_wrongSet_5 : decode cX9_wrongSet 5 = .ok (.ifCond .ne 7, 3) := by decide +kernel
theorem dX9_wrongSet_8 : decode cX9_wrongSet 8 = .ok (.iconst (-1), 1) := by decide +kernel
theorem dX9_wrongSet_9 : decode cX9_wrongSet 9 = .ok (.goto 17, 3) := by decide +kernel
theorem dX9_wrongSet_12 : decode cX9_wrongSet 12 = .ok (.aload_n 0, 1) := by decide +kernel
theorem dX9_wrongSet_13 : decode cX9_wrongSet 13 = .ok (.iload_n 1, 1) := by decide +kernel
theorem dX9_wrongSet_14 : decode cX9_wrongSet 14 = .ok (.invokevirtual 181, 3) := by decide +kernel
theorem dX9_wrongSet_17 : decode cX9_wrongSet 17 = .ok (.ifCond .eq 8, 3) := by decide +kernel
theorem dX9_wrongSet_20 : decode cX9_wrongSet 20 = .ok (.bipush (-3), 2) := by decide +kernel
theorem dX9_wrongSet_22 : decode cX9_wrongSet 22 = .ok (.goto 4, 3) := by decide +kernel
theorem dX9_wrongSet_25 : decode cX9_wrongSet 25 = .ok (.iconst 0, 1) := by decide +kernel
theorem dX9_wrongSet_26 : decode cX9_wrongSet 26 = .ok (.ireturn, 1) := by decide +kernel
theorem dX9_cost_0 : decode cX9_cost 0 = .ok (.aload_n 0, 1) := by decide +kernel
theorem dX9_cost_1 : decode cX9_cost 1 = .ok (.iload_n 1, 1) := by decide +kernel
theorem dX9_cost_2 : decode cX9_cost 2 = .ok (.invokevirtual 190, 3) := by decide +kernel
theorem dX9_cost_5 : decode cX9_cost 5 = .ok (.istore_n 2, 1) := by decide +kernel
theorem dX9_cost_6 : decode cX9_cost 6 = .ok (.iload_n 2, 1) := by decide +kernel
theorem dX9_cost_7 : decode cX9_cost 7 = .ok (.ifCond .eq 9, 3) := by decide +kernel
theorem dX9_cost_10 : decode cX9_cost 10 = .ok (.aload_n 0, 1) := by decide +kernel
theorem dX9_cost_11 : decode cX9_cost 11 = .ok (.iload_n 2, 1) := by decide +kernel
theorem dX9_cost_12 : decode cX9_cost 12 = .ok (.invokevirtual 136, 3) := by decide +kernel
theorem dX9_cost_15 : decode cX9_cost 15 = .ok (.ireturn, 1) := by decide +kernel
theorem dX9_cost_16 : decode cX9_cost 16 = .ok (.aload_n 0, 1) := by decide +kernel
theorem dX9_cost_17 : decode cX9_cost 17 = .ok (.invokevirtual 193, 3) := by decide +kernel
theorem dX9_cost_20 : decode cX9_cost 20 = .ok (.aload_n 0, 1) := by decide +kernel
theorem dX9_cost_21 : decode cX9_cost 21 = .ok (.getfield 80, 3) := by decide +kernel
theorem dX9_cost_24 : decode cX9_cost 24 = .ok (.iload_n 1, 1) := by decide +kernel
theorem dX9_cost_25 : decode cX9_cost 25 = .ok (.iaload, 1) := by decide +kernel
theorem dX9_cost_26 : decode cX9_cost 26 = .ok (.ifCond .ge 8, 3) := by decide +kernel
theorem dX9_cost_29 : decode cX9_cost 29 = .ok (.bipush (-9), 2) := by decide +kernel
theorem dX9_cost_31 : decode cX9_cost 31 = .ok (.goto 9, 3) := by decide +kernel
theorem dX9_cost_34 : decode cX9_cost 34 = .ok (.aload_n 0, 1) := by decide +kernel
theorem dX9_cost_35 : decode cX9_cost 35 = .ok (.getfield 77, 3) := by decide +kernel
theorem dX9_cost_38 : decode cX9_cost 38 = .ok (.iload_n 1, 1) := by decide +kernel
theorem dX9_cost_39 : decode cX9_cost 39 = .ok (.iaload, 1) := by decide +kernel
theorem dX9_cost_40 : decode cX9_cost 40 = .ok (.ireturn, 1) := by decide +kernel
theorem dX9_driver_0 : decode cX9_driver 0 = .ok (.aload_n 0, 1) := by decide +kernel
theorem dX9_driver_1 : decode cX9_driver 1 = .ok (.iload_n 1, 1) := by decide +kernel
theorem dX9_driver_2 : decode cX9_driver 2 = .ok (.invokevirtual 190, 3) := by decide +kernel
theorem dX9_driver_5 : decode cX9_driver 5 = .ok (.istore_n 2, 1) := by decide +kernel
theorem dX9_driver_6 : decode cX9_driver 6 = .ok (.iload_n 2, 1) := by decide +kernel
theorem dX9_driver_7 : decode cX9_driver 7 = .ok (.ifCond .eq 9, 3) := by decide +kernel
theorem dX9_driver_10 : decode cX9_driver 10 = .ok (.aload_n 0, 1) := by decide +kernel
theorem dX9_driver_11 : decode cX9_driver 11 = .ok (.iload_n 2, 1) := by decide +kernel
theorem dX9_driver_12 : decode cX9_driver 12 = .ok (.invokevirtual 136, 3) := by decide +kernel
theorem dX9_driver_15 : decode cX9_driver 15 = .ok (.ireturn, 1) := by decide +kernel
theorem dX9_driver_16 : decode cX9_driver 16 = .ok (.aload_n 0, 1) := by decide +kernel
theorem dX9_driver_17 : decode cX9_driver 17 = .ok (.invokevirtual 193, 3) := by decide +kernel
theorem dX9_driver_20 : decode cX9_driver 20 = .ok (.aload_n 0, 1) := by decide +kernel
theorem dX9_driver_21 : decode cX9_driver 21 = .ok (.getfield 80, 3) := by decide +kernel
theorem dX9_driver_24 : decode cX9_driver 24 = .ok (.iload_n 1, 1) := by decide +kernel
theorem dX9_driver_25 : decode cX9_driver 25 = .ok (.iaload, 1) := by decide +kernel
theorem dX9_driver_26 : decode cX9_driver 26 = .ok (.ireturn, 1) := by decide +kernel
theorem dX9_turnOf_0 : decode cX9_turnOf 0 = .ok (.aload_n 0, 1) := by decide +kernel
theorem dX9_turnOf_1 : decode cX9_turnOf 1 = .ok (.invokevirtual 193, 3) := by decide +kernel
theorem dX9_turnOf_4 : decode cX9_turnOf 4 = .ok (.bipush (-9), 2) := by decide +kernel
theorem dX9_turnOf_6 : decode cX9_turnOf 6 = .ok (.istore_n 2, 1) := by decide +kernel
theorem dX9_turnOf_7 : decode cX9_turnOf 7 = .ok (.iconst 0, 1) := by decide +kernel
theorem dX9_turnOf_8 : decode cX9_turnOf 8 = .ok (.istore_n 3, 1) := by decide +kernel
theorem dX9_turnOf_9 : decode cX9_turnOf 9 = .ok (.iload_n 3, 1) := by decide +kernel
theorem dX9_turnOf_10 : decode cX9_turnOf 10 = .ok (.aload_n 0, 1) := by decide +kernel
theorem dX9_turnOf_11 : decode cX9_turnOf 11 = .ok (.getfield 143, 3) := by decide +kernel
theorem dX9_turnOf_14 : decode cX9_turnOf 14 = .ok (.if_icmp .ge 44, 3) := by decide +kernel
theorem dX9_turnOf_17 : decode cX9_turnOf 17 = .ok (.aload_n 0, 1) := by decide +kernel
theorem dX9_turnOf_18 : decode cX9_turnOf 18 = .ok (.getfield 83, 3) := by decide +kernel
theorem dX9_turnOf_21 : decode cX9_turnOf 21 = .ok (.iload_n 1, 1) := by decide +kernel
theorem dX9_turnOf_22 : decode cX9_turnOf 22 = .ok (.iaload, 1) := by decide +kernel
theorem dX9_turnOf_23 : decode cX9_turnOf 23 = .ok (.iload_n 3, 1) := by decide +kernel
theorem dX9_turnOf_24 : decode cX9_turnOf 24 = .ok (.ishr, 1) := by decide +kernel
theorem dX9_turnOf_25 : decode cX9_turnOf 25 = .ok (.iconst 1, 1) := by decide +kernel
theorem dX9_turnOf_26 : decode cX9_turnOf 26 = .ok (.iand, 1) := by decide +kernel
theorem dX9_turnOf_27 : decode cX9_turnOf 27 = .ok (.iconst 1, 1) := by decide +kernel
theorem dX9_turnOf_28 : decode cX9_turnOf 28 = .ok (.if_icmp .ne 24, 3) := by decide +kernel
theorem dX9_turnOf_31 : decode cX9_turnOf 31 = .ok (.iload_n 2, 1) := by decide +kernel
theorem dX9_turnOf_32 : decode cX9_turnOf 32 = .ok (.ifCond .lt 18, 3) := by decide +kernel
theorem dX9_turnOf_35 : decode cX9_turnOf 35 = .ok (.aload_n 0, 1) := by decide +kernel
theorem dX9_turnOf_36 : decode cX9_turnOf 36 = .ok (.getfield 43, 3) := by decide +kernel
theorem dX9_turnOf_39 : decode cX9_turnOf 39 = .ok (.iload_n 3, 1) := by decide +kernel
theorem dX9_turnOf_40 : decode cX9_turnOf 40 = .ok (.iaload, 1) := by decide +kernel
theorem dX9_turnOf_41 : decode cX9_turnOf 41 = .ok (.aload_n 0, 1) := by decide +kernel
theorem dX9_turnOf_42 : decode cX9_turnOf 42 = .ok (.getfield 43, 3) := by decide +kernel
theorem dX9_turnOf_45 : decode cX9_turnOf 45 = .ok (.iload_n 2, 1) := by decide +kernel
theorem dX9_turnOf_46 : decode cX9_turnOf 46 = .ok (.iaload, 1) := by decide +kernel
theorem dX9_turnOf_47 : decode cX9_turnOf 47 = .ok (.if_icmp .ge 5, 3) := by decide +kernel
theorem dX9_turnOf_50 : decode cX9_turnOf 50 = .ok (.iload_n 3, 1) := by decide +kernel
theorem dX9_turnOf_51 : decode cX9_turnOf 51 = .ok (.istore_n 2, 1) := by decide +kernel
theorem dX9_turnOf_52 : decode cX9_turnOf 52 = .ok (.iinc 3 1, 3) := by decide +kernel
theorem dX9_turnOf_55 : decode cX9_turnOf 55 = .ok (.goto (-46), 3) := by decide +kernel
theorem dX9_turnOf_58 : decode cX9_turnOf 58 = .ok (.iload_n 2, 1) := by decide +kernel
theorem dX9_turnOf_59 : decode cX9_turnOf 59 = .ok (.ireturn, 1) := by decide +kernel
theorem dX9_turn_0 : decode cX9_turn 0 = .ok (.aload_n 0, 1) := by decide +kernel
theorem dX9_turn_1 : decode cX9_turn 1 = .ok (.iload_n 1, 1) := by decide +kernel
theorem dX9_turn_2 : decode cX9_turn 2 = .ok (.invokevirtual 190, 3) := by decide +kernel
theorem dX9_turn_5 : decode cX9_turn 5 = .ok (.istore_n 2, 1) := by decide +kernel
theorem dX9_turn_6 : decode cX9_turn 6 = .ok (.iload_n 2, 1) := by decide +kernel
theorem dX9_turn_7 : decode cX9_turn 7 = .ok (.ifCond .eq 11, 3) := by decide +kernel
theorem dX9_turn_10 : decode cX9_turn 10 = .ok (.aload_n 0, 1) := by decide +kernel
theorem dX9_turn_11 : decode cX9_turn 11 = .ok (.iload_n 2, 1) := by decide +kernel
theorem dX9_turn_12 : decode cX9_turn 12 = .ok (.invokevirtual 136, 3) := by decide +kernel
theorem dX9_turn_15 : decode cX9_turn 15 = .ok (.goto 8, 3) := by decide +kernel
theorem dX9_turn_18 : decode cX9_turn 18 = .ok (.aload_n 0, 1) := by decide +kernel
theorem dX9_turn_19 : decode cX9_turn 19 = .ok (.iload_n 1, 1) := by decide +kernel
theorem dX9_turn_20 : decode cX9_turn 20 = .ok (.invokevirtual 196, 3) := by decide +kernel
theorem dX9_turn_23 : decode cX9_turn 23 = .ok (.ireturn, 1) := by decide +kernel
theorem dX9_present_0 : decode cX9_present 0 = .ok (.iconst 0, 1) := by decide +kernel
theorem dX9_present_1 : decode cX9_present 1 = .ok (.istore_n 1, 1) := by decide +kernel
theorem dX9_present_2 : decode cX9_present 2 = .ok (.iconst 0, 1) := by decide +kernel
theorem dX9_present_3 : decode cX9_present 3 = .ok (.istore_n 2, 1) := by decide +kernel
theorem dX9_present_4 : decode cX9_present 4 = .ok (.iload_n 2, 1) := by decide +kernel
theorem dX9_present_5 : decode cX9_present 5 = .ok (.aload_n 0, 1) := by decide +kernel
theorem dX9_present_6 : decode cX9_present 6 = .ok (.getfield 143, 3) := by decide +kernel
theorem dX9_present_9 : decode cX9_present 9 = .ok (.if_icmp .ge 28, 3) := by decide +kernel
theorem dX9_present_12 : decode cX9_present 12 = .ok (.iload_n 1, 1) := by decide +kernel
theorem dX9_present_13 : decode cX9_present 13 = .ok (.aload_n 0, 1) := by decide +kernel
theorem dX9_present_14 : decode cX9_present 14 = .ok (.getfield 46, 3) := by decide +kernel
theorem dX9_present_17 : decode cX9_present 17 = .ok (.iload_n 2, 1) := by decide +kernel
theorem dX9_present_18 : decode cX9_present 18 = .ok (.baload, 1) := by decide +kernel
theorem dX9_present_19 : decode cX9_present 19 = .ok (.ifCond .eq 7, 3) := by decide +kernel
theorem dX9_present_22 : decode cX9_present 22 = .ok (.iconst 0, 1) := by decide +kernel
theorem dX9_present_23 : decode cX9_present 23 = .ok (.goto 6, 3) := by decide +kernel
theorem dX9_present_26 : decode cX9_present 26 = .ok (.iconst 1, 1) := by decide +kernel
theorem dX9_present_27 : decode cX9_present 27 = .ok (.iload_n 2, 1) := by decide +kernel
