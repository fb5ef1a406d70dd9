/-! DECODE ROWS (by program) of methods 137 to 159. -/
theorem d137_0 : decode (pm_code 137) 0 = .ok (.aload_n 0, 1) := by decide +kernel
theorem d137_1 : decode (pm_code 137) 1 = .ok (.getfield 16, 3) := by decide +kernel
theorem d137_4 : decode (pm_code 137) 4 = .ok (.aload_n 0, 1) := by decide +kernel
theorem d137_5 : decode (pm_code 137) 5 = .ok (.getfield 150, 3) := by decide +kernel
theorem d137_8 : decode (pm_code 137) 8 = .ok (.iload_n 1, 1) := by decide +kernel
theorem d137_9 : decode (pm_code 137) 9 = .ok (.iastore, 1) := by decide +kernel
theorem d137_10 : decode (pm_code 137) 10 = .ok (.aload_n 0, 1) := by decide +kernel
theorem d137_11 : decode (pm_code 137) 11 = .ok (.getfield 19, 3) := by decide +kernel
theorem d137_14 : decode (pm_code 137) 14 = .ok (.aload_n 0, 1) := by decide +kernel
theorem d137_15 : decode (pm_code 137) 15 = .ok (.getfield 150, 3) := by decide +kernel
theorem d137_18 : decode (pm_code 137) 18 = .ok (.iload_n 2, 1) := by decide +kernel
theorem d137_19 : decode (pm_code 137) 19 = .ok (.iastore, 1) := by decide +kernel
theorem d137_20 : decode (pm_code 137) 20 = .ok (.aload_n 0, 1) := by decide +kernel
theorem d137_21 : decode (pm_code 137) 21 = .ok (.getfield 22, 3) := by decide +kernel
theorem d137_24 : decode (pm_code 137) 24 = .ok (.aload_n 0, 1) := by decide +kernel
theorem d137_25 : decode (pm_code 137) 25 = .ok (.getfield 150, 3) := by decide +kernel
theorem d137_28 : decode (pm_code 137) 28 = .ok (.iload_n 3, 1) := by decide +kernel
theorem d137_29 : decode (pm_code 137) 29 = .ok (.iastore, 1) := by decide +kernel
theorem d137_30 : decode (pm_code 137) 30 = .ok (.aload_n 0, 1) := by decide +kernel
theorem d137_31 : decode (pm_code 137) 31 = .ok (.getfield 25, 3) := by decide +kernel
theorem d137_34 : decode (pm_code 137) 34 = .ok (.aload_n 0, 1) := by decide +kernel
theorem d137_35 : decode (pm_code 137) 35 = .ok (.getfield 150, 3) := by decide +kernel
theorem d137_38 : decode (pm_code 137) 38 = .ok (.iload 4, 2) := by decide +kernel
theorem d137_40 : decode (pm_code 137) 40 = .ok (.iastore, 1) := by decide +kernel
theorem d137_41 : decode (pm_code 137) 41 = .ok (.aload_n 0, 1) := by decide +kernel
theorem d137_42 : decode (pm_code 137) 42 = .ok (.dup, 1) := by decide +kernel
theorem d137_43 : decode (pm_code 137) 43 = .ok (.getfield 150, 3) := by decide +kernel
theorem d137_46 : decode (pm_code 137) 46 = .ok (.iconst 1, 1) := by decide +kernel
theorem d137_47 : decode (pm_code 137) 47 = .ok (.iadd, 1) := by decide +kernel
theorem d137_48 : decode (pm_code 137) 48 = .ok (.putfield 150, 3) := by decide +kernel
theorem d137_51 : decode (pm_code 137) 51 = .ok (.aload_n 0, 1) := by decide +kernel
theorem d137_52 : decode (pm_code 137) 52 = .ok (.getfield 150, 3) := by decide +kernel
theorem d137_55 : decode (pm_code 137) 55 = .ok (.iconst 1, 1) := by decide +kernel
theorem d137_56 : decode (pm_code 137) 56 = .ok (.isub, 1) := by decide +kernel
theorem d137_57 : decode (pm_code 137) 57 = .ok (.ireturn, 1) := by decide +kernel
theorem d138_0 : decode (pm_code 138) 0 = .ok (.aload_n 0, 1) := by decide +kernel
theorem d138_1 : decode (pm_code 138) 1 = .ok (.getfield 31, 3) := by decide +kernel
theorem d138_4 : decode (pm_code 138) 4 = .ok (.aload_n 0, 1) := by decide +kernel
theorem d138_5 : decode (pm_code 138) 5 = .ok (.getfield 153, 3) := by decide +kernel
theorem d138_8 : decode (pm_code 138) 8 = .ok (.iload_n 2, 1) := by decide +kernel
theorem d138_9 : decode (pm_code 138) 9 = .ok (.iastore, 1) := by decide +kernel
theorem d138_10 : decode (pm_code 138) 10 = .ok (.aload_n 0, 1) := by decide +kernel
theorem d138_11 : decode (pm_code 138) 11 = .ok (.getfield 34, 3) := by decide +kernel
theorem d138_14 : decode (pm_code 138) 14 = .ok (.aload_n 0, 1) := by decide +kernel
theorem d138_15 : decode (pm_code 138) 15 = .ok (.getfield 153, 3) := by decide +kernel
theorem d138_18 : decode (pm_code 138) 18 = .ok (.iload_n 1, 1) := by decide +kernel
theorem d138_19 : decode (pm_code 138) 19 = .ok (.iastore, 1) := by decide +kernel
theorem d138_20 : decode (pm_code 138) 20 = .ok (.aload_n 0, 1) := by decide +kernel
theorem d138_21 : decode (pm_code 138) 21 = .ok (.getfield 40, 3) := by decide +kernel
theorem d138_24 : decode (pm_code 138) 24 = .ok (.aload_n 0, 1) := by decide +kernel
theorem d138_25 : decode (pm_code 138) 25 = .ok (.getfield 153, 3) := by decide +kernel
theorem d138_28 : decode (pm_code 138) 28 = .ok (.iload_n 3, 1) := by decide +kernel
theorem d138_29 : decode (pm_code 138) 29 = .ok (.iastore, 1) := by decide +kernel
theorem d138_30 : decode (pm_code 138) 30 = .ok (.aload_n 0, 1) := by decide +kernel
theorem d138_31 : decode (pm_code 138) 31 = .ok (.getfield 28, 3) := by decide +kernel
theorem d138_34 : decode (pm_code 138) 34 = .ok (.iload_n 3, 1) := by decide +kernel
theorem d138_35 : decode (pm_code 138) 35 = .ok (.aload_n 0, 1) := by decide +kernel
theorem d138_36 : decode (pm_code 138) 36 = .ok (.getfield 153, 3) := by decide +kernel
theorem d138_39 : decode (pm_code 138) 39 = .ok (.iastore, 1) := by decide +kernel
theorem d138_40 : decode (pm_code 138) 40 = .ok (.aload_n 0, 1) := by decide +kernel
theorem d138_41 : decode (pm_code 138) 41 = .ok (.dup, 1) := by decide +kernel
theorem d138_42 : decode (pm_code 138) 42 = .ok (.getfield 153, 3) := by decide +kernel
theorem d138_45 : decode (pm_code 138) 45 = .ok (.iconst 1, 1) := by decide +kernel
theorem d138_46 : decode (pm_code 138) 46 = .ok (.iadd, 1) := by decide +kernel
theorem d138_47 : decode (pm_code 138) 47 = .ok (.putfield 153, 3) := by decide +kernel
theorem d138_50 : decode (pm_code 138) 50 = .ok (.aload_n 0, 1) := by decide +kernel
theorem d138_51 : decode (pm_code 138) 51 = .ok (.getfield 153, 3) := by decide +kernel
theorem d138_54 : decode (pm_code 138) 54 = .ok (.iconst 1, 1) := by decide +kernel
theorem d138_55 : decode (pm_code 138) 55 = .ok (.isub, 1) := by decide +kernel
theorem d138_56 : decode (pm_code 138) 56 = .ok (.ireturn, 1) := by decide +kernel
theorem d139_0 : decode (pm_code 139) 0 = .ok (.iload_n 1, 1) := by decide +kernel
theorem d139_1 : decode (pm_code 139) 1 = .ok (.bipush 84, 2) := by decide +kernel
theorem d139_3 : decode (pm_code 139) 3 = .ok (.if_icmp .eq 15, 3) := by decide +kernel
theorem d139_6 : decode (pm_code 139) 6 = .ok (.iload_n 1, 1) := by decide +kernel
theorem d139_7 : decode (pm_code 139) 7 = .ok (.bipush 80, 2) := by decide +kernel
theorem d139_9 : decode (pm_code 139) 9 = .ok (.if_icmp .lt 34, 3) := by decide +kernel
theorem d139_12 : decode (pm_code 139) 12 = .ok (.iload_n 1, 1) := by decide +kernel
theorem d139_13 : decode (pm_code 139) 13 = .ok (.bipush 83, 2) := by decide +kernel
theorem d139_15 : decode (pm_code 139) 15 = .ok (.if_icmp .gt 28, 3) := by decide +kernel
theorem d139_18 : decode (pm_code 139) 18 = .ok (.aload_n 0, 1) := by decide +kernel
theorem d139_19 : decode (pm_code 139) 19 = .ok (.iload_n 1, 1) := by decide +kernel
theorem d139_20 : decode (pm_code 139) 20 = .ok (.bipush 84, 2) := by decide +kernel
theorem d139_22 : decode (pm_code 139) 22 = .ok (.if_icmp .ne 7, 3) := by decide +kernel
theorem d139_25 : decode (pm_code 139) 25 = .ok (.iconst 0, 1) := by decide +kernel
theorem d139_26 : decode (pm_code 139) 26 = .ok (.goto 4, 3) := by decide +kernel
theorem d139_29 : decode (pm_code 139) 29 = .ok (.iconst 3, 1) := by decide +kernel
theorem d139_30 : decode (pm_code 139) 30 = .ok (.iload_n 1, 1) := by decide +kernel
theorem d139_31 : decode (pm_code 139) 31 = .ok (.bipush 80, 2) := by decide +kernel
theorem d139_33 : decode (pm_code 139) 33 = .ok (.isub, 1) := by decide +kernel
theorem d139_34 : decode (pm_code 139) 34 = .ok (.iload_n 2, 1) := by decide +kernel
theorem d139_35 : decode (pm_code 139) 35 = .ok (.iload 4, 2) := by decide +kernel
theorem d139_37 : decode (pm_code 139) 37 = .ok (.invokevirtual 156, 3) := by decide +kernel
theorem d139_40 : decode (pm_code 139) 40 = .ok (.pop, 1) := by decide +kernel
theorem d139_41 : decode (pm_code 139) 41 = .ok (.iconst 1, 1) := by decide +kernel
theorem d139_42 : decode (pm_code 139) 42 = .ok (.ireturn, 1) := by decide +kernel
theorem d139_43 : decode (pm_code 139) 43 = .ok (.iload_n 1, 1) := by decide +kernel
theorem d139_44 : decode (pm_code 139) 44 = .ok (.bipush 91, 2) := by decide +kernel
theorem d139_46 : decode (pm_code 139) 46 = .ok (.if_icmp .ne 24, 3) := by decide +kernel
theorem d139_49 : decode (pm_code 139) 49 = .ok (.aload_n 0, 1) := by decide +kernel
theorem d139_50 : decode (pm_code 139) 50 = .ok (.sipush 204, 3) := by decide +kernel
theorem d139_53 : decode (pm_code 139) 53 = .ok (.iload_n 3, 1) := by decide +kernel
theorem d139_54 : decode (pm_code 139) 54 = .ok (.iload 4, 2) := by decide +kernel
theorem d139_56 : decode (pm_code 139) 56 = .ok (.aload_n 0, 1) := by decide +kernel
theorem d139_57 : decode (pm_code 139) 57 = .ok (.iconst 4, 1) := by decide +kernel
theorem d139_58 : decode (pm_code 139) 58 = .ok (.iconst 0, 1) := by decide +kernel
theorem d139_59 : decode (pm_code 139) 59 = .ok (.iload_n 2, 1) := by decide +kernel
theorem d139_60 : decode (pm_code 139) 60 = .ok (.iload 4, 2) := by decide +kernel
theorem d139_62 : decode (pm_code 139) 62 = .ok (.invokevirtual 156, 3) := by decide +kernel
theorem d139_65 : decode (pm_code 139) 65 = .ok (.invokevirtual 160, 3) := by decide +kernel
theorem d139_68 : decode (pm_code 139) 68 = .ok (.iconst 1, 1) := by decide +kernel
theorem d139_69 : decode (pm_code 139) 69 = .ok (.ireturn, 1) := by decide +kernel
theorem d139_70 : decode (pm_code 139) 70 = .ok (.iload_n 3, 1) := by decide +kernel
theorem d139_71 : decode (pm_code 139) 71 = .ok (.bipush 24, 2) := by decide +kernel
theorem d139_73 : decode (pm_code 139) 73 = .ok (.if_icmp .eq 15, 3) := by decide +kernel
theorem d139_76 : decode (pm_code 139) 76 = .ok (.iload_n 1, 1) := by decide +kernel
theorem d139_77 : decode (pm_code 139) 77 = .ok (.bipush 40, 2) := by decide +kernel
theorem d139_79 : decode (pm_code 139) 79 = .ok (.if_icmp .eq 11, 3) := by decide +kernel
theorem d139_82 : decode (pm_code 139) 82 = .ok (.iload_n 1, 1) := by decide +kernel
theorem d139_83 : decode (pm_code 139) 83 = .ok (.bipush 60, 2) := by decide +kernel
theorem d139_85 : decode (pm_code 139) 85 = .ok (.if_icmp .eq 5, 3) := by decide +kernel
theorem d139_88 : decode (pm_code 139) 88 = .ok (.iconst 0, 1) := by decide +kernel
theorem d139_89 : decode (pm_code 139) 89 = .ok (.ireturn, 1) := by decide +kernel
theorem d139_90 : decode (pm_code 139) 90 = .ok (.aload_n 0, 1) := by decide +kernel
theorem d139_91 : decode (pm_code 139) 91 = .ok (.iload_n 1, 1) := by decide +kernel
theorem d139_92 : decode (pm_code 139) 92 = .ok (.bipush 40, 2) := by decide +kernel
theorem d139_94 : decode (pm_code 139) 94 = .ok (.if_icmp .ne 7, 3) := by decide +kernel
theorem d139_97 : decode (pm_code 139) 97 = .ok (.iconst 1, 1) := by decide +kernel
theorem d139_98 : decode (pm_code 139) 98 = .ok (.goto 4, 3) := by decide +kernel
theorem d139_101 : decode (pm_code 139) 101 = .ok (.iconst 2, 1) := by decide +kernel
theorem d139_102 : decode (pm_code 139) 102 = .ok (.iconst 0, 1) := by decide +kernel
theorem d139_103 : decode (pm_code 139) 103 = .ok (.iload_n 2, 1) := by decide +kernel
theorem d139_104 : decode (pm_code 139) 104 = .ok (.iload 4, 2) := by decide +kernel
theorem d139_106 : decode (pm_code 139) 106 = .ok (.invokevirtual 156, 3) := by decide +kernel
theorem d139_109 : decode (pm_code 139) 109 = .ok (.istore 5, 2) := by decide +kernel
theorem d139_111 : decode (pm_code 139) 111 = .ok (.iload_n 1, 1) := by decide +kernel
theorem d139_112 : decode (pm_code 139) 112 = .ok (.bipush 60, 2) := by decide +kernel
theorem d139_114 : decode (pm_code 139) 114 = .ok (.if_icmp .ne 15, 3) := by decide +kernel
theorem d139_117 : decode (pm_code 139) 117 = .ok (.aload_n 0, 1) := by decide +kernel
theorem d139_118 : decode (pm_code 139) 118 = .ok (.iconst 0, 1) := by decide +kernel
theorem d139_119 : decode (pm_code 139) 119 = .ok (.iload 4, 2) := by decide +kernel
theorem d139_121 : decode (pm_code 139) 121 = .ok (.iload 5, 2) := by decide +kernel
theorem d139_123 : decode (pm_code 139) 123 = .ok (.invokevirtual 164, 3) := by decide +kernel
theorem d139_126 : decode (pm_code 139) 126 = .ok (.goto 5, 3) := by decide +kernel
theorem d139_129 : decode (pm_code 139) 129 = .ok (.iload 4, 2) := by decide +kernel
theorem d139_131 : decode (pm_code 139) 131 = .ok (.istore 6, 2) := by decide +kernel
theorem d139_133 : decode (pm_code 139) 133 = .ok (.iload_n 1, 1) := by decide +kernel
theorem d139_134 : decode (pm_code 139) 134 = .ok (.bipush 40, 2) := by decide +kernel
theorem d139_136 : decode (pm_code 139) 136 = .ok (.if_icmp .ne 14, 3) := by decide +kernel
theorem d139_139 : decode (pm_code 139) 139 = .ok (.aload_n 0, 1) := by decide +kernel
theorem d139_140 : decode (pm_code 139) 140 = .ok (.bipush 41, 2) := by decide +kernel
theorem d139_142 : decode (pm_code 139) 142 = .ok (.iload_n 3, 1) := by decide +kernel
theorem d139_143 : decode (pm_code 139) 143 = .ok (.iload 4, 2) := by decide +kernel
theorem d139_145 : decode (pm_code 139) 145 = .ok (.iload 5, 2) := by decide +kernel
theorem d139_147 : decode (pm_code 139) 147 = .ok (.invokevirtual 160, 3) := by decide +kernel
theorem d139_150 : decode (pm_code 139) 150 = .ok (.aload_n 0, 1) := by decide +kernel
theorem d139_151 : decode (pm_code 139) 151 = .ok (.sipush 200, 3) := by decide +kernel
theorem d139_154 : decode (pm_code 139) 154 = .ok (.iload_n 3, 1) := by decide +kernel
theorem d139_155 : decode (pm_code 139) 155 = .ok (.iconst 1, 1) := by decide +kernel
theorem d139_156 : decode (pm_code 139) 156 = .ok (.iadd, 1) := by decide +kernel
theorem d139_157 : decode (pm_code 139) 157 = .ok (.iload 6, 2) := by decide +kernel
theorem d139_159 : decode (pm_code 139) 159 = .ok (.iload 5, 2) := by decide +kernel
theorem d139_161 : decode (pm_code 139) 161 = .ok (.invokevirtual 160, 3) := by decide +kernel
theorem d139_164 : decode (pm_code 139) 164 = .ok (.aload_n 0, 1) := by decide +kernel
theorem d139_165 : decode (pm_code 139) 165 = .ok (.bipush 62, 2) := by decide +kernel
theorem d139_167 : decode (pm_code 139) 167 = .ok (.iload_n 3, 1) := by decide +kernel
theorem d139_168 : decode (pm_code 139) 168 = .ok (.iload 4, 2) := by decide +kernel
theorem d139_170 : decode (pm_code 139) 170 = .ok (.iload 5, 2) := by decide +kernel
theorem d139_172 : decode (pm_code 139) 172 = .ok (.invokevirtual 160, 3) := by decide +kernel
theorem d139_175 : decode (pm_code 139) 175 = .ok (.aload_n 0, 1) := by decide +kernel
theorem d139_176 : decode (pm_code 139) 176 = .ok (.sipush 200, 3) := by decide +kernel
theorem d139_179 : decode (pm_code 139) 179 = .ok (.iload_n 3, 1) := by decide +kernel
theorem d139_180 : decode (pm_code 139) 180 = .ok (.iconst 1, 1) := by decide +kernel
theorem d139_181 : decode (pm_code 139) 181 = .ok (.iadd, 1) := by decide +kernel
theorem d139_182 : decode (pm_code 139) 182 = .ok (.iload 4, 2) := by decide +kernel
theorem d139_184 : decode (pm_code 139) 184 = .ok (.iload 5, 2) := by decide +kernel
theorem d139_186 : decode (pm_code 139) 186 = .ok (.invokevirtual 160, 3) := by decide +kernel
theorem d139_189 : decode (pm_code 139) 189 = .ok (.iload_n 1, 1) := by decide +kernel
theorem d139_190 : decode (pm_code 139) 190 = .ok (.bipush 60, 2) := by decide +kernel
theorem d139_192 : decode (pm_code 139) 192 = .ok (.if_icmp .ne 26, 3) := by decide +kernel
theorem d139_195 : decode (pm_code 139) 195 = .ok (.aload_n 0, 1) := by decide +kernel
theorem d139_196 : decode (pm_code 139) 196 = .ok (.bipush 58, 2) := by decide +kernel
theorem d139_198 : decode (pm_code 139) 198 = .ok (.iload_n 3, 1) := by decide +kernel
theorem d139_199 : decode (pm_code 139) 199 = .ok (.iload 4, 2) := by decide +kernel
theorem d139_201 : decode (pm_code 139) 201 = .ok (.iload 5, 2) := by decide +kernel
theorem d139_203 : decode (pm_code 139) 203 = .ok (.invokevirtual 160, 3) := by decide +kernel
theorem d139_206 : decode (pm_code 139) 206 = .ok (.aload_n 0, 1) := by decide +kernel
theorem d139_207 : decode (pm_code 139) 207 = .ok (.sipush 202, 3) := by decide +kernel
theorem d139_210 : decode (pm_code 139) 210 = .ok (.iload_n 3, 1) := by decide +kernel
theorem d139_211 : decode (pm_code 139) 211 = .ok (.iload 4, 2) := by decide +kernel
theorem d139_213 : decode (pm_code 139) 213 = .ok (.iload 5, 2) := by decide +kernel
theorem d139_215 : decode (pm_code 139) 215 = .ok (.invokevirtual 160, 3) := by decide +kernel
theorem d139_218 : decode (pm_code 139) 218 = .ok (.iconst 1, 1) := by decide +kernel
theorem d139_219 : decode (pm_code 139) 219 = .ok (.ireturn, 1) := by decide +kernel
theorem d140_0 : decode (pm_code 140) 0 = .ok (.iload_n 1, 1) := by decide +kernel
theorem d140_1 : decode (pm_code 140) 1 = .ok (.bipush 97, 2) := by decide +kernel
theorem d140_3 : decode (pm_code 140) 3 = .ok (.if_icmp .lt 24, 3) := by decide +kernel
theorem d140_6 : decode (pm_code 140) 6 = .ok (.iload_n 1, 1) := by decide +kernel
theorem d140_7 : decode (pm_code 140) 7 = .ok (.bipush 100, 2) := by decide +kernel
theorem d140_9 : decode (pm_code 140) 9 = .ok (.if_icmp .gt 18, 3) := by decide +kernel
theorem d140_12 : decode (pm_code 140) 12 = .ok (.aload_n 0, 1) := by decide +kernel
theorem d140_13 : decode (pm_code 140) 13 = .ok (.iconst 5, 1) := by decide +kernel
theorem d140_14 : decode (pm_code 140) 14 = .ok (.iload_n 1, 1) := by decide +kernel
theorem d140_15 : decode (pm_code 140) 15 = .ok (.bipush 97, 2) := by decide +kernel
theorem d140_17 : decode (pm_code 140) 17 = .ok (.isub, 1) := by decide +kernel
theorem d140_18 : decode (pm_code 140) 18 = .ok (.iload_n 2, 1) := by decide +kernel
theorem d140_19 : decode (pm_code 140) 19 = .ok (.iload 4, 2) := by decide +kernel
theorem d140_21 : decode (pm_code 140) 21 = .ok (.invokevirtual 156, 3) := by decide +kernel
theorem d140_24 : decode (pm_code 140) 24 = .ok (.pop, 1) := by decide +kernel
theorem d140_25 : decode (pm_code 140) 25 = .ok (.iconst 1, 1) := by decide +kernel
theorem d140_26 : decode (pm_code 140) 26 = .ok (.ireturn, 1) := by decide +kernel
theorem d140_27 : decode (pm_code 140) 27 = .ok (.iload_n 1, 1) := by decide +kernel
theorem d140_28 : decode (pm_code 140) 28 = .ok (.bipush 123, 2) := by decide +kernel
theorem d140_30 : decode (pm_code 140) 30 = .ok (.if_icmp .ne 25, 3) := by decide +kernel
theorem d140_33 : decode (pm_code 140) 33 = .ok (.aload_n 0, 1) := by decide +kernel
theorem d140_34 : decode (pm_code 140) 34 = .ok (.sipush 205, 3) := by decide +kernel
theorem d140_37 : decode (pm_code 140) 37 = .ok (.iload_n 3, 1) := by decide +kernel
theorem d140_38 : decode (pm_code 140) 38 = .ok (.iload 4, 2) := by decide +kernel
theorem d140_40 : decode (pm_code 140) 40 = .ok (.aload_n 0, 1) := by decide +kernel
theorem d140_41 : decode (pm_code 140) 41 = .ok (.bipush 10, 2) := by decide +kernel
theorem d140_43 : decode (pm_code 140) 43 = .ok (.iconst 0, 1) := by decide +kernel
theorem d140_44 : decode (pm_code 140) 44 = .ok (.iload_n 2, 1) := by decide +kernel
theorem d140_45 : decode (pm_code 140) 45 = .ok (.iload 4, 2) := by decide +kernel
theorem d140_47 : decode (pm_code 140) 47 = .ok (.invokevirtual 156, 3) := by decide +kernel
theorem d140_50 : decode (pm_code 140) 50 = .ok (.invokevirtual 160, 3) := by decide +kernel
theorem d140_53 : decode (pm_code 140) 53 = .ok (.iconst 1, 1) := by decide +kernel
theorem d140_54 : decode (pm_code 140) 54 = .ok (.ireturn, 1) := by decide +kernel
theorem d140_55 : decode (pm_code 140) 55 = .ok (.iload_n 3, 1) := by decide +kernel
theorem d140_56 : decode (pm_code 140) 56 = .ok (.bipush 24, 2) := by decide +kernel
theorem d140_58 : decode (pm_code 140) 58 = .ok (.if_icmp .ne 5, 3) := by decide +kernel
theorem d140_61 : decode (pm_code 140) 61 = .ok (.iconst 0, 1) := by decide +kernel
theorem d140_62 : decode (pm_code 140) 62 = .ok (.ireturn, 1) := by decide +kernel
theorem d140_63 : decode (pm_code 140) 63 = .ok (.iload_n 1, 1) := by decide +kernel
theorem d140_64 : decode (pm_code 140) 64 = .ok (.bipush 92, 2) := by decide +kernel
theorem d140_66 : decode (pm_code 140) 66 = .ok (.if_icmp .eq 9, 3) := by decide +kernel
theorem d140_69 : decode (pm_code 140) 69 = .ok (.iload_n 1, 1) := by decide +kernel
theorem d140_70 : decode (pm_code 140) 70 = .ok (.bipush 47, 2) := by decide +kernel
theorem d140_72 : decode (pm_code 140) 72 = .ok (.if_icmp .ne 123, 3) := by decide +kernel
theorem d140_75 : decode (pm_code 140) 75 = .ok (.aload_n 0, 1) := by decide +kernel
theorem d140_76 : decode (pm_code 140) 76 = .ok (.iload_n 1, 1) := by decide +kernel
theorem d140_77 : decode (pm_code 140) 77 = .ok (.bipush 47, 2) := by decide +kernel
theorem d140_79 : decode (pm_code 140) 79 = .ok (.if_icmp .ne 8, 3) := by decide +kernel
theorem d140_82 : decode (pm_code 140) 82 = .ok (.bipush 8, 2) := by decide +kernel
theorem d140_84 : decode (pm_code 140) 84 = .ok (.goto 5, 3) := by decide +kernel
theorem d140_87 : decode (pm_code 140) 87 = .ok (.bipush 6, 2) := by decide +kernel
theorem d140_89 : decode (pm_code 140) 89 = .ok (.iconst 0, 1) := by decide +kernel
theorem d140_90 : decode (pm_code 140) 90 = .ok (.iload_n 2, 1) := by decide +kernel
theorem d140_91 : decode (pm_code 140) 91 = .ok (.iload 4, 2) := by decide +kernel
theorem d140_93 : decode (pm_code 140) 93 = .ok (.invokevirtual 156, 3) := by decide +kernel
theorem d140_96 : decode (pm_code 140) 96 = .ok (.istore 5, 2) := by decide +kernel
theorem d140_98 : decode (pm_code 140) 98 = .ok (.aload_n 0, 1) := by decide +kernel
theorem d140_99 : decode (pm_code 140) 99 = .ok (.iload_n 1, 1) := by decide +kernel
theorem d140_100 : decode (pm_code 140) 100 = .ok (.bipush 47, 2) := by decide +kernel
theorem d140_102 : decode (pm_code 140) 102 = .ok (.if_icmp .ne 7, 3) := by decide +kernel
theorem d140_105 : decode (pm_code 140) 105 = .ok (.iconst 0, 1) := by decide +kernel
theorem d140_106 : decode (pm_code 140) 106 = .ok (.goto 4, 3) := by decide +kernel
theorem d140_109 : decode (pm_code 140) 109 = .ok (.iconst 1, 1) := by decide +kernel
theorem d140_110 : decode (pm_code 140) 110 = .ok (.iload 4, 2) := by decide +kernel
theorem d140_112 : decode (pm_code 140) 112 = .ok (.iload 5, 2) := by decide +kernel
theorem d140_114 : decode (pm_code 140) 114 = .ok (.invokevirtual 164, 3) := by decide +kernel
theorem d140_117 : decode (pm_code 140) 117 = .ok (.istore 6, 2) := by decide +kernel
theorem d140_119 : decode (pm_code 140) 119 = .ok (.aload_n 0, 1) := by decide +kernel
theorem d140_120 : decode (pm_code 140) 120 = .ok (.sipush 201, 3) := by decide +kernel
theorem d140_123 : decode (pm_code 140) 123 = .ok (.iload_n 3, 1) := by decide +kernel
theorem d140_124 : decode (pm_code 140) 124 = .ok (.iconst 1, 1) := by decide +kernel
theorem d140_125 : decode (pm_code 140) 125 = .ok (.iadd, 1) := by decide +kernel
theorem d140_126 : decode (pm_code 140) 126 = .ok (.iload 6, 2) := by decide +kernel
theorem d140_128 : decode (pm_code 140) 128 = .ok (.iload 5, 2) := by decide +kernel
theorem d140_130 : decode (pm_code 140) 130 = .ok (.invokevirtual 160, 3) := by decide +kernel
theorem d140_133 : decode (pm_code 140) 133 = .ok (.aload_n 0, 1) := by decide +kernel
theorem d140_134 : decode (pm_code 140) 134 = .ok (.bipush 46, 2) := by decide +kernel
theorem d140_136 : decode (pm_code 140) 136 = .ok (.iload_n 3, 1) := by decide +kernel
theorem d140_137 : decode (pm_code 140) 137 = .ok (.iload 4, 2) := by decide +kernel
theorem d140_139 : decode (pm_code 140) 139 = .ok (.iload 5, 2) := by decide +kernel
theorem d140_141 : decode (pm_code 140) 141 = .ok (.invokevirtual 160, 3) := by decide +kernel
theorem d140_144 : decode (pm_code 140) 144 = .ok (.aload_n 0, 1) := by decide +kernel
theorem d140_145 : decode (pm_code 140) 145 = .ok (.sipush 200, 3) := by decide +kernel
theorem d140_148 : decode (pm_code 140) 148 = .ok (.iload_n 3, 1) := by decide +kernel
theorem d140_149 : decode (pm_code 140) 149 = .ok (.iconst 1, 1) := by decide +kernel
theorem d140_150 : decode (pm_code 140) 150 = .ok (.iadd, 1) := by decide +kernel
theorem d140_151 : decode (pm_code 140) 151 = .ok (.iload 4, 2) := by decide +kernel
theorem d140_153 : decode (pm_code 140) 153 = .ok (.iload 5, 2) := by decide +kernel
theorem d140_155 : decode (pm_code 140) 155 = .ok (.invokevirtual 160, 3) := by decide +kernel
theorem d140_158 : decode (pm_code 140) 158 = .ok (.aload_n 0, 1) := by decide +kernel
theorem d140_159 : decode (pm_code 140) 159 = .ok (.bipush 58, 2) := by decide +kernel
theorem d140_161 : decode (pm_code 140) 161 = .ok (.iload_n 3, 1) := by decide +kernel
theorem d140_162 : decode (pm_code 140) 162 = .ok (.iload 4, 2) := by decide +kernel
theorem d140_164 : decode (pm_code 140) 164 = .ok (.iload 5, 2) := by decide +kernel
theorem d140_166 : decode (pm_code 140) 166 = .ok (.invokevirtual 160, 3) := by decide +kernel
theorem d140_169 : decode (pm_code 140) 169 = .ok (.aload_n 0, 1) := by decide +kernel
theorem d140_170 : decode (pm_code 140) 170 = .ok (.iload_n 1, 1) := by decide +kernel
theorem d140_171 : decode (pm_code 140) 171 = .ok (.bipush 47, 2) := by decide +kernel
theorem d140_173 : decode (pm_code 140) 173 = .ok (.if_icmp .ne 9, 3) := by decide +kernel
theorem d140_176 : decode (pm_code 140) 176 = .ok (.sipush 202, 3) := by decide +kernel
theorem d140_179 : decode (pm_code 140) 179 = .ok (.goto 6, 3) := by decide +kernel
theorem d140_182 : decode (pm_code 140) 182 = .ok (.sipush 203, 3) := by decide +kernel
theorem d140_185 : decode (pm_code 140) 185 = .ok (.iload_n 3, 1) := by decide +kernel
theorem d140_186 : decode (pm_code 140) 186 = .ok (.iload 4, 2) := by decide +kernel
theorem d140_188 : decode (pm_code 140) 188 = .ok (.iload 5, 2) := by decide +kernel
theorem d140_190 : decode (pm_code 140) 190 = .ok (.invokevirtual 160, 3) := by decide +kernel
theorem d140_193 : decode (pm_code 140) 193 = .ok (.iconst 1, 1) := by decide +kernel
theorem d140_194 : decode (pm_code 140) 194 = .ok (.ireturn, 1) := by decide +kernel
theorem d140_195 : decode (pm_code 140) 195 = .ok (.iload_n 1, 1) := by decide +kernel
theorem d140_196 : decode (pm_code 140) 196 = .ok (.bipush 40, 2) := by decide +kernel
theorem d140_198 : decode (pm_code 140) 198 = .ok (.if_icmp .ne 8, 3) := by decide +kernel
theorem d140_201 : decode (pm_code 140) 201 = .ok (.bipush 7, 2) := by decide +kernel
theorem d140_203 : decode (pm_code 140) 203 = .ok (.goto 37, 3) := by decide +kernel
theorem d140_206 : decode (pm_code 140) 206 = .ok (.iload_n 1, 1) := by decide +kernel
theorem d140_207 : decode (pm_code 140) 207 = .ok (.bipush 64, 2) := by decide +kernel
theorem d140_209 : decode (pm_code 140) 209 = .ok (.if_icmp .ne 8, 3) := by decide +kernel
theorem d140_212 : decode (pm_code 140) 212 = .ok (.bipush 9, 2) := by decide +kernel
theorem d140_214 : decode (pm_code 140) 214 = .ok (.goto 26, 3) := by decide +kernel
theorem d140_217 : decode (pm_code 140) 217 = .ok (.iload_n 1, 1) := by decide +kernel
theorem d140_218 : decode (pm_code 140) 218 = .ok (.bipush 46, 2) := by decide +kernel
theorem d140_220 : decode (pm_code 140) 220 = .ok (.if_icmp .ne 8, 3) := by decide +kernel
theorem d140_223 : decode (pm_code 140) 223 = .ok (.bipush 11, 2) := by decide +kernel
theorem d140_225 : decode (pm_code 140) 225 = .ok (.goto 15, 3) := by decide +kernel
theorem d140_228 : decode (pm_code 140) 228 = .ok (.iload_n 1, 1) := by decide +kernel
theorem d140_229 : decode (pm_code 140) 229 = .ok (.bipush 63, 2) := by decide +kernel
theorem d140_231 : decode (pm_code 140) 231 = .ok (.if_icmp .ne 8, 3) := by decide +kernel
theorem d140_234 : decode (pm_code 140) 234 = .ok (.bipush 12, 2) := by decide +kernel
theorem d140_236 : decode (pm_code 140) 236 = .ok (.goto 4, 3) := by decide +kernel
theorem d140_239 : decode (pm_code 140) 239 = .ok (.iconst (-1), 1) := by decide +kernel
theorem d140_240 : decode (pm_code 140) 240 = .ok (.istore 5, 2) := by decide +kernel
theorem d140_242 : decode (pm_code 140) 242 = .ok (.iload 5, 2) := by decide +kernel
theorem d140_244 : decode (pm_code 140) 244 = .ok (.ifCond .ge 5, 3) := by decide +kernel
theorem d140_247 : decode (pm_code 140) 247 = .ok (.iconst 0, 1) := by decide +kernel
theorem d140_248 : decode (pm_code 140) 248 = .ok (.ireturn, 1) := by decide +kernel
theorem d140_249 : decode (pm_code 140) 249 = .ok (.aload_n 0, 1) := by decide +kernel
theorem d140_250 : decode (pm_code 140) 250 = .ok (.iload 5, 2) := by decide +kernel
theorem d140_252 : decode (pm_code 140) 252 = .ok (.iconst 0, 1) := by decide +kernel
theorem d140_253 : decode (pm_code 140) 253 = .ok (.iload_n 2, 1) := by decide +kernel
theorem d140_254 : decode (pm_code 140) 254 = .ok (.iload 4, 2) := by decide +kernel
theorem d140_256 : decode (pm_code 140) 256 = .ok (.invokevirtual 156, 3) := by decide +kernel
theorem d140_259 : decode (pm_code 140) 259 = .ok (.istore 6, 2) := by decide +kernel
theorem d140_261 : decode (pm_code 140) 261 = .ok (.iload_n 1, 1) := by decide +kernel
theorem d140_262 : decode (pm_code 140) 262 = .ok (.bipush 40, 2) := by decide +kernel
theorem d140_264 : decode (pm_code 140) 264 = .ok (.if_icmp .ne 14, 3) := by decide +kernel
theorem d140_267 : decode (pm_code 140) 267 = .ok (.aload_n 0, 1) := by decide +kernel
theorem d140_268 : decode (pm_code 140) 268 = .ok (.bipush 41, 2) := by decide +kernel
theorem d140_270 : decode (pm_code 140) 270 = .ok (.iload_n 3, 1) := by decide +kernel
theorem d140_271 : decode (pm_code 140) 271 = .ok (.iload 4, 2) := by decide +kernel
theorem d140_273 : decode (pm_code 140) 273 = .ok (.iload 6, 2) := by decide +kernel
theorem d140_275 : decode (pm_code 140) 275 = .ok (.invokevirtual 160, 3) := by decide +kernel
theorem d140_278 : decode (pm_code 140) 278 = .ok (.iload_n 1, 1) := by decide +kernel
theorem d140_279 : decode (pm_code 140) 279 = .ok (.bipush 46, 2) := by decide +kernel
theorem d140_281 : decode (pm_code 140) 281 = .ok (.if_icmp .eq 29, 3) := by decide +kernel
theorem d140_284 : decode (pm_code 140) 284 = .ok (.aload_n 0, 1) := by decide +kernel
theorem d140_285 : decode (pm_code 140) 285 = .ok (.iload_n 1, 1) := by decide +kernel
theorem d140_286 : decode (pm_code 140) 286 = .ok (.bipush 64, 2) := by decide +kernel
theorem d140_288 : decode (pm_code 140) 288 = .ok (.if_icmp .ne 9, 3) := by decide +kernel
theorem d140_291 : decode (pm_code 140) 291 = .ok (.sipush 200, 3) := by decide +kernel
theorem d140_294 : decode (pm_code 140) 294 = .ok (.goto 6, 3) := by decide +kernel
theorem d140_297 : decode (pm_code 140) 297 = .ok (.sipush 201, 3) := by decide +kernel
theorem d140_300 : decode (pm_code 140) 300 = .ok (.iload_n 3, 1) := by decide +kernel
theorem d140_301 : decode (pm_code 140) 301 = .ok (.iconst 1, 1) := by decide +kernel
theorem d140_302 : decode (pm_code 140) 302 = .ok (.iadd, 1) := by decide +kernel
theorem d140_303 : decode (pm_code 140) 303 = .ok (.iload 4, 2) := by decide +kernel
theorem d140_305 : decode (pm_code 140) 305 = .ok (.iload 6, 2) := by decide +kernel
theorem d140_307 : decode (pm_code 140) 307 = .ok (.invokevirtual 160, 3) := by decide +kernel
theorem d140_310 : decode (pm_code 140) 310 = .ok (.aload_n 0, 1) := by decide +kernel
theorem d140_311 : decode (pm_code 140) 311 = .ok (.sipush 201, 3) := by decide +kernel
theorem d140_314 : decode (pm_code 140) 314 = .ok (.iload_n 3, 1) := by decide +kernel
theorem d140_315 : decode (pm_code 140) 315 = .ok (.iconst 1, 1) := by decide +kernel
theorem d140_316 : decode (pm_code 140) 316 = .ok (.iadd, 1) := by decide +kernel
theorem d140_317 : decode (pm_code 140) 317 = .ok (.iload 4, 2) := by decide +kernel
theorem d140_319 : decode (pm_code 140) 319 = .ok (.iload 6, 2) := by decide +kernel
theorem d140_321 : decode (pm_code 140) 321 = .ok (.invokevirtual 160, 3) := by decide +kernel
theorem d140_324 : decode (pm_code 140) 324 = .ok (.iload_n 1, 1) := by decide +kernel
theorem d140_325 : decode (pm_code 140) 325 = .ok (.bipush 46, 2) := by decide +kernel
theorem d140_327 : decode (pm_code 140) 327 = .ok (.if_icmp .eq 9, 3) := by decide +kernel
theorem d140_330 : decode (pm_code 140) 330 = .ok (.iload_n 1, 1) := by decide +kernel
theorem d140_331 : decode (pm_code 140) 331 = .ok (.bipush 63, 2) := by decide +kernel
theorem d140_333 : decode (pm_code 140) 333 = .ok (.if_icmp .ne 27, 3) := by decide +kernel
theorem d140_336 : decode (pm_code 140) 336 = .ok (.aload_n 0, 1) := by decide +kernel
theorem d140_337 : decode (pm_code 140) 337 = .ok (.iload_n 1, 1) := by decide +kernel
theorem d140_338 : decode (pm_code 140) 338 = .ok (.bipush 46, 2) := by decide +kernel
theorem d140_340 : decode (pm_code 140) 340 = .ok (.if_icmp .ne 9, 3) := by decide +kernel
theorem d140_343 : decode (pm_code 140) 343 = .ok (.sipush 210, 3) := by decide +kernel
theorem d140_346 : decode (pm_code 140) 346 = .ok (.goto 6, 3) := by decide +kernel
theorem d140_349 : decode (pm_code 140) 349 = .ok (.sipush 211, 3) := by decide +kernel
theorem d140_352 : decode (pm_code 140) 352 = .ok (.iload_n 3, 1) := by decide +kernel
theorem d140_353 : decode (pm_code 140) 353 = .ok (.iload 4, 2) := by decide +kernel
theorem d140_355 : decode (pm_code 140) 355 = .ok (.iload 6, 2) := by decide +kernel
theorem d140_357 : decode (pm_code 140) 357 = .ok (.invokevirtual 160, 3) := by decide +kernel
theorem d140_360 : decode (pm_code 140) 360 = .ok (.iconst 1, 1) := by decide +kernel
theorem d140_361 : decode (pm_code 140) 361 = .ok (.ireturn, 1) := by decide +kernel
theorem d141_0 : decode (pm_code 141) 0 = .ok (.aload_n 0, 1) := by decide +kernel
theorem d141_1 : decode (pm_code 141) 1 = .ok (.getfield 16, 3) := by decide +kernel
theorem d141_4 : decode (pm_code 141) 4 = .ok (.iload 4, 2) := by decide +kernel
theorem d141_6 : decode (pm_code 141) 6 = .ok (.iaload, 1) := by decide +kernel
theorem d141_7 : decode (pm_code 141) 7 = .ok (.bipush 10, 2) := by decide +kernel
theorem d141_9 : decode (pm_code 141) 9 = .ok (.if_icmp .ne 7, 3) := by decide +kernel
theorem d141_12 : decode (pm_code 141) 12 = .ok (.iconst 1, 1) := by decide +kernel
theorem d141_13 : decode (pm_code 141) 13 = .ok (.goto 4, 3) := by decide +kernel
theorem d141_16 : decode (pm_code 141) 16 = .ok (.iconst 0, 1) := by decide +kernel
theorem d141_17 : decode (pm_code 141) 17 = .ok (.istore 5, 2) := by decide +kernel
theorem d141_19 : decode (pm_code 141) 19 = .ok (.iload_n 1, 1) := by decide +kernel
theorem d141_20 : decode (pm_code 141) 20 = .ok (.bipush 120, 2) := by decide +kernel
theorem d141_22 : decode (pm_code 141) 22 = .ok (.if_icmp .lt 34, 3) := by decide +kernel
theorem d141_25 : decode (pm_code 141) 25 = .ok (.iload_n 1, 1) := by decide +kernel
theorem d141_26 : decode (pm_code 141) 26 = .ok (.bipush 122, 2) := by decide +kernel
theorem d141_28 : decode (pm_code 141) 28 = .ok (.if_icmp .gt 28, 3) := by decide +kernel
theorem d141_31 : decode (pm_code 141) 31 = .ok (.iload_n 2, 1) := by decide +kernel
theorem d141_32 : decode (pm_code 141) 32 = .ok (.bipush 24, 2) := by decide +kernel
theorem d141_34 : decode (pm_code 141) 34 = .ok (.if_icmp .ge 22, 3) := by decide +kernel
theorem d141_37 : decode (pm_code 141) 37 = .ok (.aload_n 0, 1) := by decide +kernel
theorem d141_38 : decode (pm_code 141) 38 = .ok (.getfield 19, 3) := by decide +kernel
theorem d141_41 : decode (pm_code 141) 41 = .ok (.iload 4, 2) := by decide +kernel
theorem d141_43 : decode (pm_code 141) 43 = .ok (.iaload, 1) := by decide +kernel
theorem d141_44 : decode (pm_code 141) 44 = .ok (.iload_n 1, 1) := by decide +kernel
theorem d141_45 : decode (pm_code 141) 45 = .ok (.bipush 120, 2) := by decide +kernel
theorem d141_47 : decode (pm_code 141) 47 = .ok (.isub, 1) := by decide +kernel
theorem d141_48 : decode (pm_code 141) 48 = .ok (.ishr, 1) := by decide +kernel
theorem d141_49 : decode (pm_code 141) 49 = .ok (.ifCond .ne 7, 3) := by decide +kernel
theorem d141_52 : decode (pm_code 141) 52 = .ok (.iconst 1, 1) := by decide +kernel
theorem d141_53 : decode (pm_code 141) 53 = .ok (.goto 4, 3) := by decide +kernel
theorem d141_56 : decode (pm_code 141) 56 = .ok (.iconst 0, 1) := by decide +kernel
theorem d141_57 : decode (pm_code 141) 57 = .ok (.istore 6, 2) := by decide +kernel
theorem d141_59 : decode (pm_code 141) 59 = .ok (.iload 6, 2) := by decide +kernel
theorem d141_61 : decode (pm_code 141) 61 = .ok (.ifCond .ne 5, 3) := by decide +kernel
theorem d141_64 : decode (pm_code 141) 64 = .ok (.iconst 0, 1) := by decide +kernel
theorem d141_65 : decode (pm_code 141) 65 = .ok (.ireturn, 1) := by decide +kernel
theorem d141_66 : decode (pm_code 141) 66 = .ok (.aload_n 0, 1) := by decide +kernel
theorem d141_67 : decode (pm_code 141) 67 = .ok (.getfield 19, 3) := by decide +kernel
theorem d141_70 : decode (pm_code 141) 70 = .ok (.iload 4, 2) := by decide +kernel
theorem d141_72 : decode (pm_code 141) 72 = .ok (.aload_n 0, 1) := by decide +kernel
theorem d141_73 : decode (pm_code 141) 73 = .ok (.getfield 19, 3) := by decide +kernel
theorem d141_76 : decode (pm_code 141) 76 = .ok (.iload 4, 2) := by decide +kernel
theorem d141_78 : decode (pm_code 141) 78 = .ok (.iaload, 1) := by decide +kernel
theorem d141_79 : decode (pm_code 141) 79 = .ok (.iconst 1, 1) := by decide +kernel
theorem d141_80 : decode (pm_code 141) 80 = .ok (.iload_n 1, 1) := by decide +kernel
theorem d141_81 : decode (pm_code 141) 81 = .ok (.bipush 120, 2) := by decide +kernel
theorem d141_83 : decode (pm_code 141) 83 = .ok (.isub, 1) := by decide +kernel
theorem d141_84 : decode (pm_code 141) 84 = .ok (.ishl, 1) := by decide +kernel
theorem d141_85 : decode (pm_code 141) 85 = .ok (.ior, 1) := by decide +kernel
theorem d141_86 : decode (pm_code 141) 86 = .ok (.iastore, 1) := by decide +kernel
theorem d141_87 : decode (pm_code 141) 87 = .ok (.aload_n 0, 1) := by decide +kernel
theorem d141_88 : decode (pm_code 141) 88 = .ok (.iload 5, 2) := by decide +kernel
theorem d141_90 : decode (pm_code 141) 90 = .ok (.ifCond .eq 9, 3) := by decide +kernel
theorem d141_93 : decode (pm_code 141) 93 = .ok (.sipush 207, 3) := by decide +kernel
theorem d141_96 : decode (pm_code 141) 96 = .ok (.goto 6, 3) := by decide +kernel
theorem d141_99 : decode (pm_code 141) 99 = .ok (.sipush 206, 3) := by decide +kernel
theorem d141_102 : decode (pm_code 141) 102 = .ok (.iload_n 2, 1) := by decide +kernel
theorem d141_103 : decode (pm_code 141) 103 = .ok (.iload_n 3, 1) := by decide +kernel
theorem d141_104 : decode (pm_code 141) 104 = .ok (.iload 4, 2) := by decide +kernel
theorem d141_106 : decode (pm_code 141) 106 = .ok (.invokevirtual 160, 3) := by decide +kernel
theorem d141_109 : decode (pm_code 141) 109 = .ok (.aload_n 0, 1) := by decide +kernel
theorem d141_110 : decode (pm_code 141) 110 = .ok (.iload 5, 2) := by decide +kernel
theorem d141_112 : decode (pm_code 141) 112 = .ok (.ifCond .eq 9, 3) := by decide +kernel
theorem d141_115 : decode (pm_code 141) 115 = .ok (.sipush 201, 3) := by decide +kernel
theorem d141_118 : decode (pm_code 141) 118 = .ok (.goto 6, 3) := by decide +kernel
theorem d141_121 : decode (pm_code 141) 121 = .ok (.sipush 200, 3) := by decide +kernel
theorem d141_124 : decode (pm_code 141) 124 = .ok (.iload_n 2, 1) := by decide +kernel
theorem d141_125 : decode (pm_code 141) 125 = .ok (.iconst 1, 1) := by decide +kernel
theorem d141_126 : decode (pm_code 141) 126 = .ok (.iadd, 1) := by decide +kernel
theorem d141_127 : decode (pm_code 141) 127 = .ok (.iload_n 3, 1) := by decide +kernel
theorem d141_128 : decode (pm_code 141) 128 = .ok (.iload 4, 2) := by decide +kernel
theorem d141_130 : decode (pm_code 141) 130 = .ok (.invokevirtual 160, 3) := by decide +kernel
theorem d141_133 : decode (pm_code 141) 133 = .ok (.iload 5, 2) := by decide +kernel
theorem d141_135 : decode (pm_code 141) 135 = .ok (.ifCond .eq 13, 3) := by decide +kernel
theorem d141_138 : decode (pm_code 141) 138 = .ok (.aload_n 0, 1) := by decide +kernel
theorem d141_139 : decode (pm_code 141) 139 = .ok (.bipush 61, 2) := by decide +kernel
theorem d141_141 : decode (pm_code 141) 141 = .ok (.iload_n 2, 1) := by decide +kernel
theorem d141_142 : decode (pm_code 141) 142 = .ok (.iload_n 3, 1) := by decide +kernel
theorem d141_143 : decode (pm_code 141) 143 = .ok (.iload 4, 2) := by decide +kernel
theorem d141_145 : decode (pm_code 141) 145 = .ok (.invokevirtual 160, 3) := by decide +kernel
theorem d141_148 : decode (pm_code 141) 148 = .ok (.iconst 1, 1) := by decide +kernel
theorem d141_149 : decode (pm_code 141) 149 = .ok (.ireturn, 1) := by decide +kernel
theorem d142_0 : decode (pm_code 142) 0 = .ok (.aload_n 0, 1) := by decide +kernel
theorem d142_1 : decode (pm_code 142) 1 = .ok (.getfield 147, 3) := by decide +kernel
theorem d142_4 : decode (pm_code 142) 4 = .ok (.ifCond .ne 5, 3) := by decide +kernel
theorem d142_7 : decode (pm_code 142) 7 = .ok (.iconst 0, 1) := by decide +kernel
theorem d142_8 : decode (pm_code 142) 8 = .ok (.ireturn, 1) := by decide +kernel
theorem d142_9 : decode (pm_code 142) 9 = .ok (.aload_n 0, 1) := by decide +kernel
theorem d142_10 : decode (pm_code 142) 10 = .ok (.dup, 1) := by decide +kernel
theorem d142_11 : decode (pm_code 142) 11 = .ok (.getfield 147, 3) := by decide +kernel
theorem d142_14 : decode (pm_code 142) 14 = .ok (.iconst 1, 1) := by decide +kernel
theorem d142_15 : decode (pm_code 142) 15 = .ok (.isub, 1) := by decide +kernel
theorem d142_16 : decode (pm_code 142) 16 = .ok (.putfield 147, 3) := by decide +kernel
theorem d142_19 : decode (pm_code 142) 19 = .ok (.aload_n 0, 1) := by decide +kernel
theorem d142_20 : decode (pm_code 142) 20 = .ok (.getfield 43, 3) := by decide +kernel
theorem d142_23 : decode (pm_code 142) 23 = .ok (.aload_n 0, 1) := by decide +kernel
theorem d142_24 : decode (pm_code 142) 24 = .ok (.getfield 147, 3) := by decide +kernel
theorem d142_27 : decode (pm_code 142) 27 = .ok (.iaload, 1) := by decide +kernel
theorem d142_28 : decode (pm_code 142) 28 = .ok (.istore_n 3, 1) := by decide +kernel
theorem d142_29 : decode (pm_code 142) 29 = .ok (.aload_n 0, 1) := by decide +kernel
theorem d142_30 : decode (pm_code 142) 30 = .ok (.getfield 46, 3) := by decide +kernel
theorem d142_33 : decode (pm_code 142) 33 = .ok (.aload_n 0, 1) := by decide +kernel
theorem d142_34 : decode (pm_code 142) 34 = .ok (.getfield 147, 3) := by decide +kernel
theorem d142_37 : decode (pm_code 142) 37 = .ok (.iaload, 1) := by decide +kernel
theorem d142_38 : decode (pm_code 142) 38 = .ok (.istore 4, 2) := by decide +kernel
theorem d142_40 : decode (pm_code 142) 40 = .ok (.aload_n 0, 1) := by decide +kernel
theorem d142_41 : decode (pm_code 142) 41 = .ok (.getfield 49, 3) := by decide +kernel
theorem d142_44 : decode (pm_code 142) 44 = .ok (.aload_n 0, 1) := by decide +kernel
theorem d142_45 : decode (pm_code 142) 45 = .ok (.getfield 147, 3) := by decide +kernel
theorem d142_48 : decode (pm_code 142) 48 = .ok (.iaload, 1) := by decide +kernel
theorem d142_49 : decode (pm_code 142) 49 = .ok (.istore 5, 2) := by decide +kernel
theorem d142_51 : decode (pm_code 142) 51 = .ok (.aload_n 0, 1) := by decide +kernel
theorem d142_52 : decode (pm_code 142) 52 = .ok (.getfield 52, 3) := by decide +kernel
theorem d142_55 : decode (pm_code 142) 55 = .ok (.aload_n 0, 1) := by decide +kernel
theorem d142_56 : decode (pm_code 142) 56 = .ok (.getfield 147, 3) := by decide +kernel
theorem d142_59 : decode (pm_code 142) 59 = .ok (.iaload, 1) := by decide +kernel
theorem d142_60 : decode (pm_code 142) 60 = .ok (.istore 6, 2) := by decide +kernel
theorem d142_62 : decode (pm_code 142) 62 = .ok (.iload_n 3, 1) := by decide +kernel
theorem d142_63 : decode (pm_code 142) 63 = .ok (.sipush 200, 3) := by decide +kernel
theorem d142_66 : decode (pm_code 142) 66 = .ok (.if_icmp .ne 14, 3) := by decide +kernel
theorem d142_69 : decode (pm_code 142) 69 = .ok (.aload_n 0, 1) := by decide +kernel
theorem d142_70 : decode (pm_code 142) 70 = .ok (.iload_n 1, 1) := by decide +kernel
theorem d142_71 : decode (pm_code 142) 71 = .ok (.iload_n 2, 1) := by decide +kernel
theorem d142_72 : decode (pm_code 142) 72 = .ok (.iload 4, 2) := by decide +kernel
theorem d142_74 : decode (pm_code 142) 74 = .ok (.iload 5, 2) := by decide +kernel
theorem d142_76 : decode (pm_code 142) 76 = .ok (.invokevirtual 168, 3) := by decide +kernel
theorem d142_79 : decode (pm_code 142) 79 = .ok (.ireturn, 1) := by decide +kernel
theorem d142_80 : decode (pm_code 142) 80 = .ok (.iload_n 3, 1) := by decide +kernel
theorem d142_81 : decode (pm_code 142) 81 = .ok (.sipush 201, 3) := by decide +kernel
theorem d142_84 : decode (pm_code 142) 84 = .ok (.if_icmp .ne 14, 3) := by decide +kernel
theorem d142_87 : decode (pm_code 142) 87 = .ok (.aload_n 0, 1) := by decide +kernel
theorem d142_88 : decode (pm_code 142) 88 = .ok (.iload_n 1, 1) := by decide +kernel
theorem d142_89 : decode (pm_code 142) 89 = .ok (.iload_n 2, 1) := by decide +kernel
theorem d142_90 : decode (pm_code 142) 90 = .ok (.iload 4, 2) := by decide +kernel
theorem d142_92 : decode (pm_code 142) 92 = .ok (.iload 5, 2) := by decide +kernel
theorem d142_94 : decode (pm_code 142) 94 = .ok (.invokevirtual 172, 3) := by decide +kernel
theorem d142_97 : decode (pm_code 142) 97 = .ok (.ireturn, 1) := by decide +kernel
theorem d142_98 : decode (pm_code 142) 98 = .ok (.iload_n 3, 1) := by decide +kernel
theorem d142_99 : decode (pm_code 142) 99 = .ok (.sipush 202, 3) := by decide +kernel
theorem d142_102 : decode (pm_code 142) 102 = .ok (.if_icmp .eq 10, 3) := by decide +kernel
theorem d142_105 : decode (pm_code 142) 105 = .ok (.iload_n 3, 1) := by decide +kernel
theorem d142_106 : decode (pm_code 142) 106 = .ok (.sipush 203, 3) := by decide +kernel
theorem d142_109 : decode (pm_code 142) 109 = .ok (.if_icmp .ne 55, 3) := by decide +kernel
theorem d142_112 : decode (pm_code 142) 112 = .ok (.iload_n 3, 1) := by decide +kernel
theorem d142_113 : decode (pm_code 142) 113 = .ok (.sipush 202, 3) := by decide +kernel
theorem d142_116 : decode (pm_code 142) 116 = .ok (.if_icmp .ne 8, 3) := by decide +kernel
theorem d142_119 : decode (pm_code 142) 119 = .ok (.bipush 80, 2) := by decide +kernel
theorem d142_121 : decode (pm_code 142) 121 = .ok (.goto 5, 3) := by decide +kernel
theorem d142_124 : decode (pm_code 142) 124 = .ok (.bipush 97, 2) := by decide +kernel
theorem d142_126 : decode (pm_code 142) 126 = .ok (.istore 7, 2) := by decide +kernel
theorem d142_128 : decode (pm_code 142) 128 = .ok (.aload_n 0, 1) := by decide +kernel
theorem d142_129 : decode (pm_code 142) 129 = .ok (.getfield 37, 3) := by decide +kernel
theorem d142_132 : decode (pm_code 142) 132 = .ok (.aload_n 0, 1) := by decide +kernel
theorem d142_133 : decode (pm_code 142) 133 = .ok (.getfield 28, 3) := by decide +kernel
theorem d142_136 : decode (pm_code 142) 136 = .ok (.iload 6, 2) := by decide +kernel
theorem d142_138 : decode (pm_code 142) 138 = .ok (.iaload, 1) := by decide +kernel
theorem d142_139 : decode (pm_code 142) 139 = .ok (.iload_n 1, 1) := by decide +kernel
theorem d142_140 : decode (pm_code 142) 140 = .ok (.iload 7, 2) := by decide +kernel
theorem d142_142 : decode (pm_code 142) 142 = .ok (.isub, 1) := by decide +kernel
theorem d142_143 : decode (pm_code 142) 143 = .ok (.iastore, 1) := by decide +kernel
theorem d142_144 : decode (pm_code 142) 144 = .ok (.iload_n 1, 1) := by decide +kernel
theorem d142_145 : decode (pm_code 142) 145 = .ok (.iload 7, 2) := by decide +kernel
theorem d142_147 : decode (pm_code 142) 147 = .ok (.if_icmp .lt 15, 3) := by decide +kernel
theorem d142_150 : decode (pm_code 142) 150 = .ok (.iload_n 1, 1) := by decide +kernel
theorem d142_151 : decode (pm_code 142) 151 = .ok (.iload 7, 2) := by decide +kernel
theorem d142_153 : decode (pm_code 142) 153 = .ok (.iconst 3, 1) := by decide +kernel
theorem d142_154 : decode (pm_code 142) 154 = .ok (.iadd, 1) := by decide +kernel
theorem d142_155 : decode (pm_code 142) 155 = .ok (.if_icmp .gt 7, 3) := by decide +kernel
theorem d142_158 : decode (pm_code 142) 158 = .ok (.iconst 1, 1) := by decide +kernel
theorem d142_159 : decode (pm_code 142) 159 = .ok (.goto 4, 3) := by decide +kernel
theorem d142_162 : decode (pm_code 142) 162 = .ok (.iconst 0, 1) := by decide +kernel
theorem d142_163 : decode (pm_code 142) 163 = .ok (.ireturn, 1) := by decide +kernel
theorem d142_164 : decode (pm_code 142) 164 = .ok (.iload_n 3, 1) := by decide +kernel
theorem d142_165 : decode (pm_code 142) 165 = .ok (.sipush 210, 3) := by decide +kernel
theorem d142_168 : decode (pm_code 142) 168 = .ok (.if_icmp .eq 10, 3) := by decide +kernel
theorem d142_171 : decode (pm_code 142) 171 = .ok (.iload_n 3, 1) := by decide +kernel
theorem d142_172 : decode (pm_code 142) 172 = .ok (.sipush 211, 3) := by decide +kernel
theorem d142_175 : decode (pm_code 142) 175 = .ok (.if_icmp .ne 60, 3) := by decide +kernel
theorem d142_178 : decode (pm_code 142) 178 = .ok (.iload_n 3, 1) := by decide +kernel
theorem d142_179 : decode (pm_code 142) 179 = .ok (.sipush 210, 3) := by decide +kernel
theorem d142_182 : decode (pm_code 142) 182 = .ok (.if_icmp .ne 8, 3) := by decide +kernel
theorem d142_185 : decode (pm_code 142) 185 = .ok (.bipush 120, 2) := by decide +kernel
theorem d142_187 : decode (pm_code 142) 187 = .ok (.goto 5, 3) := by decide +kernel
theorem d142_190 : decode (pm_code 142) 190 = .ok (.bipush 48, 2) := by decide +kernel
theorem d142_192 : decode (pm_code 142) 192 = .ok (.istore 7, 2) := by decide +kernel
theorem d142_194 : decode (pm_code 142) 194 = .ok (.aload_n 0, 1) := by decide +kernel
theorem d142_195 : decode (pm_code 142) 195 = .ok (.getfield 19, 3) := by decide +kernel
theorem d142_198 : decode (pm_code 142) 198 = .ok (.iload 6, 2) := by decide +kernel
theorem d142_200 : decode (pm_code 142) 200 = .ok (.iload_n 1, 1) := by decide +kernel
theorem d142_201 : decode (pm_code 142) 201 = .ok (.iload 7, 2) := by decide +kernel
theorem d142_203 : decode (pm_code 142) 203 = .ok (.isub, 1) := by decide +kernel
theorem d142_204 : decode (pm_code 142) 204 = .ok (.iastore, 1) := by decide +kernel
theorem d142_205 : decode (pm_code 142) 205 = .ok (.iload_n 1, 1) := by decide +kernel
theorem d142_206 : decode (pm_code 142) 206 = .ok (.iload 7, 2) := by decide +kernel
theorem d142_208 : decode (pm_code 142) 208 = .ok (.if_icmp .lt 25, 3) := by decide +kernel
theorem d142_211 : decode (pm_code 142) 211 = .ok (.iload_n 1, 1) := by decide +kernel
theorem d142_212 : decode (pm_code 142) 212 = .ok (.iload_n 3, 1) := by decide +kernel
theorem d142_213 : decode (pm_code 142) 213 = .ok (.sipush 210, 3) := by decide +kernel
theorem d142_216 : decode (pm_code 142) 216 = .ok (.if_icmp .ne 8, 3) := by decide +kernel
theorem d142_219 : decode (pm_code 142) 219 = .ok (.bipush 122, 2) := by decide +kernel
theorem d142_221 : decode (pm_code 142) 221 = .ok (.goto 5, 3) := by decide +kernel
theorem d142_224 : decode (pm_code 142) 224 = .ok (.bipush 49, 2) := by decide +kernel
theorem d142_226 : decode (pm_code 142) 226 = .ok (.if_icmp .gt 7, 3) := by decide +kernel
theorem d142_229 : decode (pm_code 142) 229 = .ok (.iconst 1, 1) := by decide +kernel
theorem d142_230 : decode (pm_code 142) 230 = .ok (.goto 4, 3) := by decide +kernel
theorem d142_233 : decode (pm_code 142) 233 = .ok (.iconst 0, 1) := by decide +kernel
theorem d142_234 : decode (pm_code 142) 234 = .ok (.ireturn, 1) := by decide +kernel
theorem d142_235 : decode (pm_code 142) 235 = .ok (.iload_n 3, 1) := by decide +kernel
theorem d142_236 : decode (pm_code 142) 236 = .ok (.iconst 2, 1) := by decide +kernel
theorem d142_237 : decode (pm_code 142) 237 = .ok (.irem, 1) := by decide +kernel
theorem d142_238 : decode (pm_code 142) 238 = .ok (.ifCond .ne 8, 3) := by decide +kernel
theorem d142_241 : decode (pm_code 142) 241 = .ok (.bipush 93, 2) := by decide +kernel
theorem d142_243 : decode (pm_code 142) 243 = .ok (.goto 5, 3) := by decide +kernel
theorem d142_246 : decode (pm_code 142) 246 = .ok (.bipush 125, 2) := by decide +kernel
theorem d142_248 : decode (pm_code 142) 248 = .ok (.istore 7, 2) := by decide +kernel
theorem d142_250 : decode (pm_code 142) 250 = .ok (.iload_n 3, 1) := by decide +kernel
theorem d142_251 : decode (pm_code 142) 251 = .ok (.sipush 204, 3) := by decide +kernel
theorem d142_254 : decode (pm_code 142) 254 = .ok (.if_icmp .eq 10, 3) := by decide +kernel
theorem d142_257 : decode (pm_code 142) 257 = .ok (.iload_n 3, 1) := by decide +kernel
theorem d142_258 : decode (pm_code 142) 258 = .ok (.sipush 205, 3) := by decide +kernel
theorem d142_261 : decode (pm_code 142) 261 = .ok (.if_icmp .ne 29, 3) := by decide +kernel
theorem d142_264 : decode (pm_code 142) 264 = .ok (.iload_n 1, 1) := by decide +kernel
theorem d142_265 : decode (pm_code 142) 265 = .ok (.iload 7, 2) := by decide +kernel
theorem d142_267 : decode (pm_code 142) 267 = .ok (.if_icmp .eq 17, 3) := by decide +kernel
theorem d142_270 : decode (pm_code 142) 270 = .ok (.aload_n 0, 1) := by decide +kernel
theorem d142_271 : decode (pm_code 142) 271 = .ok (.iload_n 1, 1) := by decide +kernel
theorem d142_272 : decode (pm_code 142) 272 = .ok (.iload 4, 2) := by decide +kernel
theorem d142_274 : decode (pm_code 142) 274 = .ok (.iload 5, 2) := by decide +kernel
theorem d142_276 : decode (pm_code 142) 276 = .ok (.iload 6, 2) := by decide +kernel
theorem d142_278 : decode (pm_code 142) 278 = .ok (.invokevirtual 175, 3) := by decide +kernel
theorem d142_281 : decode (pm_code 142) 281 = .ok (.ifCond .eq 7, 3) := by decide +kernel
theorem d142_284 : decode (pm_code 142) 284 = .ok (.iconst 1, 1) := by decide +kernel
theorem d142_285 : decode (pm_code 142) 285 = .ok (.goto 4, 3) := by decide +kernel
theorem d142_288 : decode (pm_code 142) 288 = .ok (.iconst 0, 1) := by decide +kernel
theorem d142_289 : decode (pm_code 142) 289 = .ok (.ireturn, 1) := by decide +kernel
theorem d142_290 : decode (pm_code 142) 290 = .ok (.iload_n 3, 1) := by decide +kernel
theorem d142_291 : decode (pm_code 142) 291 = .ok (.sipush 208, 3) := by decide +kernel
theorem d142_294 : decode (pm_code 142) 294 = .ok (.if_icmp .eq 10, 3) := by decide +kernel
theorem d142_297 : decode (pm_code 142) 297 = .ok (.iload_n 3, 1) := by decide +kernel
theorem d142_298 : decode (pm_code 142) 298 = .ok (.sipush 209, 3) := by decide +kernel
theorem d142_301 : decode (pm_code 142) 301 = .ok (.if_icmp .ne 15, 3) := by decide +kernel
theorem d142_304 : decode (pm_code 142) 304 = .ok (.aload_n 0, 1) := by decide +kernel
theorem d142_305 : decode (pm_code 142) 305 = .ok (.iload_n 1, 1) := by decide +kernel
theorem d142_306 : decode (pm_code 142) 306 = .ok (.iload 4, 2) := by decide +kernel
theorem d142_308 : decode (pm_code 142) 308 = .ok (.iload 5, 2) := by decide +kernel
theorem d142_310 : decode (pm_code 142) 310 = .ok (.iload 6, 2) := by decide +kernel
theorem d142_312 : decode (pm_code 142) 312 = .ok (.invokevirtual 175, 3) := by decide +kernel
theorem d142_315 : decode (pm_code 142) 315 = .ok (.ireturn, 1) := by decide +kernel
theorem d142_316 : decode (pm_code 142) 316 = .ok (.iload_n 3, 1) := by decide +kernel
theorem d142_317 : decode (pm_code 142) 317 = .ok (.sipush 206, 3) := by decide +kernel
theorem d142_320 : decode (pm_code 142) 320 = .ok (.if_icmp .eq 10, 3) := by decide +kernel
theorem d142_323 : decode (pm_code 142) 323 = .ok (.iload_n 3, 1) := by decide +kernel
theorem d142_324 : decode (pm_code 142) 324 = .ok (.sipush 207, 3) := by decide +kernel
theorem d142_327 : decode (pm_code 142) 327 = .ok (.if_icmp .ne 62, 3) := by decide +kernel
theorem d142_330 : decode (pm_code 142) 330 = .ok (.iload_n 1, 1) := by decide +kernel
theorem d142_331 : decode (pm_code 142) 331 = .ok (.bipush 44, 2) := by decide +kernel
theorem d142_333 : decode (pm_code 142) 333 = .ok (.if_icmp .ne 27, 3) := by decide +kernel
theorem d142_336 : decode (pm_code 142) 336 = .ok (.aload_n 0, 1) := by decide +kernel
theorem d142_337 : decode (pm_code 142) 337 = .ok (.getfield 19, 3) := by decide +kernel
theorem d142_340 : decode (pm_code 142) 340 = .ok (.iload 6, 2) := by decide +kernel
theorem d142_342 : decode (pm_code 142) 342 = .ok (.iaload, 1) := by decide +kernel
theorem d142_343 : decode (pm_code 142) 343 = .ok (.iconst 4, 1) := by decide +kernel
theorem d142_344 : decode (pm_code 142) 344 = .ok (.if_icmp .ge 16, 3) := by decide +kernel
theorem d142_347 : decode (pm_code 142) 347 = .ok (.aload_n 0, 1) := by decide +kernel
theorem d142_348 : decode (pm_code 142) 348 = .ok (.iload_n 3, 1) := by decide +kernel
theorem d142_349 : decode (pm_code 142) 349 = .ok (.iconst 2, 1) := by decide +kernel
theorem d142_350 : decode (pm_code 142) 350 = .ok (.iadd, 1) := by decide +kernel
theorem d142_351 : decode (pm_code 142) 351 = .ok (.iload 4, 2) := by decide +kernel
theorem d142_353 : decode (pm_code 142) 353 = .ok (.iload 5, 2) := by decide +kernel
theorem d142_355 : decode (pm_code 142) 355 = .ok (.iload 6, 2) := by decide +kernel
theorem d142_357 : decode (pm_code 142) 357 = .ok (.invokevirtual 160, 3) := by decide +kernel
theorem d142_360 : decode (pm_code 142) 360 = .ok (.iload_n 1, 1) := by decide +kernel
theorem d142_361 : decode (pm_code 142) 361 = .ok (.iload 7, 2) := by decide +kernel
theorem d142_363 : decode (pm_code 142) 363 = .ok (.if_icmp .eq 20, 3) := by decide +kernel
theorem d142_366 : decode (pm_code 142) 366 = .ok (.iload_n 1, 1) := by decide +kernel
theorem d142_367 : decode (pm_code 142) 367 = .ok (.bipush 44, 2) := by decide +kernel
theorem d142_369 : decode (pm_code 142) 369 = .ok (.if_icmp .ne 18, 3) := by decide +kernel
theorem d142_372 : decode (pm_code 142) 372 = .ok (.aload_n 0, 1) := by decide +kernel
theorem d142_373 : decode (pm_code 142) 373 = .ok (.getfield 19, 3) := by decide +kernel
theorem d142_376 : decode (pm_code 142) 376 = .ok (.iload 6, 2) := by decide +kernel
theorem d142_378 : decode (pm_code 142) 378 = .ok (.iaload, 1) := by decide +kernel
theorem d142_379 : decode (pm_code 142) 379 = .ok (.iconst 4, 1) := by decide +kernel
theorem d142_380 : decode (pm_code 142) 380 = .ok (.if_icmp .ge 7, 3) := by decide +kernel
theorem d142_383 : decode (pm_code 142) 383 = .ok (.iconst 1, 1) := by decide +kernel
theorem d142_384 : decode (pm_code 142) 384 = .ok (.goto 4, 3) := by decide +kernel
theorem d142_387 : decode (pm_code 142) 387 = .ok (.iconst 0, 1) := by decide +kernel
theorem d142_388 : decode (pm_code 142) 388 = .ok (.ireturn, 1) := by decide +kernel
theorem d142_389 : decode (pm_code 142) 389 = .ok (.iload_n 1, 1) := by decide +kernel
theorem d142_390 : decode (pm_code 142) 390 = .ok (.iload_n 3, 1) := by decide +kernel
theorem d142_391 : decode (pm_code 142) 391 = .ok (.if_icmp .ne 7, 3) := by decide +kernel
theorem d142_394 : decode (pm_code 142) 394 = .ok (.iconst 1, 1) := by decide +kernel
theorem d142_395 : decode (pm_code 142) 395 = .ok (.goto 4, 3) := by decide +kernel
theorem d142_398 : decode (pm_code 142) 398 = .ok (.iconst 0, 1) := by decide +kernel
theorem d142_399 : decode (pm_code 142) 399 = .ok (.ireturn, 1) := by decide +kernel
theorem d143_0 : decode (pm_code 143) 0 = .ok (.aload_n 0, 1) := by decide +kernel
theorem d143_1 : decode (pm_code 143) 1 = .ok (.bipush 64, 2) := by decide +kernel
theorem d143_3 : decode (pm_code 143) 3 = .ok (.putfield 150, 3) := by decide +kernel
theorem d143_6 : decode (pm_code 143) 6 = .ok (.aload_n 0, 1) := by decide +kernel
theorem d143_7 : decode (pm_code 143) 7 = .ok (.bipush 64, 2) := by decide +kernel
theorem d143_9 : decode (pm_code 143) 9 = .ok (.putfield 153, 3) := by decide +kernel
theorem d143_12 : decode (pm_code 143) 12 = .ok (.aload_n 0, 1) := by decide +kernel
theorem d143_13 : decode (pm_code 143) 13 = .ok (.iconst 0, 1) := by decide +kernel
theorem d143_14 : decode (pm_code 143) 14 = .ok (.putfield 147, 3) := by decide +kernel
theorem d143_17 : decode (pm_code 143) 17 = .ok (.aload_n 0, 1) := by decide +kernel
theorem d143_18 : decode (pm_code 143) 18 = .ok (.iload_n 1, 1) := by decide +kernel
theorem d143_19 : decode (pm_code 143) 19 = .ok (.iconst 1, 1) := by decide +kernel
theorem d143_20 : decode (pm_code 143) 20 = .ok (.iconst (-1), 1) := by decide +kernel
theorem d143_21 : decode (pm_code 143) 21 = .ok (.iconst (-1), 1) := by decide +kernel
theorem d143_22 : decode (pm_code 143) 22 = .ok (.invokevirtual 160, 3) := by decide +kernel
theorem d143_25 : decode (pm_code 143) 25 = .ok (.iconst 0, 1) := by decide +kernel
theorem d143_26 : decode (pm_code 143) 26 = .ok (.istore_n 2, 1) := by decide +kernel
theorem d143_27 : decode (pm_code 143) 27 = .ok (.iload_n 2, 1) := by decide +kernel
theorem d143_28 : decode (pm_code 143) 28 = .ok (.aload_n 0, 1) := by decide +kernel
theorem d143_29 : decode (pm_code 143) 29 = .ok (.getfield 144, 3) := by decide +kernel
theorem d143_32 : decode (pm_code 143) 32 = .ok (.if_icmp .ge 25, 3) := by decide +kernel
theorem d143_35 : decode (pm_code 143) 35 = .ok (.aload_n 0, 1) := by decide +kernel
theorem d143_36 : decode (pm_code 143) 36 = .ok (.aload_n 0, 1) := by decide +kernel
theorem d143_37 : decode (pm_code 143) 37 = .ok (.getfield 7, 3) := by decide +kernel
theorem d143_40 : decode (pm_code 143) 40 = .ok (.iload_n 2, 1) := by decide +kernel
theorem d143_41 : decode (pm_code 143) 41 = .ok (.iaload, 1) := by decide +kernel
theorem d143_42 : decode (pm_code 143) 42 = .ok (.iload_n 2, 1) := by decide +kernel
theorem d143_43 : decode (pm_code 143) 43 = .ok (.invokevirtual 178, 3) := by decide +kernel
theorem d143_46 : decode (pm_code 143) 46 = .ok (.ifCond .ne 5, 3) := by decide +kernel
theorem d143_49 : decode (pm_code 143) 49 = .ok (.iload_n 2, 1) := by decide +kernel
theorem d143_50 : decode (pm_code 143) 50 = .ok (.ireturn, 1) := by decide +kernel
theorem d143_51 : decode (pm_code 143) 51 = .ok (.iinc 2 1, 3) := by decide +kernel
theorem d143_54 : decode (pm_code 143) 54 = .ok (.goto (-27), 3) := by decide +kernel
theorem d143_57 : decode (pm_code 143) 57 = .ok (.aload_n 0, 1) := by decide +kernel
theorem d143_58 : decode (pm_code 143) 58 = .ok (.getfield 147, 3) := by decide +kernel
theorem d143_61 : decode (pm_code 143) 61 = .ok (.ifCond .ne 7, 3) := by decide +kernel
theorem d143_64 : decode (pm_code 143) 64 = .ok (.iconst (-1), 1) := by decide +kernel
theorem d143_65 : decode (pm_code 143) 65 = .ok (.goto 7, 3) := by decide +kernel
theorem d143_68 : decode (pm_code 143) 68 = .ok (.aload_n 0, 1) := by decide +kernel
theorem d143_69 : decode (pm_code 143) 69 = .ok (.getfield 144, 3) := by decide +kernel
theorem d143_72 : decode (pm_code 143) 72 = .ok (.ireturn, 1) := by decide +kernel
theorem d144_0 : decode (pm_code 144) 0 = .ok (.aload_n 0, 1) := by decide +kernel
theorem d144_1 : decode (pm_code 144) 1 = .ok (.getfield 16, 3) := by decide +kernel
theorem d144_4 : decode (pm_code 144) 4 = .ok (.iload_n 1, 1) := by decide +kernel
theorem d144_5 : decode (pm_code 144) 5 = .ok (.iaload, 1) := by decide +kernel
theorem d144_6 : decode (pm_code 144) 6 = .ok (.istore_n 2, 1) := by decide +kernel
theorem d144_7 : decode (pm_code 144) 7 = .ok (.iload_n 2, 1) := by decide +kernel
theorem d144_8 : decode (pm_code 144) 8 = .ok (.iconst 4, 1) := by decide +kernel
theorem d144_9 : decode (pm_code 144) 9 = .ok (.if_icmp .eq 9, 3) := by decide +kernel
theorem d144_12 : decode (pm_code 144) 12 = .ok (.iload_n 2, 1) := by decide +kernel
theorem d144_13 : decode (pm_code 144) 13 = .ok (.bipush 10, 2) := by decide +kernel
theorem d144_15 : decode (pm_code 144) 15 = .ok (.if_icmp .ne 34, 3) := by decide +kernel
theorem d144_18 : decode (pm_code 144) 18 = .ok (.aload_n 0, 1) := by decide +kernel
theorem d144_19 : decode (pm_code 144) 19 = .ok (.getfield 19, 3) := by decide +kernel
theorem d144_22 : decode (pm_code 144) 22 = .ok (.iload_n 1, 1) := by decide +kernel
theorem d144_23 : decode (pm_code 144) 23 = .ok (.iaload, 1) := by decide +kernel
theorem d144_24 : decode (pm_code 144) 24 = .ok (.iconst 1, 1) := by decide +kernel
theorem d144_25 : decode (pm_code 144) 25 = .ok (.iand, 1) := by decide +kernel
theorem d144_26 : decode (pm_code 144) 26 = .ok (.aload_n 0, 1) := by decide +kernel
theorem d144_27 : decode (pm_code 144) 27 = .ok (.getfield 19, 3) := by decide +kernel
theorem d144_30 : decode (pm_code 144) 30 = .ok (.iload_n 1, 1) := by decide +kernel
theorem d144_31 : decode (pm_code 144) 31 = .ok (.iaload, 1) := by decide +kernel
theorem d144_32 : decode (pm_code 144) 32 = .ok (.iconst 1, 1) := by decide +kernel
theorem d144_33 : decode (pm_code 144) 33 = .ok (.ishr, 1) := by decide +kernel
theorem d144_34 : decode (pm_code 144) 34 = .ok (.iconst 1, 1) := by decide +kernel
theorem d144_35 : decode (pm_code 144) 35 = .ok (.iand, 1) := by decide +kernel
theorem d144_36 : decode (pm_code 144) 36 = .ok (.iadd, 1) := by decide +kernel
theorem d144_37 : decode (pm_code 144) 37 = .ok (.aload_n 0, 1) := by decide +kernel
theorem d144_38 : decode (pm_code 144) 38 = .ok (.getfield 19, 3) := by decide +kernel
theorem d144_41 : decode (pm_code 144) 41 = .ok (.iload_n 1, 1) := by decide +kernel
theorem d144_42 : decode (pm_code 144) 42 = .ok (.iaload, 1) := by decide +kernel
theorem d144_43 : decode (pm_code 144) 43 = .ok (.iconst 2, 1) := by decide +kernel
theorem d144_44 : decode (pm_code 144) 44 = .ok (.ishr, 1) := by decide +kernel
theorem d144_45 : decode (pm_code 144) 45 = .ok (.iconst 1, 1) := by decide +kernel
theorem d144_46 : decode (pm_code 144) 46 = .ok (.iand, 1) := by decide +kernel
theorem d144_47 : decode (pm_code 144) 47 = .ok (.iadd, 1) := by decide +kernel
theorem d144_48 : decode (pm_code 144) 48 = .ok (.ireturn, 1) := by decide +kernel
theorem d144_49 : decode (pm_code 144) 49 = .ok (.iload_n 2, 1) := by decide +kernel
theorem d144_50 : decode (pm_code 144) 50 = .ok (.ifCond .eq 13, 3) := by decide +kernel
theorem d144_53 : decode (pm_code 144) 53 = .ok (.iload_n 2, 1) := by decide +kernel
theorem d144_54 : decode (pm_code 144) 54 = .ok (.iconst 3, 1) := by decide +kernel
theorem d144_55 : decode (pm_code 144) 55 = .ok (.if_icmp .eq 8, 3) := by decide +kernel
theorem d144_58 : decode (pm_code 144) 58 = .ok (.iload_n 2, 1) := by decide +kernel
theorem d144_59 : decode (pm_code 144) 59 = .ok (.iconst 5, 1) := by decide +kernel
theorem d144_60 : decode (pm_code 144) 60 = .ok (.if_icmp .ne 5, 3) := by decide +kernel
theorem d144_63 : decode (pm_code 144) 63 = .ok (.iconst 0, 1) := by decide +kernel
theorem d144_64 : decode (pm_code 144) 64 = .ok (.ireturn, 1) := by decide +kernel
theorem d144_65 : decode (pm_code 144) 65 = .ok (.iload_n 2, 1) := by decide +kernel
theorem d144_66 : decode (pm_code 144) 66 = .ok (.bipush 11, 2) := by decide +kernel
theorem d144_68 : decode (pm_code 144) 68 = .ok (.if_icmp .ne 7, 3) := by decide +kernel
theorem d144_71 : decode (pm_code 144) 71 = .ok (.iconst 1, 1) := by decide +kernel
theorem d144_72 : decode (pm_code 144) 72 = .ok (.goto 4, 3) := by decide +kernel
theorem d144_75 : decode (pm_code 144) 75 = .ok (.iconst 2, 1) := by decide +kernel
theorem d144_76 : decode (pm_code 144) 76 = .ok (.ireturn, 1) := by decide +kernel
theorem d145_0 : decode (pm_code 145) 0 = .ok (.iconst 1, 1) := by decide +kernel
theorem d145_1 : decode (pm_code 145) 1 = .ok (.istore_n 2, 1) := by decide +kernel
theorem d145_2 : decode (pm_code 145) 2 = .ok (.iload_n 1, 1) := by decide +kernel
theorem d145_3 : decode (pm_code 145) 3 = .ok (.istore_n 3, 1) := by decide +kernel
theorem d145_4 : decode (pm_code 145) 4 = .ok (.iload_n 2, 1) := by decide +kernel
theorem d145_5 : decode (pm_code 145) 5 = .ok (.ifCond .le 19, 3) := by decide +kernel
theorem d145_8 : decode (pm_code 145) 8 = .ok (.iload_n 2, 1) := by decide +kernel
theorem d145_9 : decode (pm_code 145) 9 = .ok (.aload_n 0, 1) := by decide +kernel
theorem d145_10 : decode (pm_code 145) 10 = .ok (.iload_n 3, 1) := by decide +kernel
theorem d145_11 : decode (pm_code 145) 11 = .ok (.invokevirtual 182, 3) := by decide +kernel
theorem d145_14 : decode (pm_code 145) 14 = .ok (.iadd, 1) := by decide +kernel
theorem d145_15 : decode (pm_code 145) 15 = .ok (.iconst 1, 1) := by decide +kernel
theorem d145_16 : decode (pm_code 145) 16 = .ok (.isub, 1) := by decide +kernel
theorem d145_17 : decode (pm_code 145) 17 = .ok (.istore_n 2, 1) := by decide +kernel
theorem d145_18 : decode (pm_code 145) 18 = .ok (.iinc 3 1, 3) := by decide +kernel
theorem d145_21 : decode (pm_code 145) 21 = .ok (.goto (-17), 3) := by decide +kernel
theorem d145_24 : decode (pm_code 145) 24 = .ok (.iload_n 3, 1) := by decide +kernel
theorem d145_25 : decode (pm_code 145) 25 = .ok (.ireturn, 1) := by decide +kernel
theorem d146_0 : decode (pm_code 146) 0 = .ok (.iload_n 1, 1) := by decide +kernel
theorem d146_1 : decode (pm_code 146) 1 = .ok (.istore 4, 2) := by decide +kernel
theorem d146_3 : decode (pm_code 146) 3 = .ok (.iload 4, 2) := by decide +kernel
theorem d146_5 : decode (pm_code 146) 5 = .ok (.ifCond .lt 37, 3) := by decide +kernel
theorem d146_8 : decode (pm_code 146) 8 = .ok (.aload_n 0, 1) := by decide +kernel
theorem d146_9 : decode (pm_code 146) 9 = .ok (.getfield 34, 3) := by decide +kernel
theorem d146_12 : decode (pm_code 146) 12 = .ok (.iload 4, 2) := by decide +kernel
theorem d146_14 : decode (pm_code 146) 14 = .ok (.iaload, 1) := by decide +kernel
theorem d146_15 : decode (pm_code 146) 15 = .ok (.iload_n 2, 1) := by decide +kernel
theorem d146_16 : decode (pm_code 146) 16 = .ok (.if_icmp .ne 14, 3) := by decide +kernel
theorem d146_19 : decode (pm_code 146) 19 = .ok (.aload_n 0, 1) := by decide +kernel
theorem d146_20 : decode (pm_code 146) 20 = .ok (.getfield 37, 3) := by decide +kernel
theorem d146_23 : decode (pm_code 146) 23 = .ok (.iload 4, 2) := by decide +kernel
theorem d146_25 : decode (pm_code 146) 25 = .ok (.iaload, 1) := by decide +kernel
theorem d146_26 : decode (pm_code 146) 26 = .ok (.iload_n 3, 1) := by decide +kernel
theorem d146_27 : decode (pm_code 146) 27 = .ok (.if_icmp .eq 15, 3) := by decide +kernel
theorem d146_30 : decode (pm_code 146) 30 = .ok (.aload_n 0, 1) := by decide +kernel
theorem d146_31 : decode (pm_code 146) 31 = .ok (.getfield 31, 3) := by decide +kernel
theorem d146_34 : decode (pm_code 146) 34 = .ok (.iload 4, 2) := by decide +kernel
theorem d146_36 : decode (pm_code 146) 36 = .ok (.iaload, 1) := by decide +kernel
theorem d146_37 : decode (pm_code 146) 37 = .ok (.istore 4, 2) := by decide +kernel
theorem d146_39 : decode (pm_code 146) 39 = .ok (.goto (-36), 3) := by decide +kernel
theorem d146_42 : decode (pm_code 146) 42 = .ok (.iload 4, 2) := by decide +kernel
theorem d146_44 : decode (pm_code 146) 44 = .ok (.ireturn, 1) := by decide +kernel
theorem d147_0 : decode (pm_code 147) 0 = .ok (.iconst 0, 1) := by decide +kernel
theorem d147_1 : decode (pm_code 147) 1 = .ok (.istore_n 2, 1) := by decide +kernel
theorem d147_2 : decode (pm_code 147) 2 = .ok (.iload_n 1, 1) := by decide +kernel
theorem d147_3 : decode (pm_code 147) 3 = .ok (.istore_n 3, 1) := by decide +kernel
theorem d147_4 : decode (pm_code 147) 4 = .ok (.iload_n 3, 1) := by decide +kernel
theorem d147_5 : decode (pm_code 147) 5 = .ok (.ifCond .lt 30, 3) := by decide +kernel
theorem d147_8 : decode (pm_code 147) 8 = .ok (.aload_n 0, 1) := by decide +kernel
theorem d147_9 : decode (pm_code 147) 9 = .ok (.getfield 34, 3) := by decide +kernel
theorem d147_12 : decode (pm_code 147) 12 = .ok (.iload_n 3, 1) := by decide +kernel
theorem d147_13 : decode (pm_code 147) 13 = .ok (.iaload, 1) := by decide +kernel
theorem d147_14 : decode (pm_code 147) 14 = .ok (.ifCond .ne 9, 3) := by decide +kernel
theorem d147_17 : decode (pm_code 147) 17 = .ok (.iload_n 2, 1) := by decide +kernel
theorem d147_18 : decode (pm_code 147) 18 = .ok (.iconst 1, 1) := by decide +kernel
theorem d147_19 : decode (pm_code 147) 19 = .ok (.iadd, 1) := by decide +kernel
theorem d147_20 : decode (pm_code 147) 20 = .ok (.goto 4, 3) := by decide +kernel
theorem d147_23 : decode (pm_code 147) 23 = .ok (.iload_n 2, 1) := by decide +kernel
theorem d147_24 : decode (pm_code 147) 24 = .ok (.istore_n 2, 1) := by decide +kernel
theorem d147_25 : decode (pm_code 147) 25 = .ok (.aload_n 0, 1) := by decide +kernel
theorem d147_26 : decode (pm_code 147) 26 = .ok (.getfield 31, 3) := by decide +kernel
theorem d147_29 : decode (pm_code 147) 29 = .ok (.iload_n 3, 1) := by decide +kernel
theorem d147_30 : decode (pm_code 147) 30 = .ok (.iaload, 1) := by decide +kernel
theorem d147_31 : decode (pm_code 147) 31 = .ok (.istore_n 3, 1) := by decide +kernel
theorem d147_32 : decode (pm_code 147) 32 = .ok (.goto (-28), 3) := by decide +kernel
theorem d147_35 : decode (pm_code 147) 35 = .ok (.iload_n 2, 1) := by decide +kernel
theorem d147_36 : decode (pm_code 147) 36 = .ok (.ireturn, 1) := by decide +kernel
theorem d148_0 : decode (pm_code 148) 0 = .ok (.bipush 64, 2) := by decide +kernel
theorem d148_2 : decode (pm_code 148) 2 = .ok (.istore_n 1, 1) := by decide +kernel
theorem d148_3 : decode (pm_code 148) 3 = .ok (.iload_n 1, 1) := by decide +kernel
theorem d148_4 : decode (pm_code 148) 4 = .ok (.aload_n 0, 1) := by decide +kernel
theorem d148_5 : decode (pm_code 148) 5 = .ok (.getfield 150, 3) := by decide +kernel
theorem d148_8 : decode (pm_code 148) 8 = .ok (.if_icmp .ge 95, 3) := by decide +kernel
theorem d148_11 : decode (pm_code 148) 11 = .ok (.aload_n 0, 1) := by decide +kernel
theorem d148_12 : decode (pm_code 148) 12 = .ok (.getfield 16, 3) := by decide +kernel
theorem d148_15 : decode (pm_code 148) 15 = .ok (.iload_n 1, 1) := by decide +kernel
theorem d148_16 : decode (pm_code 148) 16 = .ok (.iaload, 1) := by decide +kernel
theorem d148_17 : decode (pm_code 148) 17 = .ok (.iconst 3, 1) := by decide +kernel
theorem d148_18 : decode (pm_code 148) 18 = .ok (.if_icmp .ne 23, 3) := by decide +kernel
theorem d148_21 : decode (pm_code 148) 21 = .ok (.aload_n 0, 1) := by decide +kernel
theorem d148_22 : decode (pm_code 148) 22 = .ok (.aload_n 0, 1) := by decide +kernel
theorem d148_23 : decode (pm_code 148) 23 = .ok (.getfield 25, 3) := by decide +kernel
theorem d148_26 : decode (pm_code 148) 26 = .ok (.iload_n 1, 1) := by decide +kernel
theorem d148_27 : decode (pm_code 148) 27 = .ok (.iaload, 1) := by decide +kernel
theorem d148_28 : decode (pm_code 148) 28 = .ok (.iconst 0, 1) := by decide +kernel
theorem d148_29 : decode (pm_code 148) 29 = .ok (.aload_n 0, 1) := by decide +kernel
theorem d148_30 : decode (pm_code 148) 30 = .ok (.getfield 19, 3) := by decide +kernel
theorem d148_33 : decode (pm_code 148) 33 = .ok (.iload_n 1, 1) := by decide +kernel
theorem d148_34 : decode (pm_code 148) 34 = .ok (.iaload, 1) := by decide +kernel
theorem d148_35 : decode (pm_code 148) 35 = .ok (.invokevirtual 186, 3) := by decide +kernel
theorem d148_38 : decode (pm_code 148) 38 = .ok (.ifCond .lt 33, 3) := by decide +kernel
theorem d148_41 : decode (pm_code 148) 41 = .ok (.aload_n 0, 1) := by decide +kernel
theorem d148_42 : decode (pm_code 148) 42 = .ok (.getfield 16, 3) := by decide +kernel
theorem d148_45 : decode (pm_code 148) 45 = .ok (.iload_n 1, 1) := by decide +kernel
theorem d148_46 : decode (pm_code 148) 46 = .ok (.iaload, 1) := by decide +kernel
theorem d148_47 : decode (pm_code 148) 47 = .ok (.iconst 5, 1) := by decide +kernel
theorem d148_48 : decode (pm_code 148) 48 = .ok (.if_icmp .ne 25, 3) := by decide +kernel
theorem d148_51 : decode (pm_code 148) 51 = .ok (.aload_n 0, 1) := by decide +kernel
theorem d148_52 : decode (pm_code 148) 52 = .ok (.aload_n 0, 1) := by decide +kernel
theorem d148_53 : decode (pm_code 148) 53 = .ok (.getfield 25, 3) := by decide +kernel
theorem d148_56 : decode (pm_code 148) 56 = .ok (.iload_n 1, 1) := by decide +kernel
theorem d148_57 : decode (pm_code 148) 57 = .ok (.iaload, 1) := by decide +kernel
theorem d148_58 : decode (pm_code 148) 58 = .ok (.iconst 1, 1) := by decide +kernel
theorem d148_59 : decode (pm_code 148) 59 = .ok (.aload_n 0, 1) := by decide +kernel
theorem d148_60 : decode (pm_code 148) 60 = .ok (.getfield 19, 3) := by decide +kernel
theorem d148_63 : decode (pm_code 148) 63 = .ok (.iload_n 1, 1) := by decide +kernel
theorem d148_64 : decode (pm_code 148) 64 = .ok (.iaload, 1) := by decide +kernel
theorem d148_65 : decode (pm_code 148) 65 = .ok (.invokevirtual 186, 3) := by decide +kernel
theorem d148_68 : decode (pm_code 148) 68 = .ok (.ifCond .ge 5, 3) := by decide +kernel
theorem d148_71 : decode (pm_code 148) 71 = .ok (.iconst 0, 1) := by decide +kernel
theorem d148_72 : decode (pm_code 148) 72 = .ok (.ireturn, 1) := by decide +kernel
theorem d148_73 : decode (pm_code 148) 73 = .ok (.aload_n 0, 1) := by decide +kernel
theorem d148_74 : decode (pm_code 148) 74 = .ok (.getfield 16, 3) := by decide +kernel
theorem d148_77 : decode (pm_code 148) 77 = .ok (.iload_n 1, 1) := by decide +kernel
theorem d148_78 : decode (pm_code 148) 78 = .ok (.iaload, 1) := by decide +kernel
theorem d148_79 : decode (pm_code 148) 79 = .ok (.iconst 5, 1) := by decide +kernel
theorem d148_80 : decode (pm_code 148) 80 = .ok (.if_icmp .ge 17, 3) := by decide +kernel
theorem d148_83 : decode (pm_code 148) 83 = .ok (.aload_n 0, 1) := by decide +kernel
theorem d148_84 : decode (pm_code 148) 84 = .ok (.iload_n 1, 1) := by decide +kernel
theorem d148_85 : decode (pm_code 148) 85 = .ok (.invokevirtual 189, 3) := by decide +kernel
theorem d148_88 : decode (pm_code 148) 88 = .ok (.iload_n 1, 1) := by decide +kernel
theorem d148_89 : decode (pm_code 148) 89 = .ok (.isub, 1) := by decide +kernel
theorem d148_90 : decode (pm_code 148) 90 = .ok (.bipush 16, 2) := by decide +kernel
theorem d148_92 : decode (pm_code 148) 92 = .ok (.if_icmp .le 5, 3) := by decide +kernel
theorem d148_95 : decode (pm_code 148) 95 = .ok (.iconst 0, 1) := by decide +kernel
theorem d148_96 : decode (pm_code 148) 96 = .ok (.ireturn, 1) := by decide +kernel
theorem d148_97 : decode (pm_code 148) 97 = .ok (.iinc 1 1, 3) := by decide +kernel
theorem d148_100 : decode (pm_code 148) 100 = .ok (.goto (-97), 3) := by decide +kernel
theorem d148_103 : decode (pm_code 148) 103 = .ok (.iconst 1, 1) := by decide +kernel
theorem d148_104 : decode (pm_code 148) 104 = .ok (.ireturn, 1) := by decide +kernel
theorem d149_0 : decode (pm_code 149) 0 = .ok (.aload_n 0, 1) := by decide +kernel
theorem d149_1 : decode (pm_code 149) 1 = .ok (.getfield 63, 3) := by decide +kernel
theorem d149_4 : decode (pm_code 149) 4 = .ok (.bipush 17, 2) := by decide +kernel
theorem d149_6 : decode (pm_code 149) 6 = .ok (.iload_n 1, 1) := by decide +kernel
theorem d149_7 : decode (pm_code 149) 7 = .ok (.imul, 1) := by decide +kernel
theorem d149_8 : decode (pm_code 149) 8 = .ok (.iload_n 2, 1) := by decide +kernel
theorem d149_9 : decode (pm_code 149) 9 = .ok (.iadd, 1) := by decide +kernel
theorem d149_10 : decode (pm_code 149) 10 = .ok (.iaload, 1) := by decide +kernel
theorem d149_11 : decode (pm_code 149) 11 = .ok (.ireturn, 1) := by decide +kernel
theorem d150_0 : decode (pm_code 150) 0 = .ok (.aload_n 0, 1) := by decide +kernel
theorem d150_1 : decode (pm_code 150) 1 = .ok (.dup, 1) := by decide +kernel
theorem d150_2 : decode (pm_code 150) 2 = .ok (.getfield 59, 3) := by decide +kernel
theorem d150_5 : decode (pm_code 150) 5 = .ok (.iconst 1, 1) := by decide +kernel
theorem d150_6 : decode (pm_code 150) 6 = .ok (.iadd, 1) := by decide +kernel
theorem d150_7 : decode (pm_code 150) 7 = .ok (.putfield 59, 3) := by decide +kernel
theorem d150_10 : decode (pm_code 150) 10 = .ok (.aload_n 0, 1) := by decide +kernel
theorem d150_11 : decode (pm_code 150) 11 = .ok (.getfield 59, 3) := by decide +kernel
theorem d150_14 : decode (pm_code 150) 14 = .ok (.iconst 1, 1) := by decide +kernel
theorem d150_15 : decode (pm_code 150) 15 = .ok (.isub, 1) := by decide +kernel
theorem d150_16 : decode (pm_code 150) 16 = .ok (.ireturn, 1) := by decide +kernel
theorem d151_0 : decode (pm_code 151) 0 = .ok (.iload_n 0, 1) := by decide +kernel
theorem d151_1 : decode (pm_code 151) 1 = .ok (.iconst 1, 1) := by decide +kernel
theorem d151_2 : decode (pm_code 151) 2 = .ok (.iand, 1) := by decide +kernel
theorem d151_3 : decode (pm_code 151) 3 = .ok (.iload_n 0, 1) := by decide +kernel
theorem d151_4 : decode (pm_code 151) 4 = .ok (.iconst 1, 1) := by decide +kernel
theorem d151_5 : decode (pm_code 151) 5 = .ok (.ishr, 1) := by decide +kernel
theorem d151_6 : decode (pm_code 151) 6 = .ok (.iconst 1, 1) := by decide +kernel
theorem d151_7 : decode (pm_code 151) 7 = .ok (.iand, 1) := by decide +kernel
theorem d151_8 : decode (pm_code 151) 8 = .ok (.iadd, 1) := by decide +kernel
theorem d151_9 : decode (pm_code 151) 9 = .ok (.iload_n 0, 1) := by decide +kernel
theorem d151_10 : decode (pm_code 151) 10 = .ok (.iconst 2, 1) := by decide +kernel
theorem d151_11 : decode (pm_code 151) 11 = .ok (.ishr, 1) := by decide +kernel
theorem d151_12 : decode (pm_code 151) 12 = .ok (.iconst 1, 1) := by decide +kernel
theorem d151_13 : decode (pm_code 151) 13 = .ok (.iand, 1) := by decide +kernel
theorem d151_14 : decode (pm_code 151) 14 = .ok (.iadd, 1) := by decide +kernel
theorem d151_15 : decode (pm_code 151) 15 = .ok (.ireturn, 1) := by decide +kernel
theorem d152_0 : decode (pm_code 152) 0 = .ok (.iconst 1, 1) := by decide +kernel
theorem d152_1 : decode (pm_code 152) 1 = .ok (.istore_n 3, 1) := by decide +kernel
theorem d152_2 : decode (pm_code 152) 2 = .ok (.iload_n 2, 1) := by decide +kernel
theorem d152_3 : decode (pm_code 152) 3 = .ok (.istore 4, 2) := by decide +kernel
theorem d152_5 : decode (pm_code 152) 5 = .ok (.iload_n 3, 1) := by decide +kernel
theorem d152_6 : decode (pm_code 152) 6 = .ok (.ifCond .le 65, 3) := by decide +kernel
theorem d152_9 : decode (pm_code 152) 9 = .ok (.aload_n 0, 1) := by decide +kernel
theorem d152_10 : decode (pm_code 152) 10 = .ok (.iload_n 1, 1) := by decide +kernel
theorem d152_11 : decode (pm_code 152) 11 = .ok (.iload 4, 2) := by decide +kernel
theorem d152_13 : decode (pm_code 152) 13 = .ok (.invokevirtual 192, 3) := by decide +kernel
theorem d152_16 : decode (pm_code 152) 16 = .ok (.istore 5, 2) := by decide +kernel
theorem d152_18 : decode (pm_code 152) 18 = .ok (.iload_n 3, 1) := by decide +kernel
theorem d152_19 : decode (pm_code 152) 19 = .ok (.iconst 1, 1) := by decide +kernel
theorem d152_20 : decode (pm_code 152) 20 = .ok (.isub, 1) := by decide +kernel
theorem d152_21 : decode (pm_code 152) 21 = .ok (.iload 5, 2) := by decide +kernel
theorem d152_23 : decode (pm_code 152) 23 = .ok (.iconst 1, 1) := by decide +kernel
theorem d152_24 : decode (pm_code 152) 24 = .ok (.if_icmp .eq 9, 3) := by decide +kernel
theorem d152_27 : decode (pm_code 152) 27 = .ok (.iload 5, 2) := by decide +kernel
theorem d152_29 : decode (pm_code 152) 29 = .ok (.iconst 2, 1) := by decide +kernel
theorem d152_30 : decode (pm_code 152) 30 = .ok (.if_icmp .ne 7, 3) := by decide +kernel
theorem d152_33 : decode (pm_code 152) 33 = .ok (.iconst 2, 1) := by decide +kernel
theorem d152_34 : decode (pm_code 152) 34 = .ok (.goto 29, 3) := by decide +kernel
theorem d152_37 : decode (pm_code 152) 37 = .ok (.iload 5, 2) := by decide +kernel
theorem d152_39 : decode (pm_code 152) 39 = .ok (.bipush 8, 2) := by decide +kernel
theorem d152_41 : decode (pm_code 152) 41 = .ok (.if_icmp .lt 21, 3) := by decide +kernel
theorem d152_44 : decode (pm_code 152) 44 = .ok (.iload 5, 2) := by decide +kernel
theorem d152_46 : decode (pm_code 152) 46 = .ok (.bipush 16, 2) := by decide +kernel
theorem d152_48 : decode (pm_code 152) 48 = .ok (.if_icmp .ge 14, 3) := by decide +kernel
theorem d152_51 : decode (pm_code 152) 51 = .ok (.iload 5, 2) := by decide +kernel
theorem d152_53 : decode (pm_code 152) 53 = .ok (.bipush 8, 2) := by decide +kernel
theorem d152_55 : decode (pm_code 152) 55 = .ok (.isub, 1) := by decide +kernel
theorem d152_56 : decode (pm_code 152) 56 = .ok (.invokestatic 196, 3) := by decide +kernel
theorem d152_59 : decode (pm_code 152) 59 = .ok (.goto 4, 3) := by decide +kernel
theorem d152_62 : decode (pm_code 152) 62 = .ok (.iconst 0, 1) := by decide +kernel
theorem d152_63 : decode (pm_code 152) 63 = .ok (.iadd, 1) := by decide +kernel
theorem d152_64 : decode (pm_code 152) 64 = .ok (.istore_n 3, 1) := by decide +kernel
theorem d152_65 : decode (pm_code 152) 65 = .ok (.iinc 4 1, 3) := by decide +kernel
theorem d152_68 : decode (pm_code 152) 68 = .ok (.goto (-63), 3) := by decide +kernel
theorem d152_71 : decode (pm_code 152) 71 = .ok (.iload 4, 2) := by decide +kernel
theorem d152_73 : decode (pm_code 152) 73 = .ok (.ireturn, 1) := by decide +kernel
theorem d153_0 : decode (pm_code 153) 0 = .ok (.aload_n 0, 1) := by decide +kernel
theorem d153_1 : decode (pm_code 153) 1 = .ok (.iload_n 1, 1) := by decide +kernel
theorem d153_2 : decode (pm_code 153) 2 = .ok (.iload_n 2, 1) := by decide +kernel
theorem d153_3 : decode (pm_code 153) 3 = .ok (.invokevirtual 199, 3) := by decide +kernel
theorem d153_6 : decode (pm_code 153) 6 = .ok (.istore 5, 2) := by decide +kernel
theorem d153_8 : decode (pm_code 153) 8 = .ok (.iload_n 2, 1) := by decide +kernel
theorem d153_9 : decode (pm_code 153) 9 = .ok (.istore 6, 2) := by decide +kernel
theorem d153_11 : decode (pm_code 153) 11 = .ok (.iload 6, 2) := by decide +kernel
theorem d153_13 : decode (pm_code 153) 13 = .ok (.iload 5, 2) := by decide +kernel
theorem d153_15 : decode (pm_code 153) 15 = .ok (.if_icmp .ge 33, 3) := by decide +kernel
theorem d153_18 : decode (pm_code 153) 18 = .ok (.aload_n 0, 1) := by decide +kernel
theorem d153_19 : decode (pm_code 153) 19 = .ok (.getfield 63, 3) := by decide +kernel
theorem d153_22 : decode (pm_code 153) 22 = .ok (.bipush 17, 2) := by decide +kernel
theorem d153_24 : decode (pm_code 153) 24 = .ok (.iload_n 3, 1) := by decide +kernel
theorem d153_25 : decode (pm_code 153) 25 = .ok (.imul, 1) := by decide +kernel
theorem d153_26 : decode (pm_code 153) 26 = .ok (.iload 4, 2) := by decide +kernel
theorem d153_28 : decode (pm_code 153) 28 = .ok (.iadd, 1) := by decide +kernel
theorem d153_29 : decode (pm_code 153) 29 = .ok (.iload 6, 2) := by decide +kernel
theorem d153_31 : decode (pm_code 153) 31 = .ok (.iadd, 1) := by decide +kernel
theorem d153_32 : decode (pm_code 153) 32 = .ok (.iload_n 2, 1) := by decide +kernel
theorem d153_33 : decode (pm_code 153) 33 = .ok (.isub, 1) := by decide +kernel
theorem d153_34 : decode (pm_code 153) 34 = .ok (.aload_n 0, 1) := by decide +kernel
theorem d153_35 : decode (pm_code 153) 35 = .ok (.iload_n 1, 1) := by decide +kernel
theorem d153_36 : decode (pm_code 153) 36 = .ok (.iload 6, 2) := by decide +kernel
theorem d153_38 : decode (pm_code 153) 38 = .ok (.invokevirtual 192, 3) := by decide +kernel
theorem d153_41 : decode (pm_code 153) 41 = .ok (.iastore, 1) := by decide +kernel
theorem d153_42 : decode (pm_code 153) 42 = .ok (.iinc 6 1, 3) := by decide +kernel
theorem d153_45 : decode (pm_code 153) 45 = .ok (.goto (-34), 3) := by decide +kernel
theorem d153_48 : decode (pm_code 153) 48 = .ok (.return_, 1) := by decide +kernel
theorem d154_0 : decode (pm_code 154) 0 = .ok (.aload_n 0, 1) := by decide +kernel
theorem d154_1 : decode (pm_code 154) 1 = .ok (.iload_n 1, 1) := by decide +kernel
theorem d154_2 : decode (pm_code 154) 2 = .ok (.iload_n 2, 1) := by decide +kernel
theorem d154_3 : decode (pm_code 154) 3 = .ok (.invokevirtual 199, 3) := by decide +kernel
theorem d154_6 : decode (pm_code 154) 6 = .ok (.iload_n 2, 1) := by decide +kernel
theorem d154_7 : decode (pm_code 154) 7 = .ok (.isub, 1) := by decide +kernel
theorem d154_8 : decode (pm_code 154) 8 = .ok (.istore 5, 2) := by decide +kernel
theorem d154_10 : decode (pm_code 154) 10 = .ok (.aload_n 0, 1) := by decide +kernel
theorem d154_11 : decode (pm_code 154) 11 = .ok (.iload_n 3, 1) := by decide +kernel
theorem d154_12 : decode (pm_code 154) 12 = .ok (.iload 4, 2) := by decide +kernel
theorem d154_14 : decode (pm_code 154) 14 = .ok (.invokevirtual 199, 3) := by decide +kernel
theorem d154_17 : decode (pm_code 154) 17 = .ok (.iload 4, 2) := by decide +kernel
theorem d154_19 : decode (pm_code 154) 19 = .ok (.isub, 1) := by decide +kernel
theorem d154_20 : decode (pm_code 154) 20 = .ok (.iload 5, 2) := by decide +kernel
theorem d154_22 : decode (pm_code 154) 22 = .ok (.if_icmp .ne 7, 3) := by decide +kernel
theorem d154_25 : decode (pm_code 154) 25 = .ok (.iconst 1, 1) := by decide +kernel
theorem d154_26 : decode (pm_code 154) 26 = .ok (.goto 4, 3) := by decide +kernel
theorem d154_29 : decode (pm_code 154) 29 = .ok (.iconst 0, 1) := by decide +kernel
theorem d154_30 : decode (pm_code 154) 30 = .ok (.istore 6, 2) := by decide +kernel
theorem d154_32 : decode (pm_code 154) 32 = .ok (.iconst 0, 1) := by decide +kernel
theorem d154_33 : decode (pm_code 154) 33 = .ok (.istore 7, 2) := by decide +kernel
theorem d154_35 : decode (pm_code 154) 35 = .ok (.iload 7, 2) := by decide +kernel
theorem d154_37 : decode (pm_code 154) 37 = .ok (.iload 5, 2) := by decide +kernel
theorem d154_39 : decode (pm_code 154) 39 = .ok (.if_icmp .ge 43, 3) := by decide +kernel
theorem d154_42 : decode (pm_code 154) 42 = .ok (.iload 6, 2) := by decide +kernel
theorem d154_44 : decode (pm_code 154) 44 = .ok (.ifCond .eq 38, 3) := by decide +kernel
theorem d154_47 : decode (pm_code 154) 47 = .ok (.aload_n 0, 1) := by decide +kernel
theorem d154_48 : decode (pm_code 154) 48 = .ok (.iload_n 1, 1) := by decide +kernel
theorem d154_49 : decode (pm_code 154) 49 = .ok (.iload_n 2, 1) := by decide +kernel
theorem d154_50 : decode (pm_code 154) 50 = .ok (.iload 7, 2) := by decide +kernel
theorem d154_52 : decode (pm_code 154) 52 = .ok (.iadd, 1) := by decide +kernel
theorem d154_53 : decode (pm_code 154) 53 = .ok (.invokevirtual 192, 3) := by decide +kernel
theorem d154_56 : decode (pm_code 154) 56 = .ok (.aload_n 0, 1) := by decide +kernel
theorem d154_57 : decode (pm_code 154) 57 = .ok (.iload_n 3, 1) := by decide +kernel
theorem d154_58 : decode (pm_code 154) 58 = .ok (.iload 4, 2) := by decide +kernel
theorem d154_60 : decode (pm_code 154) 60 = .ok (.iload 7, 2) := by decide +kernel
theorem d154_62 : decode (pm_code 154) 62 = .ok (.iadd, 1) := by decide +kernel
theorem d154_63 : decode (pm_code 154) 63 = .ok (.invokevirtual 192, 3) := by decide +kernel
theorem d154_66 : decode (pm_code 154) 66 = .ok (.if_icmp .ne 7, 3) := by decide +kernel
theorem d154_69 : decode (pm_code 154) 69 = .ok (.iconst 1, 1) := by decide +kernel
theorem d154_70 : decode (pm_code 154) 70 = .ok (.goto 4, 3) := by decide +kernel
theorem d154_73 : decode (pm_code 154) 73 = .ok (.iconst 0, 1) := by decide +kernel
theorem d154_74 : decode (pm_code 154) 74 = .ok (.istore 6, 2) := by decide +kernel
theorem d154_76 : decode (pm_code 154) 76 = .ok (.iinc 7 1, 3) := by decide +kernel
theorem d154_79 : decode (pm_code 154) 79 = .ok (.goto (-44), 3) := by decide +kernel
theorem d154_82 : decode (pm_code 154) 82 = .ok (.iload 6, 2) := by decide +kernel
theorem d154_84 : decode (pm_code 154) 84 = .ok (.ireturn, 1) := by decide +kernel
theorem d155_0 : decode (pm_code 155) 0 = .ok (.aload_n 0, 1) := by decide +kernel
theorem d155_1 : decode (pm_code 155) 1 = .ok (.iload_n 1, 1) := by decide +kernel
theorem d155_2 : decode (pm_code 155) 2 = .ok (.invokevirtual 189, 3) := by decide +kernel
theorem d155_5 : decode (pm_code 155) 5 = .ok (.istore_n 3, 1) := by decide +kernel
theorem d155_6 : decode (pm_code 155) 6 = .ok (.iload_n 1, 1) := by decide +kernel
theorem d155_7 : decode (pm_code 155) 7 = .ok (.istore 4, 2) := by decide +kernel
theorem d155_9 : decode (pm_code 155) 9 = .ok (.iload 4, 2) := by decide +kernel
theorem d155_11 : decode (pm_code 155) 11 = .ok (.iload_n 3, 1) := by decide +kernel
theorem d155_12 : decode (pm_code 155) 12 = .ok (.if_icmp .ge 102, 3) := by decide +kernel
theorem d155_15 : decode (pm_code 155) 15 = .ok (.aload_n 0, 1) := by decide +kernel
theorem d155_16 : decode (pm_code 155) 16 = .ok (.getfield 16, 3) := by decide +kernel
theorem d155_19 : decode (pm_code 155) 19 = .ok (.iload 4, 2) := by decide +kernel
theorem d155_21 : decode (pm_code 155) 21 = .ok (.iaload, 1) := by decide +kernel
theorem d155_22 : decode (pm_code 155) 22 = .ok (.iconst 4, 1) := by decide +kernel
theorem d155_23 : decode (pm_code 155) 23 = .ok (.if_icmp .ne 16, 3) := by decide +kernel
theorem d155_26 : decode (pm_code 155) 26 = .ok (.bipush 8, 2) := by decide +kernel
theorem d155_28 : decode (pm_code 155) 28 = .ok (.aload_n 0, 1) := by decide +kernel
theorem d155_29 : decode (pm_code 155) 29 = .ok (.getfield 19, 3) := by decide +kernel
theorem d155_32 : decode (pm_code 155) 32 = .ok (.iload 4, 2) := by decide +kernel
theorem d155_34 : decode (pm_code 155) 34 = .ok (.iaload, 1) := by decide +kernel
theorem d155_35 : decode (pm_code 155) 35 = .ok (.iadd, 1) := by decide +kernel
theorem d155_36 : decode (pm_code 155) 36 = .ok (.goto 10, 3) := by decide +kernel
theorem d155_39 : decode (pm_code 155) 39 = .ok (.aload_n 0, 1) := by decide +kernel
theorem d155_40 : decode (pm_code 155) 40 = .ok (.getfield 16, 3) := by decide +kernel
theorem d155_43 : decode (pm_code 155) 43 = .ok (.iload 4, 2) := by decide +kernel
theorem d155_45 : decode (pm_code 155) 45 = .ok (.iaload, 1) := by decide +kernel
theorem d155_46 : decode (pm_code 155) 46 = .ok (.istore 5, 2) := by decide +kernel
theorem d155_48 : decode (pm_code 155) 48 = .ok (.aload_n 0, 1) := by decide +kernel
theorem d155_49 : decode (pm_code 155) 49 = .ok (.getfield 16, 3) := by decide +kernel
theorem d155_52 : decode (pm_code 155) 52 = .ok (.iload 4, 2) := by decide +kernel
theorem d155_54 : decode (pm_code 155) 54 = .ok (.iaload, 1) := by decide +kernel
theorem d155_55 : decode (pm_code 155) 55 = .ok (.iconst 3, 1) := by decide +kernel
theorem d155_56 : decode (pm_code 155) 56 = .ok (.if_icmp .ne 36, 3) := by decide +kernel
theorem d155_59 : decode (pm_code 155) 59 = .ok (.bipush 16, 2) := by decide +kernel
theorem d155_61 : decode (pm_code 155) 61 = .ok (.aload_n 0, 1) := by decide +kernel
theorem d155_62 : decode (pm_code 155) 62 = .ok (.aload_n 0, 1) := by decide +kernel
theorem d155_63 : decode (pm_code 155) 63 = .ok (.getfield 31, 3) := by decide +kernel
theorem d155_66 : decode (pm_code 155) 66 = .ok (.aload_n 0, 1) := by decide +kernel
theorem d155_67 : decode (pm_code 155) 67 = .ok (.aload_n 0, 1) := by decide +kernel
theorem d155_68 : decode (pm_code 155) 68 = .ok (.getfield 25, 3) := by decide +kernel
theorem d155_71 : decode (pm_code 155) 71 = .ok (.iload 4, 2) := by decide +kernel
theorem d155_73 : decode (pm_code 155) 73 = .ok (.iaload, 1) := by decide +kernel
theorem d155_74 : decode (pm_code 155) 74 = .ok (.iconst 0, 1) := by decide +kernel
theorem d155_75 : decode (pm_code 155) 75 = .ok (.aload_n 0, 1) := by decide +kernel
theorem d155_76 : decode (pm_code 155) 76 = .ok (.getfield 19, 3) := by decide +kernel
theorem d155_79 : decode (pm_code 155) 79 = .ok (.iload 4, 2) := by decide +kernel
theorem d155_81 : decode (pm_code 155) 81 = .ok (.iaload, 1) := by decide +kernel
theorem d155_82 : decode (pm_code 155) 82 = .ok (.invokevirtual 186, 3) := by decide +kernel
theorem d155_85 : decode (pm_code 155) 85 = .ok (.iaload, 1) := by decide +kernel
theorem d155_86 : decode (pm_code 155) 86 = .ok (.invokevirtual 202, 3) := by decide +kernel
theorem d155_89 : decode (pm_code 155) 89 = .ok (.iadd, 1) := by decide +kernel
theorem d155_90 : decode (pm_code 155) 90 = .ok (.istore 5, 2) := by decide +kernel
theorem d155_92 : decode (pm_code 155) 92 = .ok (.aload_n 0, 1) := by decide +kernel
theorem d155_93 : decode (pm_code 155) 93 = .ok (.getfield 63, 3) := by decide +kernel
theorem d155_96 : decode (pm_code 155) 96 = .ok (.bipush 17, 2) := by decide +kernel
theorem d155_98 : decode (pm_code 155) 98 = .ok (.iload_n 2, 1) := by decide +kernel
theorem d155_99 : decode (pm_code 155) 99 = .ok (.imul, 1) := by decide +kernel
theorem d155_100 : decode (pm_code 155) 100 = .ok (.iload 4, 2) := by decide +kernel
theorem d155_102 : decode (pm_code 155) 102 = .ok (.iadd, 1) := by decide +kernel
theorem d155_103 : decode (pm_code 155) 103 = .ok (.iload_n 1, 1) := by decide +kernel
theorem d155_104 : decode (pm_code 155) 104 = .ok (.isub, 1) := by decide +kernel
theorem d155_105 : decode (pm_code 155) 105 = .ok (.iload 5, 2) := by decide +kernel
theorem d155_107 : decode (pm_code 155) 107 = .ok (.iastore, 1) := by decide +kernel
theorem d155_108 : decode (pm_code 155) 108 = .ok (.iinc 4 1, 3) := by decide +kernel
theorem d155_111 : decode (pm_code 155) 111 = .ok (.goto (-102), 3) := by decide +kernel
theorem d155_114 : decode (pm_code 155) 114 = .ok (.return_, 1) := by decide +kernel
theorem d156_0 : decode (pm_code 156) 0 = .ok (.aload_n 0, 1) := by decide +kernel
theorem d156_1 : decode (pm_code 156) 1 = .ok (.invokevirtual 205, 3) := by decide +kernel
theorem d156_4 : decode (pm_code 156) 4 = .ok (.istore 5, 2) := by decide +kernel
theorem d156_6 : decode (pm_code 156) 6 = .ok (.aload_n 0, 1) := by decide +kernel
theorem d156_7 : decode (pm_code 156) 7 = .ok (.iload_n 1, 1) := by decide +kernel
theorem d156_8 : decode (pm_code 156) 8 = .ok (.iload_n 2, 1) := by decide +kernel
theorem d156_9 : decode (pm_code 156) 9 = .ok (.iload 5, 2) := by decide +kernel
theorem d156_11 : decode (pm_code 156) 11 = .ok (.iconst 0, 1) := by decide +kernel
theorem d156_12 : decode (pm_code 156) 12 = .ok (.invokevirtual 209, 3) := by decide +kernel
theorem d156_15 : decode (pm_code 156) 15 = .ok (.aload_n 0, 1) := by decide +kernel
theorem d156_16 : decode (pm_code 156) 16 = .ok (.iload 5, 2) := by decide +kernel
theorem d156_18 : decode (pm_code 156) 18 = .ok (.iconst 0, 1) := by decide +kernel
theorem d156_19 : decode (pm_code 156) 19 = .ok (.invokevirtual 199, 3) := by decide +kernel
theorem d156_22 : decode (pm_code 156) 22 = .ok (.istore 6, 2) := by decide +kernel
theorem d156_24 : decode (pm_code 156) 24 = .ok (.iconst 0, 1) := by decide +kernel
theorem d156_25 : decode (pm_code 156) 25 = .ok (.istore 7, 2) := by decide +kernel
theorem d156_27 : decode (pm_code 156) 27 = .ok (.iload 7, 2) := by decide +kernel
theorem d156_29 : decode (pm_code 156) 29 = .ok (.iload 6, 2) := by decide +kernel
theorem d156_31 : decode (pm_code 156) 31 = .ok (.if_icmp .ge 44, 3) := by decide +kernel
theorem d156_34 : decode (pm_code 156) 34 = .ok (.aload_n 0, 1) := by decide +kernel
theorem d156_35 : decode (pm_code 156) 35 = .ok (.iload 5, 2) := by decide +kernel
theorem d156_37 : decode (pm_code 156) 37 = .ok (.iload 7, 2) := by decide +kernel
theorem d156_39 : decode (pm_code 156) 39 = .ok (.invokevirtual 192, 3) := by decide +kernel
theorem d156_42 : decode (pm_code 156) 42 = .ok (.bipush 16, 2) := by decide +kernel
theorem d156_44 : decode (pm_code 156) 44 = .ok (.iload_n 3, 1) := by decide +kernel
theorem d156_45 : decode (pm_code 156) 45 = .ok (.iadd, 1) := by decide +kernel
theorem d156_46 : decode (pm_code 156) 46 = .ok (.if_icmp .lt 23, 3) := by decide +kernel
theorem d156_49 : decode (pm_code 156) 49 = .ok (.aload_n 0, 1) := by decide +kernel
theorem d156_50 : decode (pm_code 156) 50 = .ok (.getfield 63, 3) := by decide +kernel
theorem d156_53 : decode (pm_code 156) 53 = .ok (.bipush 17, 2) := by decide +kernel
theorem d156_55 : decode (pm_code 156) 55 = .ok (.iload 5, 2) := by decide +kernel
theorem d156_57 : decode (pm_code 156) 57 = .ok (.imul, 1) := by decide +kernel
theorem d156_58 : decode (pm_code 156) 58 = .ok (.iload 7, 2) := by decide +kernel
theorem d156_60 : decode (pm_code 156) 60 = .ok (.iadd, 1) := by decide +kernel
theorem d156_61 : decode (pm_code 156) 61 = .ok (.dup2, 1) := by decide +kernel
theorem d156_62 : decode (pm_code 156) 62 = .ok (.iaload, 1) := by decide +kernel
theorem d156_63 : decode (pm_code 156) 63 = .ok (.iload 4, 2) := by decide +kernel
theorem d156_65 : decode (pm_code 156) 65 = .ok (.iload_n 3, 1) := by decide +kernel
theorem d156_66 : decode (pm_code 156) 66 = .ok (.isub, 1) := by decide +kernel
theorem d156_67 : decode (pm_code 156) 67 = .ok (.iadd, 1) := by decide +kernel
theorem d156_68 : decode (pm_code 156) 68 = .ok (.iastore, 1) := by decide +kernel
theorem d156_69 : decode (pm_code 156) 69 = .ok (.iinc 7 1, 3) := by decide +kernel
theorem d156_72 : decode (pm_code 156) 72 = .ok (.goto (-45), 3) := by decide +kernel
theorem d156_75 : decode (pm_code 156) 75 = .ok (.iload 5, 2) := by decide +kernel
theorem d156_77 : decode (pm_code 156) 77 = .ok (.ireturn, 1) := by decide +kernel
theorem d157_0 : decode (pm_code 157) 0 = .ok (.aload_n 0, 1) := by decide +kernel
theorem d157_1 : decode (pm_code 157) 1 = .ok (.getfield 66, 3) := by decide +kernel
theorem d157_4 : decode (pm_code 157) 4 = .ok (.aload_n 0, 1) := by decide +kernel
theorem d157_5 : decode (pm_code 157) 5 = .ok (.getfield 212, 3) := by decide +kernel
theorem d157_8 : decode (pm_code 157) 8 = .ok (.iload_n 1, 1) := by decide +kernel
theorem d157_9 : decode (pm_code 157) 9 = .ok (.iastore, 1) := by decide +kernel
theorem d157_10 : decode (pm_code 157) 10 = .ok (.aload_n 0, 1) := by decide +kernel
theorem d157_11 : decode (pm_code 157) 11 = .ok (.getfield 69, 3) := by decide +kernel
theorem d157_14 : decode (pm_code 157) 14 = .ok (.aload_n 0, 1) := by decide +kernel
theorem d157_15 : decode (pm_code 157) 15 = .ok (.getfield 212, 3) := by decide +kernel
theorem d157_18 : decode (pm_code 157) 18 = .ok (.iload_n 2, 1) := by decide +kernel
theorem d157_19 : decode (pm_code 157) 19 = .ok (.iastore, 1) := by decide +kernel
theorem d157_20 : decode (pm_code 157) 20 = .ok (.aload_n 0, 1) := by decide +kernel
theorem d157_21 : decode (pm_code 157) 21 = .ok (.getfield 72, 3) := by decide +kernel
theorem d157_24 : decode (pm_code 157) 24 = .ok (.aload_n 0, 1) := by decide +kernel
theorem d157_25 : decode (pm_code 157) 25 = .ok (.getfield 212, 3) := by decide +kernel
theorem d157_28 : decode (pm_code 157) 28 = .ok (.iload_n 3, 1) := by decide +kernel
theorem d157_29 : decode (pm_code 157) 29 = .ok (.iastore, 1) := by decide +kernel
theorem d157_30 : decode (pm_code 157) 30 = .ok (.aload_n 0, 1) := by decide +kernel
theorem d157_31 : decode (pm_code 157) 31 = .ok (.dup, 1) := by decide +kernel
theorem d157_32 : decode (pm_code 157) 32 = .ok (.getfield 212, 3) := by decide +kernel
theorem d157_35 : decode (pm_code 157) 35 = .ok (.iconst 1, 1) := by decide +kernel
theorem d157_36 : decode (pm_code 157) 36 = .ok (.iadd, 1) := by decide +kernel
theorem d157_37 : decode (pm_code 157) 37 = .ok (.putfield 212, 3) := by decide +kernel
theorem d157_40 : decode (pm_code 157) 40 = .ok (.aload_n 0, 1) := by decide +kernel
theorem d157_41 : decode (pm_code 157) 41 = .ok (.getfield 212, 3) := by decide +kernel
theorem d157_44 : decode (pm_code 157) 44 = .ok (.iconst 1, 1) := by decide +kernel
theorem d157_45 : decode (pm_code 157) 45 = .ok (.isub, 1) := by decide +kernel
theorem d157_46 : decode (pm_code 157) 46 = .ok (.ireturn, 1) := by decide +kernel
theorem d158_0 : decode (pm_code 158) 0 = .ok (.iload_n 2, 1) := by decide +kernel
theorem d158_1 : decode (pm_code 158) 1 = .ok (.istore 4, 2) := by decide +kernel
theorem d158_3 : decode (pm_code 158) 3 = .ok (.aload_n 0, 1) := by decide +kernel
theorem d158_4 : decode (pm_code 158) 4 = .ok (.getfield 69, 3) := by decide +kernel
theorem d158_7 : decode (pm_code 158) 7 = .ok (.iload 4, 2) := by decide +kernel
theorem d158_9 : decode (pm_code 158) 9 = .ok (.iaload, 1) := by decide +kernel
theorem d158_10 : decode (pm_code 158) 10 = .ok (.iload_n 1, 1) := by decide +kernel
theorem d158_11 : decode (pm_code 158) 11 = .ok (.if_icmp .eq 15, 3) := by decide +kernel
theorem d158_14 : decode (pm_code 158) 14 = .ok (.aload_n 0, 1) := by decide +kernel
theorem d158_15 : decode (pm_code 158) 15 = .ok (.getfield 66, 3) := by decide +kernel
theorem d158_18 : decode (pm_code 158) 18 = .ok (.iload 4, 2) := by decide +kernel
theorem d158_20 : decode (pm_code 158) 20 = .ok (.iaload, 1) := by decide +kernel
theorem d158_21 : decode (pm_code 158) 21 = .ok (.istore 4, 2) := by decide +kernel
theorem d158_23 : decode (pm_code 158) 23 = .ok (.goto (-20), 3) := by decide +kernel
theorem d158_26 : decode (pm_code 158) 26 = .ok (.aload_n 0, 1) := by decide +kernel
theorem d158_27 : decode (pm_code 158) 27 = .ok (.aload_n 0, 1) := by decide +kernel
theorem d158_28 : decode (pm_code 158) 28 = .ok (.getfield 72, 3) := by decide +kernel
theorem d158_31 : decode (pm_code 158) 31 = .ok (.iload 4, 2) := by decide +kernel
theorem d158_33 : decode (pm_code 158) 33 = .ok (.iaload, 1) := by decide +kernel
theorem d158_34 : decode (pm_code 158) 34 = .ok (.iconst 0, 1) := by decide +kernel
theorem d158_35 : decode (pm_code 158) 35 = .ok (.iload_n 1, 1) := by decide +kernel
theorem d158_36 : decode (pm_code 158) 36 = .ok (.iload_n 3, 1) := by decide +kernel
theorem d158_37 : decode (pm_code 158) 37 = .ok (.invokevirtual 215, 3) := by decide +kernel
theorem d158_40 : decode (pm_code 158) 40 = .ok (.ireturn, 1) := by decide +kernel
theorem d159_0 : decode (pm_code 159) 0 = .ok (.iload_n 2, 1) := by decide +kernel
theorem d159_1 : decode (pm_code 159) 1 = .ok (.iconst 1, 1) := by decide +kernel
theorem d159_2 : decode (pm_code 159) 2 = .ok (.iadd, 1) := by decide +kernel
theorem d159_3 : decode (pm_code 159) 3 = .ok (.istore 4, 2) := by decide +kernel
theorem d159_5 : decode (pm_code 159) 5 = .ok (.iconst 0, 1) := by decide +kernel
theorem d159_6 : decode (pm_code 159) 6 = .ok (.istore 5, 2) := by decide +kernel
theorem d159_8 : decode (pm_code 159) 8 = .ok (.iload 5, 2) := by decide +kernel
theorem d159_10 : decode (pm_code 159) 10 = .ok (.iload_n 3, 1) := by decide +kernel
theorem d159_11 : decode (pm_code 159) 11 = .ok (.if_icmp .ge 36, 3) := by decide +kernel
theorem d159_14 : decode (pm_code 159) 14 = .ok (.aload_n 0, 1) := by decide +kernel
theorem d159_15 : decode (pm_code 159) 15 = .ok (.iload_n 1, 1) := by decide +kernel
theorem d159_16 : decode (pm_code 159) 16 = .ok (.iload_n 2, 1) := by decide +kernel
theorem d159_17 : decode (pm_code 159) 17 = .ok (.invokevirtual 192, 3) := by decide +kernel
theorem d159_20 : decode (pm_code 159) 20 = .ok (.bipush 8, 2) := by decide +kernel
theorem d159_22 : decode (pm_code 159) 22 = .ok (.isub, 1) := by decide +kernel
theorem d159_23 : decode (pm_code 159) 23 = .ok (.iload 5, 2) := by decide +kernel
theorem d159_25 : decode (pm_code 159) 25 = .ok (.ishr, 1) := by decide +kernel
theorem d159_26 : decode (pm_code 159) 26 = .ok (.iconst 1, 1) := by decide +kernel
theorem d159_27 : decode (pm_code 159) 27 = .ok (.iand, 1) := by decide +kernel
theorem d159_28 : decode (pm_code 159) 28 = .ok (.iconst 1, 1) := by decide +kernel
theorem d159_29 : decode (pm_code 159) 29 = .ok (.if_icmp .ne 12, 3) := by decide +kernel
theorem d159_32 : decode (pm_code 159) 32 = .ok (.aload_n 0, 1) := by decide +kernel
theorem d159_33 : decode (pm_code 159) 33 = .ok (.iload_n 1, 1) := by decide +kernel
theorem d159_34 : decode (pm_code 159) 34 = .ok (.iload 4, 2) := by decide +kernel
theorem d159_36 : decode (pm_code 159) 36 = .ok (.invokevirtual 199, 3) := by decide +kernel
theorem d159_39 : decode (pm_code 159) 39 = .ok (.istore 4, 2) := by decide +kernel
theorem d159_41 : decode (pm_code 159) 41 = .ok (.iinc 5 1, 3) := by decide +kernel
theorem d159_44 : decode (pm_code 159) 44 = .ok (.goto (-36), 3) := by decide +kernel
theorem d159_47 : decode (pm_code 159) 47 = .ok (.iload 4, 2) := by decide +kernel
theorem d159_49 : decode (pm_code 159) 49 = .ok (.ireturn, 1) := by decide +kernel
