/-! DECODE ROWS (by program) of methods 195 to 212. -/
theorem d195_0 : decode (pm_code 195) 0 = .ok (.aload_n 0, 1) := by decide +kernel
theorem d195_1 : decode (pm_code 195) 1 = .ok (.invokevirtual 347, 3) := by decide +kernel
theorem d195_4 : decode (pm_code 195) 4 = .ok (.aload_n 0, 1) := by decide +kernel
theorem d195_5 : decode (pm_code 195) 5 = .ok (.getfield 59, 3) := by decide +kernel
theorem d195_8 : decode (pm_code 195) 8 = .ok (.istore_n 1, 1) := by decide +kernel
theorem d195_9 : decode (pm_code 195) 9 = .ok (.aload_n 0, 1) := by decide +kernel
theorem d195_10 : decode (pm_code 195) 10 = .ok (.getfield 212, 3) := by decide +kernel
theorem d195_13 : decode (pm_code 195) 13 = .ok (.istore_n 2, 1) := by decide +kernel
theorem d195_14 : decode (pm_code 195) 14 = .ok (.iconst (-1), 1) := by decide +kernel
theorem d195_15 : decode (pm_code 195) 15 = .ok (.istore_n 3, 1) := by decide +kernel
theorem d195_16 : decode (pm_code 195) 16 = .ok (.aload_n 0, 1) := by decide +kernel
theorem d195_17 : decode (pm_code 195) 17 = .ok (.getfield 283, 3) := by decide +kernel
theorem d195_20 : decode (pm_code 195) 20 = .ok (.iconst 1, 1) := by decide +kernel
theorem d195_21 : decode (pm_code 195) 21 = .ok (.isub, 1) := by decide +kernel
theorem d195_22 : decode (pm_code 195) 22 = .ok (.istore 4, 2) := by decide +kernel
theorem d195_24 : decode (pm_code 195) 24 = .ok (.iload 4, 2) := by decide +kernel
theorem d195_26 : decode (pm_code 195) 26 = .ok (.ifCond .lt 155, 3) := by decide +kernel
theorem d195_29 : decode (pm_code 195) 29 = .ok (.aload_n 0, 1) := by decide +kernel
theorem d195_30 : decode (pm_code 195) 30 = .ok (.getfield 16, 3) := by decide +kernel
theorem d195_33 : decode (pm_code 195) 33 = .ok (.iload 4, 2) := by decide +kernel
theorem d195_35 : decode (pm_code 195) 35 = .ok (.iaload, 1) := by decide +kernel
theorem d195_36 : decode (pm_code 195) 36 = .ok (.iconst 5, 1) := by decide +kernel
theorem d195_37 : decode (pm_code 195) 37 = .ok (.if_icmp .lt 7, 3) := by decide +kernel
theorem d195_40 : decode (pm_code 195) 40 = .ok (.iconst 1, 1) := by decide +kernel
theorem d195_41 : decode (pm_code 195) 41 = .ok (.goto 4, 3) := by decide +kernel
theorem d195_44 : decode (pm_code 195) 44 = .ok (.iconst 0, 1) := by decide +kernel
theorem d195_45 : decode (pm_code 195) 45 = .ok (.istore 5, 2) := by decide +kernel
theorem d195_47 : decode (pm_code 195) 47 = .ok (.aload_n 0, 1) := by decide +kernel
theorem d195_48 : decode (pm_code 195) 48 = .ok (.iload 4, 2) := by decide +kernel
theorem d195_50 : decode (pm_code 195) 50 = .ok (.invokevirtual 189, 3) := by decide +kernel
theorem d195_53 : decode (pm_code 195) 53 = .ok (.istore 6, 2) := by decide +kernel
theorem d195_55 : decode (pm_code 195) 55 = .ok (.iload 4, 2) := by decide +kernel
theorem d195_57 : decode (pm_code 195) 57 = .ok (.iconst 1, 1) := by decide +kernel
theorem d195_58 : decode (pm_code 195) 58 = .ok (.iadd, 1) := by decide +kernel
theorem d195_59 : decode (pm_code 195) 59 = .ok (.istore 7, 2) := by decide +kernel
theorem d195_61 : decode (pm_code 195) 61 = .ok (.iload 7, 2) := by decide +kernel
theorem d195_63 : decode (pm_code 195) 63 = .ok (.iload 6, 2) := by decide +kernel
theorem d195_65 : decode (pm_code 195) 65 = .ok (.if_icmp .ge 47, 3) := by decide +kernel
theorem d195_68 : decode (pm_code 195) 68 = .ok (.iload 5, 2) := by decide +kernel
theorem d195_70 : decode (pm_code 195) 70 = .ok (.ifCond .eq 28, 3) := by decide +kernel
theorem d195_73 : decode (pm_code 195) 73 = .ok (.aload_n 0, 1) := by decide +kernel
theorem d195_74 : decode (pm_code 195) 74 = .ok (.getfield 16, 3) := by decide +kernel
theorem d195_77 : decode (pm_code 195) 77 = .ok (.iload 7, 2) := by decide +kernel
theorem d195_79 : decode (pm_code 195) 79 = .ok (.iaload, 1) := by decide +kernel
theorem d195_80 : decode (pm_code 195) 80 = .ok (.iconst 5, 1) := by decide +kernel
theorem d195_81 : decode (pm_code 195) 81 = .ok (.if_icmp .lt 13, 3) := by decide +kernel
theorem d195_84 : decode (pm_code 195) 84 = .ok (.aload_n 0, 1) := by decide +kernel
theorem d195_85 : decode (pm_code 195) 85 = .ok (.getfield 78, 3) := by decide +kernel
theorem d195_88 : decode (pm_code 195) 88 = .ok (.iload 7, 2) := by decide +kernel
theorem d195_90 : decode (pm_code 195) 90 = .ok (.baload, 1) := by decide +kernel
theorem d195_91 : decode (pm_code 195) 91 = .ok (.ifCond .eq 7, 3) := by decide +kernel
theorem d195_94 : decode (pm_code 195) 94 = .ok (.iconst 1, 1) := by decide +kernel
theorem d195_95 : decode (pm_code 195) 95 = .ok (.goto 4, 3) := by decide +kernel
theorem d195_98 : decode (pm_code 195) 98 = .ok (.iconst 0, 1) := by decide +kernel
theorem d195_99 : decode (pm_code 195) 99 = .ok (.istore 5, 2) := by decide +kernel
theorem d195_101 : decode (pm_code 195) 101 = .ok (.aload_n 0, 1) := by decide +kernel
theorem d195_102 : decode (pm_code 195) 102 = .ok (.iload 7, 2) := by decide +kernel
theorem d195_104 : decode (pm_code 195) 104 = .ok (.invokevirtual 189, 3) := by decide +kernel
theorem d195_107 : decode (pm_code 195) 107 = .ok (.istore 7, 2) := by decide +kernel
theorem d195_109 : decode (pm_code 195) 109 = .ok (.goto (-48), 3) := by decide +kernel
theorem d195_112 : decode (pm_code 195) 112 = .ok (.aload_n 0, 1) := by decide +kernel
theorem d195_113 : decode (pm_code 195) 113 = .ok (.getfield 78, 3) := by decide +kernel
theorem d195_116 : decode (pm_code 195) 116 = .ok (.iload 4, 2) := by decide +kernel
theorem d195_118 : decode (pm_code 195) 118 = .ok (.iload 5, 2) := by decide +kernel
theorem d195_120 : decode (pm_code 195) 120 = .ok (.ifCond .eq 16, 3) := by decide +kernel
theorem d195_123 : decode (pm_code 195) 123 = .ok (.aload_n 0, 1) := by decide +kernel
theorem d195_124 : decode (pm_code 195) 124 = .ok (.iload 4, 2) := by decide +kernel
theorem d195_126 : decode (pm_code 195) 126 = .ok (.invokevirtual 350, 3) := by decide +kernel
theorem d195_129 : decode (pm_code 195) 129 = .ok (.ifCond .eq 7, 3) := by decide +kernel
theorem d195_132 : decode (pm_code 195) 132 = .ok (.iconst 1, 1) := by decide +kernel
theorem d195_133 : decode (pm_code 195) 133 = .ok (.goto 4, 3) := by decide +kernel
theorem d195_136 : decode (pm_code 195) 136 = .ok (.iconst 0, 1) := by decide +kernel
theorem d195_137 : decode (pm_code 195) 137 = .ok (.bastore, 1) := by decide +kernel
theorem d195_138 : decode (pm_code 195) 138 = .ok (.aload_n 0, 1) := by decide +kernel
theorem d195_139 : decode (pm_code 195) 139 = .ok (.getfield 81, 3) := by decide +kernel
theorem d195_142 : decode (pm_code 195) 142 = .ok (.iload 4, 2) := by decide +kernel
theorem d195_144 : decode (pm_code 195) 144 = .ok (.iload 5, 2) := by decide +kernel
theorem d195_146 : decode (pm_code 195) 146 = .ok (.ifCond .eq 17, 3) := by decide +kernel
theorem d195_149 : decode (pm_code 195) 149 = .ok (.aload_n 0, 1) := by decide +kernel
theorem d195_150 : decode (pm_code 195) 150 = .ok (.getfield 78, 3) := by decide +kernel
theorem d195_153 : decode (pm_code 195) 153 = .ok (.iload 4, 2) := by decide +kernel
theorem d195_155 : decode (pm_code 195) 155 = .ok (.baload, 1) := by decide +kernel
theorem d195_156 : decode (pm_code 195) 156 = .ok (.ifCond .ne 7, 3) := by decide +kernel
theorem d195_159 : decode (pm_code 195) 159 = .ok (.iconst 1, 1) := by decide +kernel
theorem d195_160 : decode (pm_code 195) 160 = .ok (.goto 4, 3) := by decide +kernel
theorem d195_163 : decode (pm_code 195) 163 = .ok (.iconst 0, 1) := by decide +kernel
theorem d195_164 : decode (pm_code 195) 164 = .ok (.bastore, 1) := by decide +kernel
theorem d195_165 : decode (pm_code 195) 165 = .ok (.aload_n 0, 1) := by decide +kernel
theorem d195_166 : decode (pm_code 195) 166 = .ok (.iload_n 1, 1) := by decide +kernel
theorem d195_167 : decode (pm_code 195) 167 = .ok (.putfield 59, 3) := by decide +kernel
theorem d195_170 : decode (pm_code 195) 170 = .ok (.aload_n 0, 1) := by decide +kernel
theorem d195_171 : decode (pm_code 195) 171 = .ok (.iload_n 2, 1) := by decide +kernel
theorem d195_172 : decode (pm_code 195) 172 = .ok (.putfield 212, 3) := by decide +kernel
theorem d195_175 : decode (pm_code 195) 175 = .ok (.iinc 4 (-1), 3) := by decide +kernel
theorem d195_178 : decode (pm_code 195) 178 = .ok (.goto (-154), 3) := by decide +kernel
theorem d195_181 : decode (pm_code 195) 181 = .ok (.iconst 0, 1) := by decide +kernel
theorem d195_182 : decode (pm_code 195) 182 = .ok (.istore 4, 2) := by decide +kernel
theorem d195_184 : decode (pm_code 195) 184 = .ok (.iload 4, 2) := by decide +kernel
theorem d195_186 : decode (pm_code 195) 186 = .ok (.aload_n 0, 1) := by decide +kernel
theorem d195_187 : decode (pm_code 195) 187 = .ok (.getfield 283, 3) := by decide +kernel
theorem d195_190 : decode (pm_code 195) 190 = .ok (.if_icmp .ge 44, 3) := by decide +kernel
theorem d195_193 : decode (pm_code 195) 193 = .ok (.aload_n 0, 1) := by decide +kernel
theorem d195_194 : decode (pm_code 195) 194 = .ok (.getfield 81, 3) := by decide +kernel
theorem d195_197 : decode (pm_code 195) 197 = .ok (.iload 4, 2) := by decide +kernel
theorem d195_199 : decode (pm_code 195) 199 = .ok (.baload, 1) := by decide +kernel
theorem d195_200 : decode (pm_code 195) 200 = .ok (.ifCond .eq 26, 3) := by decide +kernel
theorem d195_203 : decode (pm_code 195) 203 = .ok (.iload_n 3, 1) := by decide +kernel
theorem d195_204 : decode (pm_code 195) 204 = .ok (.ifCond .lt 17, 3) := by decide +kernel
theorem d195_207 : decode (pm_code 195) 207 = .ok (.aload_n 0, 1) := by decide +kernel
theorem d195_208 : decode (pm_code 195) 208 = .ok (.iload 4, 2) := by decide +kernel
theorem d195_210 : decode (pm_code 195) 210 = .ok (.invokevirtual 189, 3) := by decide +kernel
theorem d195_213 : decode (pm_code 195) 213 = .ok (.aload_n 0, 1) := by decide +kernel
theorem d195_214 : decode (pm_code 195) 214 = .ok (.iload_n 3, 1) := by decide +kernel
theorem d195_215 : decode (pm_code 195) 215 = .ok (.invokevirtual 189, 3) := by decide +kernel
theorem d195_218 : decode (pm_code 195) 218 = .ok (.if_icmp .ge 8, 3) := by decide +kernel
theorem d195_221 : decode (pm_code 195) 221 = .ok (.iload 4, 2) := by decide +kernel
theorem d195_223 : decode (pm_code 195) 223 = .ok (.goto 4, 3) := by decide +kernel
theorem d195_226 : decode (pm_code 195) 226 = .ok (.iload_n 3, 1) := by decide +kernel
theorem d195_227 : decode (pm_code 195) 227 = .ok (.istore_n 3, 1) := by decide +kernel
theorem d195_228 : decode (pm_code 195) 228 = .ok (.iinc 4 1, 3) := by decide +kernel
theorem d195_231 : decode (pm_code 195) 231 = .ok (.goto (-47), 3) := by decide +kernel
theorem d195_234 : decode (pm_code 195) 234 = .ok (.iload_n 3, 1) := by decide +kernel
theorem d195_235 : decode (pm_code 195) 235 = .ok (.ifCond .ge 7, 3) := by decide +kernel
theorem d195_238 : decode (pm_code 195) 238 = .ok (.iconst (-1), 1) := by decide +kernel
theorem d195_239 : decode (pm_code 195) 239 = .ok (.goto 9, 3) := by decide +kernel
theorem d195_242 : decode (pm_code 195) 242 = .ok (.aload_n 0, 1) := by decide +kernel
theorem d195_243 : decode (pm_code 195) 243 = .ok (.getfield 22, 3) := by decide +kernel
theorem d195_246 : decode (pm_code 195) 246 = .ok (.iload_n 3, 1) := by decide +kernel
theorem d195_247 : decode (pm_code 195) 247 = .ok (.iaload, 1) := by decide +kernel
theorem d195_248 : decode (pm_code 195) 248 = .ok (.ireturn, 1) := by decide +kernel
theorem d196_0 : decode (pm_code 196) 0 = .ok (.aload_n 0, 1) := by decide +kernel
theorem d196_1 : decode (pm_code 196) 1 = .ok (.getfield 283, 3) := by decide +kernel
theorem d196_4 : decode (pm_code 196) 4 = .ok (.ifCond .eq 11, 3) := by decide +kernel
theorem d196_7 : decode (pm_code 196) 7 = .ok (.aload_n 0, 1) := by decide +kernel
theorem d196_8 : decode (pm_code 196) 8 = .ok (.iload_n 1, 1) := by decide +kernel
theorem d196_9 : decode (pm_code 196) 9 = .ok (.invokevirtual 269, 3) := by decide +kernel
theorem d196_12 : decode (pm_code 196) 12 = .ok (.ifCond .ne 6, 3) := by decide +kernel
theorem d196_15 : decode (pm_code 196) 15 = .ok (.bipush (-2), 2) := by decide +kernel
theorem d196_17 : decode (pm_code 196) 17 = .ok (.ireturn, 1) := by decide +kernel
theorem d196_18 : decode (pm_code 196) 18 = .ok (.aload_n 0, 1) := by decide +kernel
theorem d196_19 : decode (pm_code 196) 19 = .ok (.invokevirtual 353, 3) := by decide +kernel
theorem d196_22 : decode (pm_code 196) 22 = .ok (.istore_n 2, 1) := by decide +kernel
theorem d196_23 : decode (pm_code 196) 23 = .ok (.iload_n 2, 1) := by decide +kernel
theorem d196_24 : decode (pm_code 196) 24 = .ok (.ifCond .lt 5, 3) := by decide +kernel
theorem d196_27 : decode (pm_code 196) 27 = .ok (.iload_n 2, 1) := by decide +kernel
theorem d196_28 : decode (pm_code 196) 28 = .ok (.ireturn, 1) := by decide +kernel
theorem d196_29 : decode (pm_code 196) 29 = .ok (.aload_n 0, 1) := by decide +kernel
theorem d196_30 : decode (pm_code 196) 30 = .ok (.iconst 4, 1) := by decide +kernel
theorem d196_31 : decode (pm_code 196) 31 = .ok (.iconst 0, 1) := by decide +kernel
theorem d196_32 : decode (pm_code 196) 32 = .ok (.iload_n 1, 1) := by decide +kernel
theorem d196_33 : decode (pm_code 196) 33 = .ok (.iconst 0, 1) := by decide +kernel
theorem d196_34 : decode (pm_code 196) 34 = .ok (.invokevirtual 209, 3) := by decide +kernel
theorem d196_37 : decode (pm_code 196) 37 = .ok (.aload_n 0, 1) := by decide +kernel
theorem d196_38 : decode (pm_code 196) 38 = .ok (.getfield 55, 3) := by decide +kernel
theorem d196_41 : decode (pm_code 196) 41 = .ok (.iload_n 1, 1) := by decide +kernel
theorem d196_42 : decode (pm_code 196) 42 = .ok (.iconst 1, 1) := by decide +kernel
theorem d196_43 : decode (pm_code 196) 43 = .ok (.bastore, 1) := by decide +kernel
theorem d196_44 : decode (pm_code 196) 44 = .ok (.iconst (-1), 1) := by decide +kernel
theorem d196_45 : decode (pm_code 196) 45 = .ok (.ireturn, 1) := by decide +kernel
theorem d197_0 : decode (pm_code 197) 0 = .ok (.aload_n 0, 1) := by decide +kernel
theorem d197_1 : decode (pm_code 197) 1 = .ok (.getfield 283, 3) := by decide +kernel
theorem d197_4 : decode (pm_code 197) 4 = .ok (.ifCond .le 35, 3) := by decide +kernel
theorem d197_7 : decode (pm_code 197) 7 = .ok (.aload_n 0, 1) := by decide +kernel
theorem d197_8 : decode (pm_code 197) 8 = .ok (.iload_n 1, 1) := by decide +kernel
theorem d197_9 : decode (pm_code 197) 9 = .ok (.invokevirtual 296, 3) := by decide +kernel
theorem d197_12 : decode (pm_code 197) 12 = .ok (.ifCond .eq 27, 3) := by decide +kernel
theorem d197_15 : decode (pm_code 197) 15 = .ok (.aload_n 0, 1) := by decide +kernel
theorem d197_16 : decode (pm_code 197) 16 = .ok (.invokevirtual 353, 3) := by decide +kernel
theorem d197_19 : decode (pm_code 197) 19 = .ok (.ifCond .ge 20, 3) := by decide +kernel
theorem d197_22 : decode (pm_code 197) 22 = .ok (.aload_n 0, 1) := by decide +kernel
theorem d197_23 : decode (pm_code 197) 23 = .ok (.iconst 4, 1) := by decide +kernel
theorem d197_24 : decode (pm_code 197) 24 = .ok (.iconst 0, 1) := by decide +kernel
theorem d197_25 : decode (pm_code 197) 25 = .ok (.iload_n 1, 1) := by decide +kernel
theorem d197_26 : decode (pm_code 197) 26 = .ok (.iconst 0, 1) := by decide +kernel
theorem d197_27 : decode (pm_code 197) 27 = .ok (.iconst (-1), 1) := by decide +kernel
theorem d197_28 : decode (pm_code 197) 28 = .ok (.iconst 0, 1) := by decide +kernel
theorem d197_29 : decode (pm_code 197) 29 = .ok (.invokevirtual 244, 3) := by decide +kernel
theorem d197_32 : decode (pm_code 197) 32 = .ok (.ifCond .eq 7, 3) := by decide +kernel
theorem d197_35 : decode (pm_code 197) 35 = .ok (.iconst 1, 1) := by decide +kernel
theorem d197_36 : decode (pm_code 197) 36 = .ok (.goto 4, 3) := by decide +kernel
theorem d197_39 : decode (pm_code 197) 39 = .ok (.iconst 0, 1) := by decide +kernel
theorem d197_40 : decode (pm_code 197) 40 = .ok (.ireturn, 1) := by decide +kernel
theorem d198_0 : decode (pm_code 198) 0 = .ok (.aload_n 0, 1) := by decide +kernel
theorem d198_1 : decode (pm_code 198) 1 = .ok (.getfield 283, 3) := by decide +kernel
theorem d198_4 : decode (pm_code 198) 4 = .ok (.ifCond .eq 10, 3) := by decide +kernel
theorem d198_7 : decode (pm_code 198) 7 = .ok (.aload_n 0, 1) := by decide +kernel
theorem d198_8 : decode (pm_code 198) 8 = .ok (.invokevirtual 353, 3) := by decide +kernel
theorem d198_11 : decode (pm_code 198) 11 = .ok (.ifCond .lt 5, 3) := by decide +kernel
theorem d198_14 : decode (pm_code 198) 14 = .ok (.iconst 0, 1) := by decide +kernel
theorem d198_15 : decode (pm_code 198) 15 = .ok (.ireturn, 1) := by decide +kernel
theorem d198_16 : decode (pm_code 198) 16 = .ok (.aload_n 0, 1) := by decide +kernel
theorem d198_17 : decode (pm_code 198) 17 = .ok (.iconst 1, 1) := by decide +kernel
theorem d198_18 : decode (pm_code 198) 18 = .ok (.putfield 292, 3) := by decide +kernel
theorem d198_21 : decode (pm_code 198) 21 = .ok (.aload_n 0, 1) := by decide +kernel
theorem d198_22 : decode (pm_code 198) 22 = .ok (.iconst 0, 1) := by decide +kernel
theorem d198_23 : decode (pm_code 198) 23 = .ok (.putfield 356, 3) := by decide +kernel
theorem d198_26 : decode (pm_code 198) 26 = .ok (.aload_n 0, 1) := by decide +kernel
theorem d198_27 : decode (pm_code 198) 27 = .ok (.iconst 0, 1) := by decide +kernel
theorem d198_28 : decode (pm_code 198) 28 = .ok (.putfield 359, 3) := by decide +kernel
theorem d198_31 : decode (pm_code 198) 31 = .ok (.aload_n 0, 1) := by decide +kernel
theorem d198_32 : decode (pm_code 198) 32 = .ok (.iconst 0, 1) := by decide +kernel
theorem d198_33 : decode (pm_code 198) 33 = .ok (.putfield 362, 3) := by decide +kernel
theorem d198_36 : decode (pm_code 198) 36 = .ok (.aload_n 0, 1) := by decide +kernel
theorem d198_37 : decode (pm_code 198) 37 = .ok (.iconst 0, 1) := by decide +kernel
theorem d198_38 : decode (pm_code 198) 38 = .ok (.putfield 365, 3) := by decide +kernel
theorem d198_41 : decode (pm_code 198) 41 = .ok (.aload_n 0, 1) := by decide +kernel
theorem d198_42 : decode (pm_code 198) 42 = .ok (.iconst 0, 1) := by decide +kernel
theorem d198_43 : decode (pm_code 198) 43 = .ok (.putfield 368, 3) := by decide +kernel
theorem d198_46 : decode (pm_code 198) 46 = .ok (.aload_n 0, 1) := by decide +kernel
theorem d198_47 : decode (pm_code 198) 47 = .ok (.iconst 0, 1) := by decide +kernel
theorem d198_48 : decode (pm_code 198) 48 = .ok (.iconst (-1), 1) := by decide +kernel
theorem d198_49 : decode (pm_code 198) 49 = .ok (.invokevirtual 371, 3) := by decide +kernel
theorem d198_52 : decode (pm_code 198) 52 = .ok (.aload_n 0, 1) := by decide +kernel
theorem d198_53 : decode (pm_code 198) 53 = .ok (.iconst 0, 1) := by decide +kernel
theorem d198_54 : decode (pm_code 198) 54 = .ok (.invokevirtual 374, 3) := by decide +kernel
theorem d198_57 : decode (pm_code 198) 57 = .ok (.pop, 1) := by decide +kernel
theorem d198_58 : decode (pm_code 198) 58 = .ok (.iconst 1, 1) := by decide +kernel
theorem d198_59 : decode (pm_code 198) 59 = .ok (.ireturn, 1) := by decide +kernel
theorem d199_0 : decode (pm_code 199) 0 = .ok (.aload_n 0, 1) := by decide +kernel
theorem d199_1 : decode (pm_code 199) 1 = .ok (.iload_n 1, 1) := by decide +kernel
theorem d199_2 : decode (pm_code 199) 2 = .ok (.putfield 377, 3) := by decide +kernel
theorem d199_5 : decode (pm_code 199) 5 = .ok (.aload_n 0, 1) := by decide +kernel
theorem d199_6 : decode (pm_code 199) 6 = .ok (.iload_n 2, 1) := by decide +kernel
theorem d199_7 : decode (pm_code 199) 7 = .ok (.putfield 380, 3) := by decide +kernel
theorem d199_10 : decode (pm_code 199) 10 = .ok (.aload_n 0, 1) := by decide +kernel
theorem d199_11 : decode (pm_code 199) 11 = .ok (.iconst 0, 1) := by decide +kernel
theorem d199_12 : decode (pm_code 199) 12 = .ok (.putfield 383, 3) := by decide +kernel
theorem d199_15 : decode (pm_code 199) 15 = .ok (.return_, 1) := by decide +kernel
theorem d200_0 : decode (pm_code 200) 0 = .ok (.aload_n 0, 1) := by decide +kernel
theorem d200_1 : decode (pm_code 200) 1 = .ok (.iload_n 1, 1) := by decide +kernel
theorem d200_2 : decode (pm_code 200) 2 = .ok (.putfield 386, 3) := by decide +kernel
theorem d200_5 : decode (pm_code 200) 5 = .ok (.aload_n 0, 1) := by decide +kernel
theorem d200_6 : decode (pm_code 200) 6 = .ok (.iconst 1, 1) := by decide +kernel
theorem d200_7 : decode (pm_code 200) 7 = .ok (.putfield 383, 3) := by decide +kernel
theorem d200_10 : decode (pm_code 200) 10 = .ok (.return_, 1) := by decide +kernel
theorem d201_0 : decode (pm_code 201) 0 = .ok (.aload_n 0, 1) := by decide +kernel
theorem d201_1 : decode (pm_code 201) 1 = .ok (.getfield 114, 3) := by decide +kernel
theorem d201_4 : decode (pm_code 201) 4 = .ok (.aload_n 0, 1) := by decide +kernel
theorem d201_5 : decode (pm_code 201) 5 = .ok (.getfield 365, 3) := by decide +kernel
theorem d201_8 : decode (pm_code 201) 8 = .ok (.iload_n 1, 1) := by decide +kernel
theorem d201_9 : decode (pm_code 201) 9 = .ok (.iastore, 1) := by decide +kernel
theorem d201_10 : decode (pm_code 201) 10 = .ok (.aload_n 0, 1) := by decide +kernel
theorem d201_11 : decode (pm_code 201) 11 = .ok (.getfield 117, 3) := by decide +kernel
theorem d201_14 : decode (pm_code 201) 14 = .ok (.aload_n 0, 1) := by decide +kernel
theorem d201_15 : decode (pm_code 201) 15 = .ok (.getfield 365, 3) := by decide +kernel
theorem d201_18 : decode (pm_code 201) 18 = .ok (.iload_n 2, 1) := by decide +kernel
theorem d201_19 : decode (pm_code 201) 19 = .ok (.iastore, 1) := by decide +kernel
theorem d201_20 : decode (pm_code 201) 20 = .ok (.aload_n 0, 1) := by decide +kernel
theorem d201_21 : decode (pm_code 201) 21 = .ok (.getfield 120, 3) := by decide +kernel
theorem d201_24 : decode (pm_code 201) 24 = .ok (.aload_n 0, 1) := by decide +kernel
theorem d201_25 : decode (pm_code 201) 25 = .ok (.getfield 365, 3) := by decide +kernel
theorem d201_28 : decode (pm_code 201) 28 = .ok (.iload_n 3, 1) := by decide +kernel
theorem d201_29 : decode (pm_code 201) 29 = .ok (.iastore, 1) := by decide +kernel
theorem d201_30 : decode (pm_code 201) 30 = .ok (.aload_n 0, 1) := by decide +kernel
theorem d201_31 : decode (pm_code 201) 31 = .ok (.dup, 1) := by decide +kernel
theorem d201_32 : decode (pm_code 201) 32 = .ok (.getfield 365, 3) := by decide +kernel
theorem d201_35 : decode (pm_code 201) 35 = .ok (.iconst 1, 1) := by decide +kernel
theorem d201_36 : decode (pm_code 201) 36 = .ok (.iadd, 1) := by decide +kernel
theorem d201_37 : decode (pm_code 201) 37 = .ok (.putfield 365, 3) := by decide +kernel
theorem d201_40 : decode (pm_code 201) 40 = .ok (.aload_n 0, 1) := by decide +kernel
theorem d201_41 : decode (pm_code 201) 41 = .ok (.getfield 365, 3) := by decide +kernel
theorem d201_44 : decode (pm_code 201) 44 = .ok (.iconst 1, 1) := by decide +kernel
theorem d201_45 : decode (pm_code 201) 45 = .ok (.isub, 1) := by decide +kernel
theorem d201_46 : decode (pm_code 201) 46 = .ok (.ireturn, 1) := by decide +kernel
theorem d202_0 : decode (pm_code 202) 0 = .ok (.aload_n 0, 1) := by decide +kernel
theorem d202_1 : decode (pm_code 202) 1 = .ok (.getfield 126, 3) := by decide +kernel
theorem d202_4 : decode (pm_code 202) 4 = .ok (.aload_n 0, 1) := by decide +kernel
theorem d202_5 : decode (pm_code 202) 5 = .ok (.getfield 368, 3) := by decide +kernel
theorem d202_8 : decode (pm_code 202) 8 = .ok (.iload_n 1, 1) := by decide +kernel
theorem d202_9 : decode (pm_code 202) 9 = .ok (.iastore, 1) := by decide +kernel
theorem d202_10 : decode (pm_code 202) 10 = .ok (.aload_n 0, 1) := by decide +kernel
theorem d202_11 : decode (pm_code 202) 11 = .ok (.getfield 129, 3) := by decide +kernel
theorem d202_14 : decode (pm_code 202) 14 = .ok (.aload_n 0, 1) := by decide +kernel
theorem d202_15 : decode (pm_code 202) 15 = .ok (.getfield 368, 3) := by decide +kernel
theorem d202_18 : decode (pm_code 202) 18 = .ok (.iload_n 2, 1) := by decide +kernel
theorem d202_19 : decode (pm_code 202) 19 = .ok (.iastore, 1) := by decide +kernel
theorem d202_20 : decode (pm_code 202) 20 = .ok (.aload_n 0, 1) := by decide +kernel
theorem d202_21 : decode (pm_code 202) 21 = .ok (.getfield 132, 3) := by decide +kernel
theorem d202_24 : decode (pm_code 202) 24 = .ok (.aload_n 0, 1) := by decide +kernel
theorem d202_25 : decode (pm_code 202) 25 = .ok (.getfield 368, 3) := by decide +kernel
theorem d202_28 : decode (pm_code 202) 28 = .ok (.aload_n 0, 1) := by decide +kernel
theorem d202_29 : decode (pm_code 202) 29 = .ok (.getfield 380, 3) := by decide +kernel
theorem d202_32 : decode (pm_code 202) 32 = .ok (.iastore, 1) := by decide +kernel
theorem d202_33 : decode (pm_code 202) 33 = .ok (.aload_n 0, 1) := by decide +kernel
theorem d202_34 : decode (pm_code 202) 34 = .ok (.getfield 135, 3) := by decide +kernel
theorem d202_37 : decode (pm_code 202) 37 = .ok (.aload_n 0, 1) := by decide +kernel
theorem d202_38 : decode (pm_code 202) 38 = .ok (.getfield 368, 3) := by decide +kernel
theorem d202_41 : decode (pm_code 202) 41 = .ok (.iload_n 3, 1) := by decide +kernel
theorem d202_42 : decode (pm_code 202) 42 = .ok (.iastore, 1) := by decide +kernel
theorem d202_43 : decode (pm_code 202) 43 = .ok (.aload_n 0, 1) := by decide +kernel
theorem d202_44 : decode (pm_code 202) 44 = .ok (.dup, 1) := by decide +kernel
theorem d202_45 : decode (pm_code 202) 45 = .ok (.getfield 368, 3) := by decide +kernel
theorem d202_48 : decode (pm_code 202) 48 = .ok (.iconst 1, 1) := by decide +kernel
theorem d202_49 : decode (pm_code 202) 49 = .ok (.iadd, 1) := by decide +kernel
theorem d202_50 : decode (pm_code 202) 50 = .ok (.putfield 368, 3) := by decide +kernel
theorem d202_53 : decode (pm_code 202) 53 = .ok (.aload_n 0, 1) := by decide +kernel
theorem d202_54 : decode (pm_code 202) 54 = .ok (.iload 4, 2) := by decide +kernel
theorem d202_56 : decode (pm_code 202) 56 = .ok (.aload_n 0, 1) := by decide +kernel
theorem d202_57 : decode (pm_code 202) 57 = .ok (.getfield 380, 3) := by decide +kernel
theorem d202_60 : decode (pm_code 202) 60 = .ok (.invokevirtual 371, 3) := by decide +kernel
theorem d202_63 : decode (pm_code 202) 63 = .ok (.return_, 1) := by decide +kernel
theorem d203_0 : decode (pm_code 203) 0 = .ok (.aload_n 0, 1) := by decide +kernel
theorem d203_1 : decode (pm_code 203) 1 = .ok (.getfield 16, 3) := by decide +kernel
theorem d203_4 : decode (pm_code 203) 4 = .ok (.aload_n 0, 1) := by decide +kernel
theorem d203_5 : decode (pm_code 203) 5 = .ok (.getfield 377, 3) := by decide +kernel
theorem d203_8 : decode (pm_code 203) 8 = .ok (.iaload, 1) := by decide +kernel
theorem d203_9 : decode (pm_code 203) 9 = .ok (.istore_n 2, 1) := by decide +kernel
theorem d203_10 : decode (pm_code 203) 10 = .ok (.iload_n 2, 1) := by decide +kernel
theorem d203_11 : decode (pm_code 203) 11 = .ok (.bipush 12, 2) := by decide +kernel
theorem d203_13 : decode (pm_code 203) 13 = .ok (.if_icmp .ne 56, 3) := by decide +kernel
theorem d203_16 : decode (pm_code 203) 16 = .ok (.iload_n 1, 1) := by decide +kernel
theorem d203_17 : decode (pm_code 203) 17 = .ok (.ifCond .eq 42, 3) := by decide +kernel
theorem d203_20 : decode (pm_code 203) 20 = .ok (.aload_n 0, 1) := by decide +kernel
theorem d203_21 : decode (pm_code 203) 21 = .ok (.aload_n 0, 1) := by decide +kernel
theorem d203_22 : decode (pm_code 203) 22 = .ok (.getfield 19, 3) := by decide +kernel
theorem d203_25 : decode (pm_code 203) 25 = .ok (.aload_n 0, 1) := by decide +kernel
theorem d203_26 : decode (pm_code 203) 26 = .ok (.getfield 377, 3) := by decide +kernel
theorem d203_29 : decode (pm_code 203) 29 = .ok (.iaload, 1) := by decide +kernel
theorem d203_30 : decode (pm_code 203) 30 = .ok (.ifCond .ne 12, 3) := by decide +kernel
theorem d203_33 : decode (pm_code 203) 33 = .ok (.aload_n 0, 1) := by decide +kernel
theorem d203_34 : decode (pm_code 203) 34 = .ok (.getfield 377, 3) := by decide +kernel
theorem d203_37 : decode (pm_code 203) 37 = .ok (.iconst 1, 1) := by decide +kernel
theorem d203_38 : decode (pm_code 203) 38 = .ok (.iadd, 1) := by decide +kernel
theorem d203_39 : decode (pm_code 203) 39 = .ok (.goto 13, 3) := by decide +kernel
theorem d203_42 : decode (pm_code 203) 42 = .ok (.aload_n 0, 1) := by decide +kernel
theorem d203_43 : decode (pm_code 203) 43 = .ok (.aload_n 0, 1) := by decide +kernel
theorem d203_44 : decode (pm_code 203) 44 = .ok (.getfield 377, 3) := by decide +kernel
theorem d203_47 : decode (pm_code 203) 47 = .ok (.iconst 1, 1) := by decide +kernel
theorem d203_48 : decode (pm_code 203) 48 = .ok (.iadd, 1) := by decide +kernel
theorem d203_49 : decode (pm_code 203) 49 = .ok (.invokevirtual 189, 3) := by decide +kernel
theorem d203_52 : decode (pm_code 203) 52 = .ok (.aload_n 0, 1) := by decide +kernel
theorem d203_53 : decode (pm_code 203) 53 = .ok (.getfield 380, 3) := by decide +kernel
theorem d203_56 : decode (pm_code 203) 56 = .ok (.invokevirtual 371, 3) := by decide +kernel
theorem d203_59 : decode (pm_code 203) 59 = .ok (.iload_n 1, 1) := by decide +kernel
theorem d203_60 : decode (pm_code 203) 60 = .ok (.ifCond .eq 7, 3) := by decide +kernel
theorem d203_63 : decode (pm_code 203) 63 = .ok (.iconst 2, 1) := by decide +kernel
theorem d203_64 : decode (pm_code 203) 64 = .ok (.goto 4, 3) := by decide +kernel
theorem d203_67 : decode (pm_code 203) 67 = .ok (.iconst 0, 1) := by decide +kernel
theorem d203_68 : decode (pm_code 203) 68 = .ok (.ireturn, 1) := by decide +kernel
theorem d203_69 : decode (pm_code 203) 69 = .ok (.iload_n 2, 1) := by decide +kernel
theorem d203_70 : decode (pm_code 203) 70 = .ok (.iconst 5, 1) := by decide +kernel
theorem d203_71 : decode (pm_code 203) 71 = .ok (.if_icmp .ne 70, 3) := by decide +kernel
theorem d203_74 : decode (pm_code 203) 74 = .ok (.aload_n 0, 1) := by decide +kernel
theorem d203_75 : decode (pm_code 203) 75 = .ok (.aload_n 0, 1) := by decide +kernel
theorem d203_76 : decode (pm_code 203) 76 = .ok (.getfield 25, 3) := by decide +kernel
theorem d203_79 : decode (pm_code 203) 79 = .ok (.aload_n 0, 1) := by decide +kernel
theorem d203_80 : decode (pm_code 203) 80 = .ok (.getfield 377, 3) := by decide +kernel
theorem d203_83 : decode (pm_code 203) 83 = .ok (.iaload, 1) := by decide +kernel
theorem d203_84 : decode (pm_code 203) 84 = .ok (.iconst 1, 1) := by decide +kernel
theorem d203_85 : decode (pm_code 203) 85 = .ok (.aload_n 0, 1) := by decide +kernel
theorem d203_86 : decode (pm_code 203) 86 = .ok (.getfield 19, 3) := by decide +kernel
theorem d203_89 : decode (pm_code 203) 89 = .ok (.aload_n 0, 1) := by decide +kernel
theorem d203_90 : decode (pm_code 203) 90 = .ok (.getfield 377, 3) := by decide +kernel
theorem d203_93 : decode (pm_code 203) 93 = .ok (.iaload, 1) := by decide +kernel
theorem d203_94 : decode (pm_code 203) 94 = .ok (.invokevirtual 186, 3) := by decide +kernel
theorem d203_97 : decode (pm_code 203) 97 = .ok (.istore_n 3, 1) := by decide +kernel
theorem d203_98 : decode (pm_code 203) 98 = .ok (.aload_n 0, 1) := by decide +kernel
theorem d203_99 : decode (pm_code 203) 99 = .ok (.getfield 380, 3) := by decide +kernel
theorem d203_102 : decode (pm_code 203) 102 = .ok (.istore 4, 2) := by decide +kernel
theorem d203_104 : decode (pm_code 203) 104 = .ok (.aload_n 0, 1) := by decide +kernel
theorem d203_105 : decode (pm_code 203) 105 = .ok (.getfield 105, 3) := by decide +kernel
theorem d203_108 : decode (pm_code 203) 108 = .ok (.iload 4, 2) := by decide +kernel
theorem d203_110 : decode (pm_code 203) 110 = .ok (.iaload, 1) := by decide +kernel
theorem d203_111 : decode (pm_code 203) 111 = .ok (.iload_n 3, 1) := by decide +kernel
theorem d203_112 : decode (pm_code 203) 112 = .ok (.if_icmp .eq 15, 3) := by decide +kernel
theorem d203_115 : decode (pm_code 203) 115 = .ok (.aload_n 0, 1) := by decide +kernel
theorem d203_116 : decode (pm_code 203) 116 = .ok (.getfield 111, 3) := by decide +kernel
theorem d203_119 : decode (pm_code 203) 119 = .ok (.iload 4, 2) := by decide +kernel
theorem d203_121 : decode (pm_code 203) 121 = .ok (.iaload, 1) := by decide +kernel
theorem d203_122 : decode (pm_code 203) 122 = .ok (.istore 4, 2) := by decide +kernel
theorem d203_124 : decode (pm_code 203) 124 = .ok (.goto (-20), 3) := by decide +kernel
theorem d203_127 : decode (pm_code 203) 127 = .ok (.aload_n 0, 1) := by decide +kernel
theorem d203_128 : decode (pm_code 203) 128 = .ok (.aload_n 0, 1) := by decide +kernel
theorem d203_129 : decode (pm_code 203) 129 = .ok (.getfield 108, 3) := by decide +kernel
theorem d203_132 : decode (pm_code 203) 132 = .ok (.iload 4, 2) := by decide +kernel
theorem d203_134 : decode (pm_code 203) 134 = .ok (.iaload, 1) := by decide +kernel
theorem d203_135 : decode (pm_code 203) 135 = .ok (.invokevirtual 389, 3) := by decide +kernel
theorem d203_138 : decode (pm_code 203) 138 = .ok (.goto 120, 3) := by decide +kernel
theorem d203_141 : decode (pm_code 203) 141 = .ok (.iload_n 2, 1) := by decide +kernel
theorem d203_142 : decode (pm_code 203) 142 = .ok (.bipush 6, 2) := by decide +kernel
theorem d203_144 : decode (pm_code 203) 144 = .ok (.if_icmp .eq 9, 3) := by decide +kernel
theorem d203_147 : decode (pm_code 203) 147 = .ok (.iload_n 2, 1) := by decide +kernel
theorem d203_148 : decode (pm_code 203) 148 = .ok (.bipush 8, 2) := by decide +kernel
theorem d203_150 : decode (pm_code 203) 150 = .ok (.if_icmp .ne 23, 3) := by decide +kernel
theorem d203_153 : decode (pm_code 203) 153 = .ok (.aload_n 0, 1) := by decide +kernel
theorem d203_154 : decode (pm_code 203) 154 = .ok (.aload_n 0, 1) := by decide +kernel
theorem d203_155 : decode (pm_code 203) 155 = .ok (.iload_n 2, 1) := by decide +kernel
theorem d203_156 : decode (pm_code 203) 156 = .ok (.aload_n 0, 1) := by decide +kernel
theorem d203_157 : decode (pm_code 203) 157 = .ok (.getfield 377, 3) := by decide +kernel
theorem d203_160 : decode (pm_code 203) 160 = .ok (.aload_n 0, 1) := by decide +kernel
theorem d203_161 : decode (pm_code 203) 161 = .ok (.getfield 380, 3) := by decide +kernel
theorem d203_164 : decode (pm_code 203) 164 = .ok (.invokevirtual 392, 3) := by decide +kernel
theorem d203_167 : decode (pm_code 203) 167 = .ok (.invokevirtual 389, 3) := by decide +kernel
theorem d203_170 : decode (pm_code 203) 170 = .ok (.goto 88, 3) := by decide +kernel
theorem d203_173 : decode (pm_code 203) 173 = .ok (.iload_n 2, 1) := by decide +kernel
theorem d203_174 : decode (pm_code 203) 174 = .ok (.bipush 10, 2) := by decide +kernel
theorem d203_176 : decode (pm_code 203) 176 = .ok (.if_icmp .ne 32, 3) := by decide +kernel
theorem d203_179 : decode (pm_code 203) 179 = .ok (.aload_n 0, 1) := by decide +kernel
theorem d203_180 : decode (pm_code 203) 180 = .ok (.getfield 19, 3) := by decide +kernel
theorem d203_183 : decode (pm_code 203) 183 = .ok (.aload_n 0, 1) := by decide +kernel
theorem d203_184 : decode (pm_code 203) 184 = .ok (.getfield 377, 3) := by decide +kernel
theorem d203_187 : decode (pm_code 203) 187 = .ok (.iaload, 1) := by decide +kernel
theorem d203_188 : decode (pm_code 203) 188 = .ok (.ifCond .ne 20, 3) := by decide +kernel
theorem d203_191 : decode (pm_code 203) 191 = .ok (.aload_n 0, 1) := by decide +kernel
theorem d203_192 : decode (pm_code 203) 192 = .ok (.aload_n 0, 1) := by decide +kernel
theorem d203_193 : decode (pm_code 203) 193 = .ok (.iload_n 2, 1) := by decide +kernel
theorem d203_194 : decode (pm_code 203) 194 = .ok (.aload_n 0, 1) := by decide +kernel
theorem d203_195 : decode (pm_code 203) 195 = .ok (.getfield 377, 3) := by decide +kernel
theorem d203_198 : decode (pm_code 203) 198 = .ok (.iconst (-1), 1) := by decide +kernel
theorem d203_199 : decode (pm_code 203) 199 = .ok (.invokevirtual 392, 3) := by decide +kernel
theorem d203_202 : decode (pm_code 203) 202 = .ok (.invokevirtual 389, 3) := by decide +kernel
theorem d203_205 : decode (pm_code 203) 205 = .ok (.goto 53, 3) := by decide +kernel
theorem d203_208 : decode (pm_code 203) 208 = .ok (.aload_n 0, 1) := by decide +kernel
theorem d203_209 : decode (pm_code 203) 209 = .ok (.iload_n 2, 1) := by decide +kernel
theorem d203_210 : decode (pm_code 203) 210 = .ok (.iload_n 2, 1) := by decide +kernel
theorem d203_211 : decode (pm_code 203) 211 = .ok (.bipush 10, 2) := by decide +kernel
theorem d203_213 : decode (pm_code 203) 213 = .ok (.if_icmp .ne 12, 3) := by decide +kernel
theorem d203_216 : decode (pm_code 203) 216 = .ok (.aload_n 0, 1) := by decide +kernel
theorem d203_217 : decode (pm_code 203) 217 = .ok (.getfield 377, 3) := by decide +kernel
theorem d203_220 : decode (pm_code 203) 220 = .ok (.iconst 1, 1) := by decide +kernel
theorem d203_221 : decode (pm_code 203) 221 = .ok (.iadd, 1) := by decide +kernel
theorem d203_222 : decode (pm_code 203) 222 = .ok (.goto 7, 3) := by decide +kernel
theorem d203_225 : decode (pm_code 203) 225 = .ok (.aload_n 0, 1) := by decide +kernel
theorem d203_226 : decode (pm_code 203) 226 = .ok (.getfield 377, 3) := by decide +kernel
theorem d203_229 : decode (pm_code 203) 229 = .ok (.iload_n 2, 1) := by decide +kernel
theorem d203_230 : decode (pm_code 203) 230 = .ok (.bipush 10, 2) := by decide +kernel
theorem d203_232 : decode (pm_code 203) 232 = .ok (.if_icmp .ne 16, 3) := by decide +kernel
theorem d203_235 : decode (pm_code 203) 235 = .ok (.aload_n 0, 1) := by decide +kernel
theorem d203_236 : decode (pm_code 203) 236 = .ok (.iload_n 2, 1) := by decide +kernel
theorem d203_237 : decode (pm_code 203) 237 = .ok (.aload_n 0, 1) := by decide +kernel
theorem d203_238 : decode (pm_code 203) 238 = .ok (.getfield 377, 3) := by decide +kernel
theorem d203_241 : decode (pm_code 203) 241 = .ok (.iconst (-1), 1) := by decide +kernel
theorem d203_242 : decode (pm_code 203) 242 = .ok (.invokevirtual 392, 3) := by decide +kernel
theorem d203_245 : decode (pm_code 203) 245 = .ok (.goto 4, 3) := by decide +kernel
theorem d203_248 : decode (pm_code 203) 248 = .ok (.iconst (-1), 1) := by decide +kernel
theorem d203_249 : decode (pm_code 203) 249 = .ok (.aload_n 0, 1) := by decide +kernel
theorem d203_250 : decode (pm_code 203) 250 = .ok (.getfield 377, 3) := by decide +kernel
theorem d203_253 : decode (pm_code 203) 253 = .ok (.iconst 1, 1) := by decide +kernel
theorem d203_254 : decode (pm_code 203) 254 = .ok (.iadd, 1) := by decide +kernel
theorem d203_255 : decode (pm_code 203) 255 = .ok (.invokevirtual 395, 3) := by decide +kernel
theorem d203_258 : decode (pm_code 203) 258 = .ok (.iconst 1, 1) := by decide +kernel
theorem d203_259 : decode (pm_code 203) 259 = .ok (.ireturn, 1) := by decide +kernel
theorem d204_0 : decode (pm_code 204) 0 = .ok (.aload_n 0, 1) := by decide +kernel
theorem d204_1 : decode (pm_code 204) 1 = .ok (.getfield 135, 3) := by decide +kernel
theorem d204_4 : decode (pm_code 204) 4 = .ok (.iload_n 1, 1) := by decide +kernel
theorem d204_5 : decode (pm_code 204) 5 = .ok (.iaload, 1) := by decide +kernel
theorem d204_6 : decode (pm_code 204) 6 = .ok (.istore_n 2, 1) := by decide +kernel
theorem d204_7 : decode (pm_code 204) 7 = .ok (.aload_n 0, 1) := by decide +kernel
theorem d204_8 : decode (pm_code 204) 8 = .ok (.getfield 117, 3) := by decide +kernel
theorem d204_11 : decode (pm_code 204) 11 = .ok (.iload_n 2, 1) := by decide +kernel
theorem d204_12 : decode (pm_code 204) 12 = .ok (.iaload, 1) := by decide +kernel
theorem d204_13 : decode (pm_code 204) 13 = .ok (.istore_n 3, 1) := by decide +kernel
theorem d204_14 : decode (pm_code 204) 14 = .ok (.aload_n 0, 1) := by decide +kernel
theorem d204_15 : decode (pm_code 204) 15 = .ok (.getfield 129, 3) := by decide +kernel
theorem d204_18 : decode (pm_code 204) 18 = .ok (.iload_n 1, 1) := by decide +kernel
theorem d204_19 : decode (pm_code 204) 19 = .ok (.iaload, 1) := by decide +kernel
theorem d204_20 : decode (pm_code 204) 20 = .ok (.istore 4, 2) := by decide +kernel
theorem d204_22 : decode (pm_code 204) 22 = .ok (.iload_n 3, 1) := by decide +kernel
theorem d204_23 : decode (pm_code 204) 23 = .ok (.iconst 1, 1) := by decide +kernel
theorem d204_24 : decode (pm_code 204) 24 = .ok (.iadd, 1) := by decide +kernel
theorem d204_25 : decode (pm_code 204) 25 = .ok (.istore 5, 2) := by decide +kernel
theorem d204_27 : decode (pm_code 204) 27 = .ok (.iconst 0, 1) := by decide +kernel
theorem d204_28 : decode (pm_code 204) 28 = .ok (.istore 6, 2) := by decide +kernel
theorem d204_30 : decode (pm_code 204) 30 = .ok (.iload 6, 2) := by decide +kernel
theorem d204_32 : decode (pm_code 204) 32 = .ok (.iconst 3, 1) := by decide +kernel
theorem d204_33 : decode (pm_code 204) 33 = .ok (.if_icmp .ge 76, 3) := by decide +kernel
theorem d204_36 : decode (pm_code 204) 36 = .ok (.aload_n 0, 1) := by decide +kernel
theorem d204_37 : decode (pm_code 204) 37 = .ok (.getfield 19, 3) := by decide +kernel
theorem d204_40 : decode (pm_code 204) 40 = .ok (.iload_n 3, 1) := by decide +kernel
theorem d204_41 : decode (pm_code 204) 41 = .ok (.iaload, 1) := by decide +kernel
theorem d204_42 : decode (pm_code 204) 42 = .ok (.iload 6, 2) := by decide +kernel
theorem d204_44 : decode (pm_code 204) 44 = .ok (.ishr, 1) := by decide +kernel
theorem d204_45 : decode (pm_code 204) 45 = .ok (.iconst 1, 1) := by decide +kernel
theorem d204_46 : decode (pm_code 204) 46 = .ok (.iand, 1) := by decide +kernel
theorem d204_47 : decode (pm_code 204) 47 = .ok (.iconst 1, 1) := by decide +kernel
theorem d204_48 : decode (pm_code 204) 48 = .ok (.if_icmp .ne 7, 3) := by decide +kernel
theorem d204_51 : decode (pm_code 204) 51 = .ok (.iconst 1, 1) := by decide +kernel
theorem d204_52 : decode (pm_code 204) 52 = .ok (.goto 4, 3) := by decide +kernel
theorem d204_55 : decode (pm_code 204) 55 = .ok (.iconst 0, 1) := by decide +kernel
theorem d204_56 : decode (pm_code 204) 56 = .ok (.istore 7, 2) := by decide +kernel
theorem d204_58 : decode (pm_code 204) 58 = .ok (.iload 7, 2) := by decide +kernel
theorem d204_60 : decode (pm_code 204) 60 = .ok (.ifCond .eq 25, 3) := by decide +kernel
theorem d204_63 : decode (pm_code 204) 63 = .ok (.iload 5, 2) := by decide +kernel
theorem d204_65 : decode (pm_code 204) 65 = .ok (.iload 4, 2) := by decide +kernel
theorem d204_67 : decode (pm_code 204) 67 = .ok (.if_icmp .ne 18, 3) := by decide +kernel
theorem d204_70 : decode (pm_code 204) 70 = .ok (.aload_n 0, 1) := by decide +kernel
theorem d204_71 : decode (pm_code 204) 71 = .ok (.getfield 123, 3) := by decide +kernel
theorem d204_74 : decode (pm_code 204) 74 = .ok (.iconst 3, 1) := by decide +kernel
theorem d204_75 : decode (pm_code 204) 75 = .ok (.iload_n 2, 1) := by decide +kernel
theorem d204_76 : decode (pm_code 204) 76 = .ok (.imul, 1) := by decide +kernel
theorem d204_77 : decode (pm_code 204) 77 = .ok (.iload 6, 2) := by decide +kernel
theorem d204_79 : decode (pm_code 204) 79 = .ok (.iadd, 1) := by decide +kernel
theorem d204_80 : decode (pm_code 204) 80 = .ok (.aload_n 0, 1) := by decide +kernel
theorem d204_81 : decode (pm_code 204) 81 = .ok (.getfield 386, 3) := by decide +kernel
theorem d204_84 : decode (pm_code 204) 84 = .ok (.iastore, 1) := by decide +kernel
theorem d204_85 : decode (pm_code 204) 85 = .ok (.iload 7, 2) := by decide +kernel
theorem d204_87 : decode (pm_code 204) 87 = .ok (.ifCond .eq 12, 3) := by decide +kernel
theorem d204_90 : decode (pm_code 204) 90 = .ok (.aload_n 0, 1) := by decide +kernel
theorem d204_91 : decode (pm_code 204) 91 = .ok (.iload 5, 2) := by decide +kernel
theorem d204_93 : decode (pm_code 204) 93 = .ok (.invokevirtual 189, 3) := by decide +kernel
theorem d204_96 : decode (pm_code 204) 96 = .ok (.goto 5, 3) := by decide +kernel
theorem d204_99 : decode (pm_code 204) 99 = .ok (.iload 5, 2) := by decide +kernel
theorem d204_101 : decode (pm_code 204) 101 = .ok (.istore 5, 2) := by decide +kernel
theorem d204_103 : decode (pm_code 204) 103 = .ok (.iinc 6 1, 3) := by decide +kernel
theorem d204_106 : decode (pm_code 204) 106 = .ok (.goto (-76), 3) := by decide +kernel
theorem d204_109 : decode (pm_code 204) 109 = .ok (.aload_n 0, 1) := by decide +kernel
theorem d204_110 : decode (pm_code 204) 110 = .ok (.iload 4, 2) := by decide +kernel
theorem d204_112 : decode (pm_code 204) 112 = .ok (.invokevirtual 189, 3) := by decide +kernel
theorem d204_115 : decode (pm_code 204) 115 = .ok (.istore 6, 2) := by decide +kernel
theorem d204_117 : decode (pm_code 204) 117 = .ok (.iload 6, 2) := by decide +kernel
theorem d204_119 : decode (pm_code 204) 119 = .ok (.aload_n 0, 1) := by decide +kernel
theorem d204_120 : decode (pm_code 204) 120 = .ok (.iload_n 3, 1) := by decide +kernel
theorem d204_121 : decode (pm_code 204) 121 = .ok (.invokevirtual 189, 3) := by decide +kernel
theorem d204_124 : decode (pm_code 204) 124 = .ok (.if_icmp .ge 26, 3) := by decide +kernel
theorem d204_127 : decode (pm_code 204) 127 = .ok (.aload_n 0, 1) := by decide +kernel
theorem d204_128 : decode (pm_code 204) 128 = .ok (.getfield 129, 3) := by decide +kernel
theorem d204_131 : decode (pm_code 204) 131 = .ok (.iload_n 1, 1) := by decide +kernel
theorem d204_132 : decode (pm_code 204) 132 = .ok (.iload 6, 2) := by decide +kernel
theorem d204_134 : decode (pm_code 204) 134 = .ok (.iastore, 1) := by decide +kernel
theorem d204_135 : decode (pm_code 204) 135 = .ok (.aload_n 0, 1) := by decide +kernel
theorem d204_136 : decode (pm_code 204) 136 = .ok (.iload 6, 2) := by decide +kernel
theorem d204_138 : decode (pm_code 204) 138 = .ok (.aload_n 0, 1) := by decide +kernel
theorem d204_139 : decode (pm_code 204) 139 = .ok (.getfield 132, 3) := by decide +kernel
theorem d204_142 : decode (pm_code 204) 142 = .ok (.iload_n 1, 1) := by decide +kernel
theorem d204_143 : decode (pm_code 204) 143 = .ok (.iaload, 1) := by decide +kernel
theorem d204_144 : decode (pm_code 204) 144 = .ok (.invokevirtual 371, 3) := by decide +kernel
theorem d204_147 : decode (pm_code 204) 147 = .ok (.goto 18, 3) := by decide +kernel
theorem d204_150 : decode (pm_code 204) 150 = .ok (.aload_n 0, 1) := by decide +kernel
theorem d204_151 : decode (pm_code 204) 151 = .ok (.dup, 1) := by decide +kernel
theorem d204_152 : decode (pm_code 204) 152 = .ok (.getfield 368, 3) := by decide +kernel
theorem d204_155 : decode (pm_code 204) 155 = .ok (.iconst 1, 1) := by decide +kernel
theorem d204_156 : decode (pm_code 204) 156 = .ok (.isub, 1) := by decide +kernel
theorem d204_157 : decode (pm_code 204) 157 = .ok (.putfield 368, 3) := by decide +kernel
theorem d204_160 : decode (pm_code 204) 160 = .ok (.aload_n 0, 1) := by decide +kernel
theorem d204_161 : decode (pm_code 204) 161 = .ok (.iload_n 2, 1) := by decide +kernel
theorem d204_162 : decode (pm_code 204) 162 = .ok (.invokevirtual 389, 3) := by decide +kernel
theorem d204_165 : decode (pm_code 204) 165 = .ok (.return_, 1) := by decide +kernel
theorem d205_0 : decode (pm_code 205) 0 = .ok (.aload_n 0, 1) := by decide +kernel
theorem d205_1 : decode (pm_code 205) 1 = .ok (.getfield 368, 3) := by decide +kernel
theorem d205_4 : decode (pm_code 205) 4 = .ok (.iconst 1, 1) := by decide +kernel
theorem d205_5 : decode (pm_code 205) 5 = .ok (.isub, 1) := by decide +kernel
theorem d205_6 : decode (pm_code 205) 6 = .ok (.istore_n 2, 1) := by decide +kernel
theorem d205_7 : decode (pm_code 205) 7 = .ok (.iload_n 2, 1) := by decide +kernel
theorem d205_8 : decode (pm_code 205) 8 = .ok (.ifCond .ge 10, 3) := by decide +kernel
theorem d205_11 : decode (pm_code 205) 11 = .ok (.aload_n 0, 1) := by decide +kernel
theorem d205_12 : decode (pm_code 205) 12 = .ok (.iconst 1, 1) := by decide +kernel
theorem d205_13 : decode (pm_code 205) 13 = .ok (.putfield 356, 3) := by decide +kernel
theorem d205_16 : decode (pm_code 205) 16 = .ok (.iconst 0, 1) := by decide +kernel
theorem d205_17 : decode (pm_code 205) 17 = .ok (.ireturn, 1) := by decide +kernel
theorem d205_18 : decode (pm_code 205) 18 = .ok (.aload_n 0, 1) := by decide +kernel
theorem d205_19 : decode (pm_code 205) 19 = .ok (.getfield 126, 3) := by decide +kernel
theorem d205_22 : decode (pm_code 205) 22 = .ok (.iload_n 2, 1) := by decide +kernel
theorem d205_23 : decode (pm_code 205) 23 = .ok (.iaload, 1) := by decide +kernel
theorem d205_24 : decode (pm_code 205) 24 = .ok (.istore_n 3, 1) := by decide +kernel
theorem d205_25 : decode (pm_code 205) 25 = .ok (.iload_n 3, 1) := by decide +kernel
theorem d205_26 : decode (pm_code 205) 26 = .ok (.bipush 10, 2) := by decide +kernel
theorem d205_28 : decode (pm_code 205) 28 = .ok (.if_icmp .ne 10, 3) := by decide +kernel
theorem d205_31 : decode (pm_code 205) 31 = .ok (.aload_n 0, 1) := by decide +kernel
theorem d205_32 : decode (pm_code 205) 32 = .ok (.iload_n 2, 1) := by decide +kernel
theorem d205_33 : decode (pm_code 205) 33 = .ok (.invokevirtual 398, 3) := by decide +kernel
theorem d205_36 : decode (pm_code 205) 36 = .ok (.iconst 1, 1) := by decide +kernel
theorem d205_37 : decode (pm_code 205) 37 = .ok (.ireturn, 1) := by decide +kernel
theorem d205_38 : decode (pm_code 205) 38 = .ok (.iload_n 3, 1) := by decide +kernel
theorem d205_39 : decode (pm_code 205) 39 = .ok (.bipush 7, 2) := by decide +kernel
theorem d205_41 : decode (pm_code 205) 41 = .ok (.if_icmp .ne 46, 3) := by decide +kernel
theorem d205_44 : decode (pm_code 205) 44 = .ok (.aload_n 0, 1) := by decide +kernel
theorem d205_45 : decode (pm_code 205) 45 = .ok (.getfield 135, 3) := by decide +kernel
theorem d205_48 : decode (pm_code 205) 48 = .ok (.iload_n 2, 1) := by decide +kernel
theorem d205_49 : decode (pm_code 205) 49 = .ok (.iaload, 1) := by decide +kernel
theorem d205_50 : decode (pm_code 205) 50 = .ok (.ifCond .ge 37, 3) := by decide +kernel
theorem d205_53 : decode (pm_code 205) 53 = .ok (.aload_n 0, 1) := by decide +kernel
theorem d205_54 : decode (pm_code 205) 54 = .ok (.getfield 135, 3) := by decide +kernel
theorem d205_57 : decode (pm_code 205) 57 = .ok (.iload_n 2, 1) := by decide +kernel
theorem d205_58 : decode (pm_code 205) 58 = .ok (.aload_n 0, 1) := by decide +kernel
theorem d205_59 : decode (pm_code 205) 59 = .ok (.getfield 386, 3) := by decide +kernel
theorem d205_62 : decode (pm_code 205) 62 = .ok (.iastore, 1) := by decide +kernel
theorem d205_63 : decode (pm_code 205) 63 = .ok (.aload_n 0, 1) := by decide +kernel
theorem d205_64 : decode (pm_code 205) 64 = .ok (.aload_n 0, 1) := by decide +kernel
theorem d205_65 : decode (pm_code 205) 65 = .ok (.aload_n 0, 1) := by decide +kernel
theorem d205_66 : decode (pm_code 205) 66 = .ok (.getfield 129, 3) := by decide +kernel
theorem d205_69 : decode (pm_code 205) 69 = .ok (.iload_n 2, 1) := by decide +kernel
theorem d205_70 : decode (pm_code 205) 70 = .ok (.iaload, 1) := by decide +kernel
theorem d205_71 : decode (pm_code 205) 71 = .ok (.iconst 1, 1) := by decide +kernel
theorem d205_72 : decode (pm_code 205) 72 = .ok (.iadd, 1) := by decide +kernel
theorem d205_73 : decode (pm_code 205) 73 = .ok (.invokevirtual 189, 3) := by decide +kernel
theorem d205_76 : decode (pm_code 205) 76 = .ok (.aload_n 0, 1) := by decide +kernel
theorem d205_77 : decode (pm_code 205) 77 = .ok (.getfield 132, 3) := by decide +kernel
theorem d205_80 : decode (pm_code 205) 80 = .ok (.iload_n 2, 1) := by decide +kernel
theorem d205_81 : decode (pm_code 205) 81 = .ok (.iaload, 1) := by decide +kernel
theorem d205_82 : decode (pm_code 205) 82 = .ok (.invokevirtual 371, 3) := by decide +kernel
theorem d205_85 : decode (pm_code 205) 85 = .ok (.iconst 1, 1) := by decide +kernel
theorem d205_86 : decode (pm_code 205) 86 = .ok (.ireturn, 1) := by decide +kernel
theorem d205_87 : decode (pm_code 205) 87 = .ok (.iload_n 1, 1) := by decide +kernel
theorem d205_88 : decode (pm_code 205) 88 = .ok (.ifCond .ne 5, 3) := by decide +kernel
theorem d205_91 : decode (pm_code 205) 91 = .ok (.iconst 0, 1) := by decide +kernel
theorem d205_92 : decode (pm_code 205) 92 = .ok (.ireturn, 1) := by decide +kernel
theorem d205_93 : decode (pm_code 205) 93 = .ok (.aload_n 0, 1) := by decide +kernel
theorem d205_94 : decode (pm_code 205) 94 = .ok (.dup, 1) := by decide +kernel
theorem d205_95 : decode (pm_code 205) 95 = .ok (.getfield 368, 3) := by decide +kernel
theorem d205_98 : decode (pm_code 205) 98 = .ok (.iconst 1, 1) := by decide +kernel
theorem d205_99 : decode (pm_code 205) 99 = .ok (.isub, 1) := by decide +kernel
theorem d205_100 : decode (pm_code 205) 100 = .ok (.putfield 368, 3) := by decide +kernel
theorem d205_103 : decode (pm_code 205) 103 = .ok (.iload_n 3, 1) := by decide +kernel
theorem d205_104 : decode (pm_code 205) 104 = .ok (.bipush 11, 2) := by decide +kernel
theorem d205_106 : decode (pm_code 205) 106 = .ok (.if_icmp .ne 32, 3) := by decide +kernel
theorem d205_109 : decode (pm_code 205) 109 = .ok (.aload_n 0, 1) := by decide +kernel
theorem d205_110 : decode (pm_code 205) 110 = .ok (.aload_n 0, 1) := by decide +kernel
theorem d205_111 : decode (pm_code 205) 111 = .ok (.getfield 123, 3) := by decide +kernel
theorem d205_114 : decode (pm_code 205) 114 = .ok (.iconst 3, 1) := by decide +kernel
theorem d205_115 : decode (pm_code 205) 115 = .ok (.aload_n 0, 1) := by decide +kernel
theorem d205_116 : decode (pm_code 205) 116 = .ok (.getfield 386, 3) := by decide +kernel
theorem d205_119 : decode (pm_code 205) 119 = .ok (.imul, 1) := by decide +kernel
theorem d205_120 : decode (pm_code 205) 120 = .ok (.aload_n 0, 1) := by decide +kernel
theorem d205_121 : decode (pm_code 205) 121 = .ok (.getfield 19, 3) := by decide +kernel
theorem d205_124 : decode (pm_code 205) 124 = .ok (.aload_n 0, 1) := by decide +kernel
theorem d205_125 : decode (pm_code 205) 125 = .ok (.getfield 129, 3) := by decide +kernel
theorem d205_128 : decode (pm_code 205) 128 = .ok (.iload_n 2, 1) := by decide +kernel
theorem d205_129 : decode (pm_code 205) 129 = .ok (.iaload, 1) := by decide +kernel
theorem d205_130 : decode (pm_code 205) 130 = .ok (.iaload, 1) := by decide +kernel
theorem d205_131 : decode (pm_code 205) 131 = .ok (.iadd, 1) := by decide +kernel
theorem d205_132 : decode (pm_code 205) 132 = .ok (.iaload, 1) := by decide +kernel
theorem d205_133 : decode (pm_code 205) 133 = .ok (.invokevirtual 389, 3) := by decide +kernel
theorem d205_136 : decode (pm_code 205) 136 = .ok (.iconst 2, 1) := by decide +kernel
theorem d205_137 : decode (pm_code 205) 137 = .ok (.ireturn, 1) := by decide +kernel
theorem d205_138 : decode (pm_code 205) 138 = .ok (.iload_n 3, 1) := by decide +kernel
theorem d205_139 : decode (pm_code 205) 139 = .ok (.bipush 7, 2) := by decide +kernel
theorem d205_141 : decode (pm_code 205) 141 = .ok (.if_icmp .ne 12, 3) := by decide +kernel
theorem d205_144 : decode (pm_code 205) 144 = .ok (.aload_n 0, 1) := by decide +kernel
theorem d205_145 : decode (pm_code 205) 145 = .ok (.getfield 135, 3) := by decide +kernel
theorem d205_148 : decode (pm_code 205) 148 = .ok (.iload_n 2, 1) := by decide +kernel
theorem d205_149 : decode (pm_code 205) 149 = .ok (.iaload, 1) := by decide +kernel
theorem d205_150 : decode (pm_code 205) 150 = .ok (.goto 7, 3) := by decide +kernel
theorem d205_153 : decode (pm_code 205) 153 = .ok (.aload_n 0, 1) := by decide +kernel
theorem d205_154 : decode (pm_code 205) 154 = .ok (.getfield 386, 3) := by decide +kernel
theorem d205_157 : decode (pm_code 205) 157 = .ok (.istore 4, 2) := by decide +kernel
theorem d205_159 : decode (pm_code 205) 159 = .ok (.aload_n 0, 1) := by decide +kernel
theorem d205_160 : decode (pm_code 205) 160 = .ok (.getfield 120, 3) := by decide +kernel
theorem d205_163 : decode (pm_code 205) 163 = .ok (.iload 4, 2) := by decide +kernel
theorem d205_165 : decode (pm_code 205) 165 = .ok (.iaload, 1) := by decide +kernel
theorem d205_166 : decode (pm_code 205) 166 = .ok (.istore 5, 2) := by decide +kernel
theorem d205_168 : decode (pm_code 205) 168 = .ok (.iload_n 3, 1) := by decide +kernel
theorem d205_169 : decode (pm_code 205) 169 = .ok (.bipush 7, 2) := by decide +kernel
theorem d205_171 : decode (pm_code 205) 171 = .ok (.if_icmp .ne 64, 3) := by decide +kernel
theorem d205_174 : decode (pm_code 205) 174 = .ok (.aload_n 0, 1) := by decide +kernel
theorem d205_175 : decode (pm_code 205) 175 = .ok (.getfield 105, 3) := by decide +kernel
theorem d205_178 : decode (pm_code 205) 178 = .ok (.aload_n 0, 1) := by decide +kernel
theorem d205_179 : decode (pm_code 205) 179 = .ok (.getfield 362, 3) := by decide +kernel
theorem d205_182 : decode (pm_code 205) 182 = .ok (.aload_n 0, 1) := by decide +kernel
theorem d205_183 : decode (pm_code 205) 183 = .ok (.getfield 28, 3) := by decide +kernel
theorem d205_186 : decode (pm_code 205) 186 = .ok (.aload_n 0, 1) := by decide +kernel
theorem d205_187 : decode (pm_code 205) 187 = .ok (.getfield 117, 3) := by decide +kernel
theorem d205_190 : decode (pm_code 205) 190 = .ok (.iload 4, 2) := by decide +kernel
theorem d205_192 : decode (pm_code 205) 192 = .ok (.iaload, 1) := by decide +kernel
theorem d205_193 : decode (pm_code 205) 193 = .ok (.iaload, 1) := by decide +kernel
theorem d205_194 : decode (pm_code 205) 194 = .ok (.iastore, 1) := by decide +kernel
theorem d205_195 : decode (pm_code 205) 195 = .ok (.aload_n 0, 1) := by decide +kernel
theorem d205_196 : decode (pm_code 205) 196 = .ok (.getfield 108, 3) := by decide +kernel
theorem d205_199 : decode (pm_code 205) 199 = .ok (.aload_n 0, 1) := by decide +kernel
theorem d205_200 : decode (pm_code 205) 200 = .ok (.getfield 362, 3) := by decide +kernel
theorem d205_203 : decode (pm_code 205) 203 = .ok (.aload_n 0, 1) := by decide +kernel
theorem d205_204 : decode (pm_code 205) 204 = .ok (.getfield 386, 3) := by decide +kernel
theorem d205_207 : decode (pm_code 205) 207 = .ok (.iastore, 1) := by decide +kernel
theorem d205_208 : decode (pm_code 205) 208 = .ok (.aload_n 0, 1) := by decide +kernel
theorem d205_209 : decode (pm_code 205) 209 = .ok (.getfield 111, 3) := by decide +kernel
theorem d205_212 : decode (pm_code 205) 212 = .ok (.aload_n 0, 1) := by decide +kernel
theorem d205_213 : decode (pm_code 205) 213 = .ok (.getfield 362, 3) := by decide +kernel
theorem d205_216 : decode (pm_code 205) 216 = .ok (.iload 5, 2) := by decide +kernel
theorem d205_218 : decode (pm_code 205) 218 = .ok (.iastore, 1) := by decide +kernel
theorem d205_219 : decode (pm_code 205) 219 = .ok (.aload_n 0, 1) := by decide +kernel
theorem d205_220 : decode (pm_code 205) 220 = .ok (.getfield 362, 3) := by decide +kernel
theorem d205_223 : decode (pm_code 205) 223 = .ok (.istore 5, 2) := by decide +kernel
theorem d205_225 : decode (pm_code 205) 225 = .ok (.aload_n 0, 1) := by decide +kernel
theorem d205_226 : decode (pm_code 205) 226 = .ok (.dup, 1) := by decide +kernel
theorem d205_227 : decode (pm_code 205) 227 = .ok (.getfield 362, 3) := by decide +kernel
theorem d205_230 : decode (pm_code 205) 230 = .ok (.iconst 1, 1) := by decide +kernel
theorem d205_231 : decode (pm_code 205) 231 = .ok (.iadd, 1) := by decide +kernel
theorem d205_232 : decode (pm_code 205) 232 = .ok (.putfield 362, 3) := by decide +kernel
theorem d205_235 : decode (pm_code 205) 235 = .ok (.aload_n 0, 1) := by decide +kernel
theorem d205_236 : decode (pm_code 205) 236 = .ok (.aload_n 0, 1) := by decide +kernel
theorem d205_237 : decode (pm_code 205) 237 = .ok (.aload_n 0, 1) := by decide +kernel
theorem d205_238 : decode (pm_code 205) 238 = .ok (.getfield 117, 3) := by decide +kernel
theorem d205_241 : decode (pm_code 205) 241 = .ok (.iload 4, 2) := by decide +kernel
theorem d205_243 : decode (pm_code 205) 243 = .ok (.iaload, 1) := by decide +kernel
theorem d205_244 : decode (pm_code 205) 244 = .ok (.iconst 1, 1) := by decide +kernel
theorem d205_245 : decode (pm_code 205) 245 = .ok (.iadd, 1) := by decide +kernel
theorem d205_246 : decode (pm_code 205) 246 = .ok (.invokevirtual 189, 3) := by decide +kernel
theorem d205_249 : decode (pm_code 205) 249 = .ok (.iload 5, 2) := by decide +kernel
theorem d205_251 : decode (pm_code 205) 251 = .ok (.invokevirtual 371, 3) := by decide +kernel
theorem d205_254 : decode (pm_code 205) 254 = .ok (.iconst 2, 1) := by decide +kernel
theorem d205_255 : decode (pm_code 205) 255 = .ok (.ireturn, 1) := by decide +kernel
theorem d206_0 : decode (pm_code 206) 0 = .ok (.iconst 0, 1) := by decide +kernel
theorem d206_1 : decode (pm_code 206) 1 = .ok (.istore_n 2, 1) := by decide +kernel
theorem d206_2 : decode (pm_code 206) 2 = .ok (.iconst 1, 1) := by decide +kernel
theorem d206_3 : decode (pm_code 206) 3 = .ok (.istore_n 3, 1) := by decide +kernel
theorem d206_4 : decode (pm_code 206) 4 = .ok (.iload_n 3, 1) := by decide +kernel
theorem d206_5 : decode (pm_code 206) 5 = .ok (.ifCond .le 58, 3) := by decide +kernel
theorem d206_8 : decode (pm_code 206) 8 = .ok (.aload_n 0, 1) := by decide +kernel
theorem d206_9 : decode (pm_code 206) 9 = .ok (.getfield 383, 3) := by decide +kernel
theorem d206_12 : decode (pm_code 206) 12 = .ok (.ifCond .eq 20, 3) := by decide +kernel
theorem d206_15 : decode (pm_code 206) 15 = .ok (.aload_n 0, 1) := by decide +kernel
theorem d206_16 : decode (pm_code 206) 16 = .ok (.iload_n 2, 1) := by decide +kernel
theorem d206_17 : decode (pm_code 206) 17 = .ok (.iload_n 1, 1) := by decide +kernel
theorem d206_18 : decode (pm_code 206) 18 = .ok (.if_icmp .ge 7, 3) := by decide +kernel
theorem d206_21 : decode (pm_code 206) 21 = .ok (.iconst 1, 1) := by decide +kernel
theorem d206_22 : decode (pm_code 206) 22 = .ok (.goto 4, 3) := by decide +kernel
theorem d206_25 : decode (pm_code 206) 25 = .ok (.iconst 0, 1) := by decide +kernel
theorem d206_26 : decode (pm_code 206) 26 = .ok (.invokevirtual 401, 3) := by decide +kernel
theorem d206_29 : decode (pm_code 206) 29 = .ok (.goto 17, 3) := by decide +kernel
theorem d206_32 : decode (pm_code 206) 32 = .ok (.aload_n 0, 1) := by decide +kernel
theorem d206_33 : decode (pm_code 206) 33 = .ok (.iload_n 2, 1) := by decide +kernel
theorem d206_34 : decode (pm_code 206) 34 = .ok (.iload_n 1, 1) := by decide +kernel
theorem d206_35 : decode (pm_code 206) 35 = .ok (.if_icmp .ge 7, 3) := by decide +kernel
theorem d206_38 : decode (pm_code 206) 38 = .ok (.iconst 1, 1) := by decide +kernel
theorem d206_39 : decode (pm_code 206) 39 = .ok (.goto 4, 3) := by decide +kernel
theorem d206_42 : decode (pm_code 206) 42 = .ok (.iconst 0, 1) := by decide +kernel
theorem d206_43 : decode (pm_code 206) 43 = .ok (.invokevirtual 405, 3) := by decide +kernel
theorem d206_46 : decode (pm_code 206) 46 = .ok (.istore_n 3, 1) := by decide +kernel
theorem d206_47 : decode (pm_code 206) 47 = .ok (.iload_n 3, 1) := by decide +kernel
theorem d206_48 : decode (pm_code 206) 48 = .ok (.iconst 2, 1) := by decide +kernel
theorem d206_49 : decode (pm_code 206) 49 = .ok (.if_icmp .ne 9, 3) := by decide +kernel
theorem d206_52 : decode (pm_code 206) 52 = .ok (.iload_n 2, 1) := by decide +kernel
theorem d206_53 : decode (pm_code 206) 53 = .ok (.iconst 1, 1) := by decide +kernel
theorem d206_54 : decode (pm_code 206) 54 = .ok (.iadd, 1) := by decide +kernel
theorem d206_55 : decode (pm_code 206) 55 = .ok (.goto 4, 3) := by decide +kernel
theorem d206_58 : decode (pm_code 206) 58 = .ok (.iload_n 2, 1) := by decide +kernel
theorem d206_59 : decode (pm_code 206) 59 = .ok (.istore_n 2, 1) := by decide +kernel
theorem d206_60 : decode (pm_code 206) 60 = .ok (.goto (-56), 3) := by decide +kernel
theorem d206_63 : decode (pm_code 206) 63 = .ok (.iload_n 2, 1) := by decide +kernel
theorem d206_64 : decode (pm_code 206) 64 = .ok (.ireturn, 1) := by decide +kernel
theorem d207_0 : decode (pm_code 207) 0 = .ok (.aload_n 0, 1) := by decide +kernel
theorem d207_1 : decode (pm_code 207) 1 = .ok (.getfield 292, 3) := by decide +kernel
theorem d207_4 : decode (pm_code 207) 4 = .ok (.ifCond .eq 14, 3) := by decide +kernel
theorem d207_7 : decode (pm_code 207) 7 = .ok (.iload_n 1, 1) := by decide +kernel
theorem d207_8 : decode (pm_code 207) 8 = .ok (.iconst 1, 1) := by decide +kernel
theorem d207_9 : decode (pm_code 207) 9 = .ok (.if_icmp .lt 9, 3) := by decide +kernel
theorem d207_12 : decode (pm_code 207) 12 = .ok (.iload_n 1, 1) := by decide +kernel
theorem d207_13 : decode (pm_code 207) 13 = .ok (.bipush 20, 2) := by decide +kernel
theorem d207_15 : decode (pm_code 207) 15 = .ok (.if_icmp .le 6, 3) := by decide +kernel
theorem d207_18 : decode (pm_code 207) 18 = .ok (.bipush (-2), 2) := by decide +kernel
theorem d207_20 : decode (pm_code 207) 20 = .ok (.ireturn, 1) := by decide +kernel
theorem d207_21 : decode (pm_code 207) 21 = .ok (.aload_n 0, 1) := by decide +kernel
theorem d207_22 : decode (pm_code 207) 22 = .ok (.iload_n 1, 1) := by decide +kernel
theorem d207_23 : decode (pm_code 207) 23 = .ok (.bipush 60, 2) := by decide +kernel
theorem d207_25 : decode (pm_code 207) 25 = .ok (.aload_n 0, 1) := by decide +kernel
theorem d207_26 : decode (pm_code 207) 26 = .ok (.getfield 359, 3) := by decide +kernel
theorem d207_29 : decode (pm_code 207) 29 = .ok (.isub, 1) := by decide +kernel
theorem d207_30 : decode (pm_code 207) 30 = .ok (.if_icmp .ge 7, 3) := by decide +kernel
theorem d207_33 : decode (pm_code 207) 33 = .ok (.iload_n 1, 1) := by decide +kernel
theorem d207_34 : decode (pm_code 207) 34 = .ok (.goto 10, 3) := by decide +kernel
theorem d207_37 : decode (pm_code 207) 37 = .ok (.bipush 60, 2) := by decide +kernel
theorem d207_39 : decode (pm_code 207) 39 = .ok (.aload_n 0, 1) := by decide +kernel
theorem d207_40 : decode (pm_code 207) 40 = .ok (.getfield 359, 3) := by decide +kernel
theorem d207_43 : decode (pm_code 207) 43 = .ok (.isub, 1) := by decide +kernel
theorem d207_44 : decode (pm_code 207) 44 = .ok (.invokevirtual 374, 3) := by decide +kernel
theorem d207_47 : decode (pm_code 207) 47 = .ok (.istore_n 2, 1) := by decide +kernel
theorem d207_48 : decode (pm_code 207) 48 = .ok (.aload_n 0, 1) := by decide +kernel
theorem d207_49 : decode (pm_code 207) 49 = .ok (.dup, 1) := by decide +kernel
theorem d207_50 : decode (pm_code 207) 50 = .ok (.getfield 359, 3) := by decide +kernel
theorem d207_53 : decode (pm_code 207) 53 = .ok (.iload_n 2, 1) := by decide +kernel
theorem d207_54 : decode (pm_code 207) 54 = .ok (.iadd, 1) := by decide +kernel
theorem d207_55 : decode (pm_code 207) 55 = .ok (.putfield 359, 3) := by decide +kernel
theorem d207_58 : decode (pm_code 207) 58 = .ok (.iload_n 2, 1) := by decide +kernel
theorem d207_59 : decode (pm_code 207) 59 = .ok (.ireturn, 1) := by decide +kernel
theorem d208_0 : decode (pm_code 208) 0 = .ok (.aload_n 0, 1) := by decide +kernel
theorem d208_1 : decode (pm_code 208) 1 = .ok (.getfield 292, 3) := by decide +kernel
theorem d208_4 : decode (pm_code 208) 4 = .ok (.ifCond .eq 10, 3) := by decide +kernel
theorem d208_7 : decode (pm_code 208) 7 = .ok (.aload_n 0, 1) := by decide +kernel
theorem d208_8 : decode (pm_code 208) 8 = .ok (.getfield 359, 3) := by decide +kernel
theorem d208_11 : decode (pm_code 208) 11 = .ok (.goto 4, 3) := by decide +kernel
theorem d208_14 : decode (pm_code 208) 14 = .ok (.iconst (-1), 1) := by decide +kernel
theorem d208_15 : decode (pm_code 208) 15 = .ok (.ireturn, 1) := by decide +kernel
theorem d209_0 : decode (pm_code 209) 0 = .ok (.aload_n 0, 1) := by decide +kernel
theorem d209_1 : decode (pm_code 209) 1 = .ok (.getfield 292, 3) := by decide +kernel
theorem d209_4 : decode (pm_code 209) 4 = .ok (.ifCond .eq 10, 3) := by decide +kernel
theorem d209_7 : decode (pm_code 209) 7 = .ok (.aload_n 0, 1) := by decide +kernel
theorem d209_8 : decode (pm_code 209) 8 = .ok (.getfield 356, 3) := by decide +kernel
theorem d209_11 : decode (pm_code 209) 11 = .ok (.ifCond .ne 5, 3) := by decide +kernel
theorem d209_14 : decode (pm_code 209) 14 = .ok (.iconst (-1), 1) := by decide +kernel
theorem d209_15 : decode (pm_code 209) 15 = .ok (.ireturn, 1) := by decide +kernel
theorem d209_16 : decode (pm_code 209) 16 = .ok (.iconst 1, 1) := by decide +kernel
theorem d209_17 : decode (pm_code 209) 17 = .ok (.istore_n 1, 1) := by decide +kernel
theorem d209_18 : decode (pm_code 209) 18 = .ok (.aload_n 0, 1) := by decide +kernel
theorem d209_19 : decode (pm_code 209) 19 = .ok (.getfield 138, 3) := by decide +kernel
theorem d209_22 : decode (pm_code 209) 22 = .ok (.iconst 0, 1) := by decide +kernel
theorem d209_23 : decode (pm_code 209) 23 = .ok (.iconst (-1), 1) := by decide +kernel
theorem d209_24 : decode (pm_code 209) 24 = .ok (.aload_n 0, 1) := by decide +kernel
theorem d209_25 : decode (pm_code 209) 25 = .ok (.getfield 386, 3) := by decide +kernel
theorem d209_28 : decode (pm_code 209) 28 = .ok (.isub, 1) := by decide +kernel
theorem d209_29 : decode (pm_code 209) 29 = .ok (.iastore, 1) := by decide +kernel
theorem d209_30 : decode (pm_code 209) 30 = .ok (.iconst 0, 1) := by decide +kernel
theorem d209_31 : decode (pm_code 209) 31 = .ok (.istore_n 2, 1) := by decide +kernel
theorem d209_32 : decode (pm_code 209) 32 = .ok (.iload_n 1, 1) := by decide +kernel
theorem d209_33 : decode (pm_code 209) 33 = .ok (.ifCond .le 101, 3) := by decide +kernel
theorem d209_36 : decode (pm_code 209) 36 = .ok (.iload_n 2, 1) := by decide +kernel
theorem d209_37 : decode (pm_code 209) 37 = .ok (.bipush 100, 2) := by decide +kernel
theorem d209_39 : decode (pm_code 209) 39 = .ok (.if_icmp .gt 95, 3) := by decide +kernel
theorem d209_42 : decode (pm_code 209) 42 = .ok (.iinc 1 (-1), 3) := by decide +kernel
theorem d209_45 : decode (pm_code 209) 45 = .ok (.aload_n 0, 1) := by decide +kernel
theorem d209_46 : decode (pm_code 209) 46 = .ok (.getfield 138, 3) := by decide +kernel
theorem d209_49 : decode (pm_code 209) 49 = .ok (.iload_n 1, 1) := by decide +kernel
theorem d209_50 : decode (pm_code 209) 50 = .ok (.iaload, 1) := by decide +kernel
theorem d209_51 : decode (pm_code 209) 51 = .ok (.istore_n 3, 1) := by decide +kernel
theorem d209_52 : decode (pm_code 209) 52 = .ok (.iconst (-1), 1) := by decide +kernel
theorem d209_53 : decode (pm_code 209) 53 = .ok (.iload_n 3, 1) := by decide +kernel
theorem d209_54 : decode (pm_code 209) 54 = .ok (.isub, 1) := by decide +kernel
theorem d209_55 : decode (pm_code 209) 55 = .ok (.istore 4, 2) := by decide +kernel
theorem d209_57 : decode (pm_code 209) 57 = .ok (.iload_n 3, 1) := by decide +kernel
theorem d209_58 : decode (pm_code 209) 58 = .ok (.ifCond .ge 15, 3) := by decide +kernel
theorem d209_61 : decode (pm_code 209) 61 = .ok (.aload_n 0, 1) := by decide +kernel
theorem d209_62 : decode (pm_code 209) 62 = .ok (.getfield 114, 3) := by decide +kernel
theorem d209_65 : decode (pm_code 209) 65 = .ok (.iload 4, 2) := by decide +kernel
theorem d209_67 : decode (pm_code 209) 67 = .ok (.iaload, 1) := by decide +kernel
theorem d209_68 : decode (pm_code 209) 68 = .ok (.bipush 10, 2) := by decide +kernel
theorem d209_70 : decode (pm_code 209) 70 = .ok (.if_icmp .eq 42, 3) := by decide +kernel
theorem d209_73 : decode (pm_code 209) 73 = .ok (.aload_n 0, 1) := by decide +kernel
theorem d209_74 : decode (pm_code 209) 74 = .ok (.getfield 141, 3) := by decide +kernel
theorem d209_77 : decode (pm_code 209) 77 = .ok (.iload_n 2, 1) := by decide +kernel
theorem d209_78 : decode (pm_code 209) 78 = .ok (.iload_n 3, 1) := by decide +kernel
theorem d209_79 : decode (pm_code 209) 79 = .ok (.ifCond .lt 7, 3) := by decide +kernel
theorem d209_82 : decode (pm_code 209) 82 = .ok (.iload_n 3, 1) := by decide +kernel
theorem d209_83 : decode (pm_code 209) 83 = .ok (.goto 22, 3) := by decide +kernel
theorem d209_86 : decode (pm_code 209) 86 = .ok (.aload_n 0, 1) := by decide +kernel
theorem d209_87 : decode (pm_code 209) 87 = .ok (.getfield 114, 3) := by decide +kernel
theorem d209_90 : decode (pm_code 209) 90 = .ok (.iload 4, 2) := by decide +kernel
theorem d209_92 : decode (pm_code 209) 92 = .ok (.iaload, 1) := by decide +kernel
theorem d209_93 : decode (pm_code 209) 93 = .ok (.bipush 6, 2) := by decide +kernel
theorem d209_95 : decode (pm_code 209) 95 = .ok (.if_icmp .ne 8, 3) := by decide +kernel
theorem d209_98 : decode (pm_code 209) 98 = .ok (.bipush 102, 2) := by decide +kernel
theorem d209_100 : decode (pm_code 209) 100 = .ok (.goto 5, 3) := by decide +kernel
theorem d209_103 : decode (pm_code 209) 103 = .ok (.bipush 103, 2) := by decide +kernel
theorem d209_105 : decode (pm_code 209) 105 = .ok (.iastore, 1) := by decide +kernel
theorem d209_106 : decode (pm_code 209) 106 = .ok (.iinc 2 1, 3) := by decide +kernel
theorem d209_109 : decode (pm_code 209) 109 = .ok (.goto 22, 3) := by decide +kernel
theorem d209_112 : decode (pm_code 209) 112 = .ok (.aload_n 0, 1) := by decide +kernel
theorem d209_113 : decode (pm_code 209) 113 = .ok (.getfield 141, 3) := by decide +kernel
theorem d209_116 : decode (pm_code 209) 116 = .ok (.iload_n 2, 1) := by decide +kernel
theorem d209_117 : decode (pm_code 209) 117 = .ok (.bipush 123, 2) := by decide +kernel
theorem d209_119 : decode (pm_code 209) 119 = .ok (.iastore, 1) := by decide +kernel
theorem d209_120 : decode (pm_code 209) 120 = .ok (.iinc 2 1, 3) := by decide +kernel
theorem d209_123 : decode (pm_code 209) 123 = .ok (.aload_n 0, 1) := by decide +kernel
theorem d209_124 : decode (pm_code 209) 124 = .ok (.iload 4, 2) := by decide +kernel
theorem d209_126 : decode (pm_code 209) 126 = .ok (.iload_n 1, 1) := by decide +kernel
theorem d209_127 : decode (pm_code 209) 127 = .ok (.invokevirtual 408, 3) := by decide +kernel
theorem d209_130 : decode (pm_code 209) 130 = .ok (.istore_n 1, 1) := by decide +kernel
theorem d209_131 : decode (pm_code 209) 131 = .ok (.goto (-99), 3) := by decide +kernel
theorem d209_134 : decode (pm_code 209) 134 = .ok (.iload_n 2, 1) := by decide +kernel
theorem d209_135 : decode (pm_code 209) 135 = .ok (.bipush 100, 2) := by decide +kernel
theorem d209_137 : decode (pm_code 209) 137 = .ok (.if_icmp .le 6, 3) := by decide +kernel
theorem d209_140 : decode (pm_code 209) 140 = .ok (.bipush (-3), 2) := by decide +kernel
theorem d209_142 : decode (pm_code 209) 142 = .ok (.ireturn, 1) := by decide +kernel
theorem d209_143 : decode (pm_code 209) 143 = .ok (.iconst 0, 1) := by decide +kernel
theorem d209_144 : decode (pm_code 209) 144 = .ok (.istore_n 3, 1) := by decide +kernel
theorem d209_145 : decode (pm_code 209) 145 = .ok (.iload_n 3, 1) := by decide +kernel
theorem d209_146 : decode (pm_code 209) 146 = .ok (.iload_n 2, 1) := by decide +kernel
theorem d209_147 : decode (pm_code 209) 147 = .ok (.if_icmp .ge 21, 3) := by decide +kernel
theorem d209_150 : decode (pm_code 209) 150 = .ok (.aload_n 0, 1) := by decide +kernel
theorem d209_151 : decode (pm_code 209) 151 = .ok (.getfield 13, 3) := by decide +kernel
theorem d209_154 : decode (pm_code 209) 154 = .ok (.iload_n 3, 1) := by decide +kernel
theorem d209_155 : decode (pm_code 209) 155 = .ok (.aload_n 0, 1) := by decide +kernel
theorem d209_156 : decode (pm_code 209) 156 = .ok (.getfield 141, 3) := by decide +kernel
theorem d209_159 : decode (pm_code 209) 159 = .ok (.iload_n 3, 1) := by decide +kernel
theorem d209_160 : decode (pm_code 209) 160 = .ok (.iaload, 1) := by decide +kernel
theorem d209_161 : decode (pm_code 209) 161 = .ok (.iastore, 1) := by decide +kernel
theorem d209_162 : decode (pm_code 209) 162 = .ok (.iinc 3 1, 3) := by decide +kernel
theorem d209_165 : decode (pm_code 209) 165 = .ok (.goto (-20), 3) := by decide +kernel
theorem d209_168 : decode (pm_code 209) 168 = .ok (.aload_n 0, 1) := by decide +kernel
theorem d209_169 : decode (pm_code 209) 169 = .ok (.iload_n 2, 1) := by decide +kernel
theorem d209_170 : decode (pm_code 209) 170 = .ok (.putfield 309, 3) := by decide +kernel
theorem d209_173 : decode (pm_code 209) 173 = .ok (.iload_n 2, 1) := by decide +kernel
theorem d209_174 : decode (pm_code 209) 174 = .ok (.ireturn, 1) := by decide +kernel
theorem d210_0 : decode (pm_code 210) 0 = .ok (.iload_n 2, 1) := by decide +kernel
theorem d210_1 : decode (pm_code 210) 1 = .ok (.istore_n 3, 1) := by decide +kernel
theorem d210_2 : decode (pm_code 210) 2 = .ok (.aload_n 0, 1) := by decide +kernel
theorem d210_3 : decode (pm_code 210) 3 = .ok (.getfield 19, 3) := by decide +kernel
theorem d210_6 : decode (pm_code 210) 6 = .ok (.aload_n 0, 1) := by decide +kernel
theorem d210_7 : decode (pm_code 210) 7 = .ok (.getfield 117, 3) := by decide +kernel
theorem d210_10 : decode (pm_code 210) 10 = .ok (.iload_n 1, 1) := by decide +kernel
theorem d210_11 : decode (pm_code 210) 11 = .ok (.iaload, 1) := by decide +kernel
theorem d210_12 : decode (pm_code 210) 12 = .ok (.iaload, 1) := by decide +kernel
theorem d210_13 : decode (pm_code 210) 13 = .ok (.istore 4, 2) := by decide +kernel
theorem d210_15 : decode (pm_code 210) 15 = .ok (.aload_n 0, 1) := by decide +kernel
theorem d210_16 : decode (pm_code 210) 16 = .ok (.getfield 138, 3) := by decide +kernel
theorem d210_19 : decode (pm_code 210) 19 = .ok (.iload_n 3, 1) := by decide +kernel
theorem d210_20 : decode (pm_code 210) 20 = .ok (.bipush 125, 2) := by decide +kernel
theorem d210_22 : decode (pm_code 210) 22 = .ok (.iastore, 1) := by decide +kernel
theorem d210_23 : decode (pm_code 210) 23 = .ok (.iinc 3 1, 3) := by decide +kernel
theorem d210_26 : decode (pm_code 210) 26 = .ok (.iconst 2, 1) := by decide +kernel
theorem d210_27 : decode (pm_code 210) 27 = .ok (.istore 5, 2) := by decide +kernel
theorem d210_29 : decode (pm_code 210) 29 = .ok (.iload 5, 2) := by decide +kernel
theorem d210_31 : decode (pm_code 210) 31 = .ok (.ifCond .lt 88, 3) := by decide +kernel
theorem d210_34 : decode (pm_code 210) 34 = .ok (.iload 4, 2) := by decide +kernel
theorem d210_36 : decode (pm_code 210) 36 = .ok (.iload 5, 2) := by decide +kernel
theorem d210_38 : decode (pm_code 210) 38 = .ok (.ishr, 1) := by decide +kernel
theorem d210_39 : decode (pm_code 210) 39 = .ok (.iconst 1, 1) := by decide +kernel
theorem d210_40 : decode (pm_code 210) 40 = .ok (.iand, 1) := by decide +kernel
theorem d210_41 : decode (pm_code 210) 41 = .ok (.iconst 1, 1) := by decide +kernel
theorem d210_42 : decode (pm_code 210) 42 = .ok (.if_icmp .ne 71, 3) := by decide +kernel
theorem d210_45 : decode (pm_code 210) 45 = .ok (.aload_n 0, 1) := by decide +kernel
theorem d210_46 : decode (pm_code 210) 46 = .ok (.getfield 138, 3) := by decide +kernel
theorem d210_49 : decode (pm_code 210) 49 = .ok (.iload_n 3, 1) := by decide +kernel
theorem d210_50 : decode (pm_code 210) 50 = .ok (.iconst (-1), 1) := by decide +kernel
theorem d210_51 : decode (pm_code 210) 51 = .ok (.aload_n 0, 1) := by decide +kernel
theorem d210_52 : decode (pm_code 210) 52 = .ok (.getfield 123, 3) := by decide +kernel
theorem d210_55 : decode (pm_code 210) 55 = .ok (.iconst 3, 1) := by decide +kernel
theorem d210_56 : decode (pm_code 210) 56 = .ok (.iload_n 1, 1) := by decide +kernel
theorem d210_57 : decode (pm_code 210) 57 = .ok (.imul, 1) := by decide +kernel
theorem d210_58 : decode (pm_code 210) 58 = .ok (.iload 5, 2) := by decide +kernel
theorem d210_60 : decode (pm_code 210) 60 = .ok (.iadd, 1) := by decide +kernel
theorem d210_61 : decode (pm_code 210) 61 = .ok (.iaload, 1) := by decide +kernel
theorem d210_62 : decode (pm_code 210) 62 = .ok (.isub, 1) := by decide +kernel
theorem d210_63 : decode (pm_code 210) 63 = .ok (.iastore, 1) := by decide +kernel
theorem d210_64 : decode (pm_code 210) 64 = .ok (.aload_n 0, 1) := by decide +kernel
theorem d210_65 : decode (pm_code 210) 65 = .ok (.getfield 138, 3) := by decide +kernel
theorem d210_68 : decode (pm_code 210) 68 = .ok (.iload_n 3, 1) := by decide +kernel
theorem d210_69 : decode (pm_code 210) 69 = .ok (.iconst 1, 1) := by decide +kernel
theorem d210_70 : decode (pm_code 210) 70 = .ok (.iadd, 1) := by decide +kernel
theorem d210_71 : decode (pm_code 210) 71 = .ok (.bipush 61, 2) := by decide +kernel
theorem d210_73 : decode (pm_code 210) 73 = .ok (.iastore, 1) := by decide +kernel
theorem d210_74 : decode (pm_code 210) 74 = .ok (.aload_n 0, 1) := by decide +kernel
theorem d210_75 : decode (pm_code 210) 75 = .ok (.getfield 138, 3) := by decide +kernel
theorem d210_78 : decode (pm_code 210) 78 = .ok (.iload_n 3, 1) := by decide +kernel
theorem d210_79 : decode (pm_code 210) 79 = .ok (.iconst 2, 1) := by decide +kernel
theorem d210_80 : decode (pm_code 210) 80 = .ok (.iadd, 1) := by decide +kernel
theorem d210_81 : decode (pm_code 210) 81 = .ok (.bipush 120, 2) := by decide +kernel
theorem d210_83 : decode (pm_code 210) 83 = .ok (.iload 5, 2) := by decide +kernel
theorem d210_85 : decode (pm_code 210) 85 = .ok (.iadd, 1) := by decide +kernel
theorem d210_86 : decode (pm_code 210) 86 = .ok (.iastore, 1) := by decide +kernel
theorem d210_87 : decode (pm_code 210) 87 = .ok (.iinc 3 3, 3) := by decide +kernel
theorem d210_90 : decode (pm_code 210) 90 = .ok (.iload 4, 2) := by decide +kernel
theorem d210_92 : decode (pm_code 210) 92 = .ok (.iconst 1, 1) := by decide +kernel
theorem d210_93 : decode (pm_code 210) 93 = .ok (.iload 5, 2) := by decide +kernel
theorem d210_95 : decode (pm_code 210) 95 = .ok (.ishl, 1) := by decide +kernel
theorem d210_96 : decode (pm_code 210) 96 = .ok (.iconst 1, 1) := by decide +kernel
theorem d210_97 : decode (pm_code 210) 97 = .ok (.isub, 1) := by decide +kernel
theorem d210_98 : decode (pm_code 210) 98 = .ok (.iand, 1) := by decide +kernel
theorem d210_99 : decode (pm_code 210) 99 = .ok (.ifCond .eq 14, 3) := by decide +kernel
theorem d210_102 : decode (pm_code 210) 102 = .ok (.aload_n 0, 1) := by decide +kernel
theorem d210_103 : decode (pm_code 210) 103 = .ok (.getfield 138, 3) := by decide +kernel
theorem d210_106 : decode (pm_code 210) 106 = .ok (.iload_n 3, 1) := by decide +kernel
theorem d210_107 : decode (pm_code 210) 107 = .ok (.bipush 44, 2) := by decide +kernel
theorem d210_109 : decode (pm_code 210) 109 = .ok (.iastore, 1) := by decide +kernel
theorem d210_110 : decode (pm_code 210) 110 = .ok (.iinc 3 1, 3) := by decide +kernel
theorem d210_113 : decode (pm_code 210) 113 = .ok (.iinc 5 (-1), 3) := by decide +kernel
theorem d210_116 : decode (pm_code 210) 116 = .ok (.goto (-87), 3) := by decide +kernel
theorem d210_119 : decode (pm_code 210) 119 = .ok (.iload_n 3, 1) := by decide +kernel
theorem d210_120 : decode (pm_code 210) 120 = .ok (.ireturn, 1) := by decide +kernel
theorem d211_0 : decode (pm_code 211) 0 = .ok (.iload_n 1, 1) := by decide +kernel
theorem d211_1 : decode (pm_code 211) 1 = .ok (.aload_n 0, 1) := by decide +kernel
theorem d211_2 : decode (pm_code 211) 2 = .ok (.arraylength, 1) := by decide +kernel
theorem d211_3 : decode (pm_code 211) 3 = .ok (.if_icmp .ne 11, 3) := by decide +kernel
theorem d211_6 : decode (pm_code 211) 6 = .ok (.aload_n 0, 1) := by decide +kernel
theorem d211_7 : decode (pm_code 211) 7 = .ok (.invokevirtual 316, 3) := by decide +kernel
theorem d211_10 : decode (pm_code 211) 10 = .ok (.checkcast 317, 3) := by decide +kernel
theorem d211_13 : decode (pm_code 211) 13 = .ok (.areturn, 1) := by decide +kernel
theorem d211_14 : decode (pm_code 211) 14 = .ok (.iload_n 1, 1) := by decide +kernel
theorem d211_15 : decode (pm_code 211) 15 = .ok (.newarray .int, 2) := by decide +kernel
theorem d211_17 : decode (pm_code 211) 17 = .ok (.astore_n 2, 1) := by decide +kernel
theorem d211_18 : decode (pm_code 211) 18 = .ok (.aload_n 0, 1) := by decide +kernel
theorem d211_19 : decode (pm_code 211) 19 = .ok (.iconst 0, 1) := by decide +kernel
theorem d211_20 : decode (pm_code 211) 20 = .ok (.aload_n 2, 1) := by decide +kernel
theorem d211_21 : decode (pm_code 211) 21 = .ok (.iconst 0, 1) := by decide +kernel
theorem d211_22 : decode (pm_code 211) 22 = .ok (.aload_n 0, 1) := by decide +kernel
theorem d211_23 : decode (pm_code 211) 23 = .ok (.arraylength, 1) := by decide +kernel
theorem d211_24 : decode (pm_code 211) 24 = .ok (.iload_n 1, 1) := by decide +kernel
theorem d211_25 : decode (pm_code 211) 25 = .ok (.invokestatic 304, 3) := by decide +kernel
theorem d211_28 : decode (pm_code 211) 28 = .ok (.invokestatic 150, 3) := by decide +kernel
theorem d211_31 : decode (pm_code 211) 31 = .ok (.aload_n 2, 1) := by decide +kernel
theorem d211_32 : decode (pm_code 211) 32 = .ok (.areturn, 1) := by decide +kernel
theorem d212_0 : decode (pm_code 212) 0 = .ok (.new 7, 3) := by decide +kernel
theorem d212_3 : decode (pm_code 212) 3 = .ok (.dup, 1) := by decide +kernel
theorem d212_4 : decode (pm_code 212) 4 = .ok (.invokespecial 9, 3) := by decide +kernel
theorem d212_7 : decode (pm_code 212) 7 = .ok (.astore_n 1, 1) := by decide +kernel
theorem d212_8 : decode (pm_code 212) 8 = .ok (.new 10, 3) := by decide +kernel
theorem d212_11 : decode (pm_code 212) 11 = .ok (.dup, 1) := by decide +kernel
theorem d212_12 : decode (pm_code 212) 12 = .ok (.invokespecial 12, 3) := by decide +kernel
theorem d212_15 : decode (pm_code 212) 15 = .ok (.astore_n 2, 1) := by decide +kernel
theorem d212_16 : decode (pm_code 212) 16 = .ok (.iconst 0, 1) := by decide +kernel
theorem d212_17 : decode (pm_code 212) 17 = .ok (.istore_n 3, 1) := by decide +kernel
theorem d212_18 : decode (pm_code 212) 18 = .ok (.iload_n 3, 1) := by decide +kernel
theorem d212_19 : decode (pm_code 212) 19 = .ok (.aload_n 0, 1) := by decide +kernel
theorem d212_20 : decode (pm_code 212) 20 = .ok (.arraylength, 1) := by decide +kernel
theorem d212_21 : decode (pm_code 212) 21 = .ok (.iconst 4, 1) := by decide +kernel
theorem d212_22 : decode (pm_code 212) 22 = .ok (.isub, 1) := by decide +kernel
theorem d212_23 : decode (pm_code 212) 23 = .ok (.if_icmp .gt 485, 3) := by decide +kernel
theorem d212_26 : decode (pm_code 212) 26 = .ok (.aload_n 0, 1) := by decide +kernel
theorem d212_27 : decode (pm_code 212) 27 = .ok (.iload_n 3, 1) := by decide +kernel
theorem d212_28 : decode (pm_code 212) 28 = .ok (.iaload, 1) := by decide +kernel
theorem d212_29 : decode (pm_code 212) 29 = .ok (.bipush 15, 2) := by decide +kernel
theorem d212_31 : decode (pm_code 212) 31 = .ok (.iand, 1) := by decide +kernel
theorem d212_32 : decode (pm_code 212) 32 = .ok (.tableswitch 470 0 15 #[80, 105, 128, 141, 174, 207, 250, 293, 316, 339, 362, 385, 408, 421, 444, 457], 80) := by decide +kernel
theorem d212_112 : decode (pm_code 212) 112 = .ok (.aload_n 1, 1) := by decide +kernel
theorem d212_113 : decode (pm_code 212) 113 = .ok (.aload_n 0, 1) := by decide +kernel
theorem d212_114 : decode (pm_code 212) 114 = .ok (.iload_n 3, 1) := by decide +kernel
theorem d212_115 : decode (pm_code 212) 115 = .ok (.iconst 1, 1) := by decide +kernel
theorem d212_116 : decode (pm_code 212) 116 = .ok (.iadd, 1) := by decide +kernel
theorem d212_117 : decode (pm_code 212) 117 = .ok (.iaload, 1) := by decide +kernel
theorem d212_118 : decode (pm_code 212) 118 = .ok (.i2c, 1) := by decide +kernel
theorem d212_119 : decode (pm_code 212) 119 = .ok (.invokevirtual 13, 3) := by decide +kernel
theorem d212_122 : decode (pm_code 212) 122 = .ok (.aload_n 2, 1) := by decide +kernel
theorem d212_123 : decode (pm_code 212) 123 = .ok (.aload_n 0, 1) := by decide +kernel
theorem d212_124 : decode (pm_code 212) 124 = .ok (.iload_n 3, 1) := by decide +kernel
theorem d212_125 : decode (pm_code 212) 125 = .ok (.iconst 1, 1) := by decide +kernel
theorem d212_126 : decode (pm_code 212) 126 = .ok (.iadd, 1) := by decide +kernel
theorem d212_127 : decode (pm_code 212) 127 = .ok (.iaload, 1) := by decide +kernel
theorem d212_128 : decode (pm_code 212) 128 = .ok (.i2c, 1) := by decide +kernel
theorem d212_129 : decode (pm_code 212) 129 = .ok (.invokevirtual 17, 3) := by decide +kernel
theorem d212_132 : decode (pm_code 212) 132 = .ok (.if_icmp .eq 370, 3) := by decide +kernel
theorem d212_135 : decode (pm_code 212) 135 = .ok (.iconst 0, 1) := by decide +kernel
theorem d212_136 : decode (pm_code 212) 136 = .ok (.ireturn, 1) := by decide +kernel
theorem d212_137 : decode (pm_code 212) 137 = .ok (.aload_n 1, 1) := by decide +kernel
theorem d212_138 : decode (pm_code 212) 138 = .ok (.aload_n 0, 1) := by decide +kernel
theorem d212_139 : decode (pm_code 212) 139 = .ok (.iload_n 3, 1) := by decide +kernel
theorem d212_140 : decode (pm_code 212) 140 = .ok (.iconst 1, 1) := by decide +kernel
theorem d212_141 : decode (pm_code 212) 141 = .ok (.iadd, 1) := by decide +kernel
theorem d212_142 : decode (pm_code 212) 142 = .ok (.iaload, 1) := by decide +kernel
theorem d212_143 : decode (pm_code 212) 143 = .ok (.invokevirtual 18, 3) := by decide +kernel
theorem d212_146 : decode (pm_code 212) 146 = .ok (.aload_n 2, 1) := by decide +kernel
theorem d212_147 : decode (pm_code 212) 147 = .ok (.aload_n 0, 1) := by decide +kernel
theorem d212_148 : decode (pm_code 212) 148 = .ok (.iload_n 3, 1) := by decide +kernel
theorem d212_149 : decode (pm_code 212) 149 = .ok (.iconst 1, 1) := by decide +kernel
theorem d212_150 : decode (pm_code 212) 150 = .ok (.iadd, 1) := by decide +kernel
theorem d212_151 : decode (pm_code 212) 151 = .ok (.iaload, 1) := by decide +kernel
theorem d212_152 : decode (pm_code 212) 152 = .ok (.invokevirtual 22, 3) := by decide +kernel
theorem d212_155 : decode (pm_code 212) 155 = .ok (.if_icmp .eq 347, 3) := by decide +kernel
theorem d212_158 : decode (pm_code 212) 158 = .ok (.iconst 0, 1) := by decide +kernel
theorem d212_159 : decode (pm_code 212) 159 = .ok (.ireturn, 1) := by decide +kernel
theorem d212_160 : decode (pm_code 212) 160 = .ok (.aload_n 1, 1) := by decide +kernel
theorem d212_161 : decode (pm_code 212) 161 = .ok (.invokevirtual 23, 3) := by decide +kernel
theorem d212_164 : decode (pm_code 212) 164 = .ok (.aload_n 2, 1) := by decide +kernel
theorem d212_165 : decode (pm_code 212) 165 = .ok (.invokevirtual 27, 3) := by decide +kernel
theorem d212_168 : decode (pm_code 212) 168 = .ok (.if_icmp .eq 334, 3) := by decide +kernel
theorem d212_171 : decode (pm_code 212) 171 = .ok (.iconst 0, 1) := by decide +kernel
theorem d212_172 : decode (pm_code 212) 172 = .ok (.ireturn, 1) := by decide +kernel
theorem d212_173 : decode (pm_code 212) 173 = .ok (.aload_n 1, 1) := by decide +kernel
theorem d212_174 : decode (pm_code 212) 174 = .ok (.aload_n 0, 1) := by decide +kernel
theorem d212_175 : decode (pm_code 212) 175 = .ok (.iload_n 3, 1) := by decide +kernel
theorem d212_176 : decode (pm_code 212) 176 = .ok (.iconst 1, 1) := by decide +kernel
theorem d212_177 : decode (pm_code 212) 177 = .ok (.iadd, 1) := by decide +kernel
theorem d212_178 : decode (pm_code 212) 178 = .ok (.iaload, 1) := by decide +kernel
theorem d212_179 : decode (pm_code 212) 179 = .ok (.aload_n 0, 1) := by decide +kernel
theorem d212_180 : decode (pm_code 212) 180 = .ok (.iload_n 3, 1) := by decide +kernel
theorem d212_181 : decode (pm_code 212) 181 = .ok (.iconst 2, 1) := by decide +kernel
theorem d212_182 : decode (pm_code 212) 182 = .ok (.iadd, 1) := by decide +kernel
theorem d212_183 : decode (pm_code 212) 183 = .ok (.iaload, 1) := by decide +kernel
theorem d212_184 : decode (pm_code 212) 184 = .ok (.invokevirtual 28, 3) := by decide +kernel
theorem d212_187 : decode (pm_code 212) 187 = .ok (.aload_n 2, 1) := by decide +kernel
theorem d212_188 : decode (pm_code 212) 188 = .ok (.aload_n 0, 1) := by decide +kernel
theorem d212_189 : decode (pm_code 212) 189 = .ok (.iload_n 3, 1) := by decide +kernel
theorem d212_190 : decode (pm_code 212) 190 = .ok (.iconst 1, 1) := by decide +kernel
theorem d212_191 : decode (pm_code 212) 191 = .ok (.iadd, 1) := by decide +kernel
theorem d212_192 : decode (pm_code 212) 192 = .ok (.iaload, 1) := by decide +kernel
theorem d212_193 : decode (pm_code 212) 193 = .ok (.aload_n 0, 1) := by decide +kernel
theorem d212_194 : decode (pm_code 212) 194 = .ok (.iload_n 3, 1) := by decide +kernel
theorem d212_195 : decode (pm_code 212) 195 = .ok (.iconst 2, 1) := by decide +kernel
theorem d212_196 : decode (pm_code 212) 196 = .ok (.iadd, 1) := by decide +kernel
theorem d212_197 : decode (pm_code 212) 197 = .ok (.iaload, 1) := by decide +kernel
theorem d212_198 : decode (pm_code 212) 198 = .ok (.invokevirtual 32, 3) := by decide +kernel
theorem d212_201 : decode (pm_code 212) 201 = .ok (.if_icmp .eq 301, 3) := by decide +kernel
theorem d212_204 : decode (pm_code 212) 204 = .ok (.iconst 0, 1) := by decide +kernel
theorem d212_205 : decode (pm_code 212) 205 = .ok (.ireturn, 1) := by decide +kernel
theorem d212_206 : decode (pm_code 212) 206 = .ok (.aload_n 1, 1) := by decide +kernel
theorem d212_207 : decode (pm_code 212) 207 = .ok (.aload_n 0, 1) := by decide +kernel
theorem d212_208 : decode (pm_code 212) 208 = .ok (.iload_n 3, 1) := by decide +kernel
theorem d212_209 : decode (pm_code 212) 209 = .ok (.iconst 1, 1) := by decide +kernel
theorem d212_210 : decode (pm_code 212) 210 = .ok (.iadd, 1) := by decide +kernel
theorem d212_211 : decode (pm_code 212) 211 = .ok (.iaload, 1) := by decide +kernel
theorem d212_212 : decode (pm_code 212) 212 = .ok (.aload_n 0, 1) := by decide +kernel
theorem d212_213 : decode (pm_code 212) 213 = .ok (.iload_n 3, 1) := by decide +kernel
theorem d212_214 : decode (pm_code 212) 214 = .ok (.iconst 2, 1) := by decide +kernel
theorem d212_215 : decode (pm_code 212) 215 = .ok (.iadd, 1) := by decide +kernel
theorem d212_216 : decode (pm_code 212) 216 = .ok (.iaload, 1) := by decide +kernel
theorem d212_217 : decode (pm_code 212) 217 = .ok (.invokevirtual 33, 3) := by decide +kernel
theorem d212_220 : decode (pm_code 212) 220 = .ok (.aload_n 2, 1) := by decide +kernel
theorem d212_221 : decode (pm_code 212) 221 = .ok (.aload_n 0, 1) := by decide +kernel
theorem d212_222 : decode (pm_code 212) 222 = .ok (.iload_n 3, 1) := by decide +kernel
theorem d212_223 : decode (pm_code 212) 223 = .ok (.iconst 1, 1) := by decide +kernel
theorem d212_224 : decode (pm_code 212) 224 = .ok (.iadd, 1) := by decide +kernel
theorem d212_225 : decode (pm_code 212) 225 = .ok (.iaload, 1) := by decide +kernel
theorem d212_226 : decode (pm_code 212) 226 = .ok (.aload_n 0, 1) := by decide +kernel
theorem d212_227 : decode (pm_code 212) 227 = .ok (.iload_n 3, 1) := by decide +kernel
theorem d212_228 : decode (pm_code 212) 228 = .ok (.iconst 2, 1) := by decide +kernel
theorem d212_229 : decode (pm_code 212) 229 = .ok (.iadd, 1) := by decide +kernel
theorem d212_230 : decode (pm_code 212) 230 = .ok (.iaload, 1) := by decide +kernel
theorem d212_231 : decode (pm_code 212) 231 = .ok (.invokevirtual 36, 3) := by decide +kernel
theorem d212_234 : decode (pm_code 212) 234 = .ok (.if_icmp .eq 268, 3) := by decide +kernel
theorem d212_237 : decode (pm_code 212) 237 = .ok (.iconst 0, 1) := by decide +kernel
theorem d212_238 : decode (pm_code 212) 238 = .ok (.ireturn, 1) := by decide +kernel
theorem d212_239 : decode (pm_code 212) 239 = .ok (.aload_n 1, 1) := by decide +kernel
theorem d212_240 : decode (pm_code 212) 240 = .ok (.aload_n 0, 1) := by decide +kernel
theorem d212_241 : decode (pm_code 212) 241 = .ok (.iload_n 3, 1) := by decide +kernel
theorem d212_242 : decode (pm_code 212) 242 = .ok (.iconst 1, 1) := by decide +kernel
theorem d212_243 : decode (pm_code 212) 243 = .ok (.iadd, 1) := by decide +kernel
theorem d212_244 : decode (pm_code 212) 244 = .ok (.iaload, 1) := by decide +kernel
theorem d212_245 : decode (pm_code 212) 245 = .ok (.aload_n 0, 1) := by decide +kernel
theorem d212_246 : decode (pm_code 212) 246 = .ok (.iload_n 3, 1) := by decide +kernel
theorem d212_247 : decode (pm_code 212) 247 = .ok (.iconst 2, 1) := by decide +kernel
theorem d212_248 : decode (pm_code 212) 248 = .ok (.iadd, 1) := by decide +kernel
theorem d212_249 : decode (pm_code 212) 249 = .ok (.iaload, 1) := by decide +kernel
theorem d212_250 : decode (pm_code 212) 250 = .ok (.aload_n 0, 1) := by decide +kernel
theorem d212_251 : decode (pm_code 212) 251 = .ok (.iload_n 3, 1) := by decide +kernel
theorem d212_252 : decode (pm_code 212) 252 = .ok (.iconst 3, 1) := by decide +kernel
theorem d212_253 : decode (pm_code 212) 253 = .ok (.iadd, 1) := by decide +kernel
theorem d212_254 : decode (pm_code 212) 254 = .ok (.iaload, 1) := by decide +kernel
theorem d212_255 : decode (pm_code 212) 255 = .ok (.invokevirtual 37, 3) := by decide +kernel
theorem d212_258 : decode (pm_code 212) 258 = .ok (.aload_n 2, 1) := by decide +kernel
theorem d212_259 : decode (pm_code 212) 259 = .ok (.aload_n 0, 1) := by decide +kernel
theorem d212_260 : decode (pm_code 212) 260 = .ok (.iload_n 3, 1) := by decide +kernel
theorem d212_261 : decode (pm_code 212) 261 = .ok (.iconst 1, 1) := by decide +kernel
theorem d212_262 : decode (pm_code 212) 262 = .ok (.iadd, 1) := by decide +kernel
theorem d212_263 : decode (pm_code 212) 263 = .ok (.iaload, 1) := by decide +kernel
theorem d212_264 : decode (pm_code 212) 264 = .ok (.aload_n 0, 1) := by decide +kernel
theorem d212_265 : decode (pm_code 212) 265 = .ok (.iload_n 3, 1) := by decide +kernel
theorem d212_266 : decode (pm_code 212) 266 = .ok (.iconst 2, 1) := by decide +kernel
theorem d212_267 : decode (pm_code 212) 267 = .ok (.iadd, 1) := by decide +kernel
theorem d212_268 : decode (pm_code 212) 268 = .ok (.iaload, 1) := by decide +kernel
theorem d212_269 : decode (pm_code 212) 269 = .ok (.aload_n 0, 1) := by decide +kernel
theorem d212_270 : decode (pm_code 212) 270 = .ok (.iload_n 3, 1) := by decide +kernel
theorem d212_271 : decode (pm_code 212) 271 = .ok (.iconst 3, 1) := by decide +kernel
theorem d212_272 : decode (pm_code 212) 272 = .ok (.iadd, 1) := by decide +kernel
theorem d212_273 : decode (pm_code 212) 273 = .ok (.iaload, 1) := by decide +kernel
theorem d212_274 : decode (pm_code 212) 274 = .ok (.invokevirtual 41, 3) := by decide +kernel
theorem d212_277 : decode (pm_code 212) 277 = .ok (.if_icmp .eq 225, 3) := by decide +kernel
theorem d212_280 : decode (pm_code 212) 280 = .ok (.iconst 0, 1) := by decide +kernel
theorem d212_281 : decode (pm_code 212) 281 = .ok (.ireturn, 1) := by decide +kernel
theorem d212_282 : decode (pm_code 212) 282 = .ok (.aload_n 1, 1) := by decide +kernel
theorem d212_283 : decode (pm_code 212) 283 = .ok (.aload_n 0, 1) := by decide +kernel
theorem d212_284 : decode (pm_code 212) 284 = .ok (.iload_n 3, 1) := by decide +kernel
theorem d212_285 : decode (pm_code 212) 285 = .ok (.iconst 1, 1) := by decide +kernel
theorem d212_286 : decode (pm_code 212) 286 = .ok (.iadd, 1) := by decide +kernel
theorem d212_287 : decode (pm_code 212) 287 = .ok (.iaload, 1) := by decide +kernel
theorem d212_288 : decode (pm_code 212) 288 = .ok (.aload_n 0, 1) := by decide +kernel
theorem d212_289 : decode (pm_code 212) 289 = .ok (.iload_n 3, 1) := by decide +kernel
theorem d212_290 : decode (pm_code 212) 290 = .ok (.iconst 2, 1) := by decide +kernel
theorem d212_291 : decode (pm_code 212) 291 = .ok (.iadd, 1) := by decide +kernel
theorem d212_292 : decode (pm_code 212) 292 = .ok (.iaload, 1) := by decide +kernel
theorem d212_293 : decode (pm_code 212) 293 = .ok (.aload_n 0, 1) := by decide +kernel
theorem d212_294 : decode (pm_code 212) 294 = .ok (.iload_n 3, 1) := by decide +kernel
theorem d212_295 : decode (pm_code 212) 295 = .ok (.iconst 3, 1) := by decide +kernel
theorem d212_296 : decode (pm_code 212) 296 = .ok (.iadd, 1) := by decide +kernel
theorem d212_297 : decode (pm_code 212) 297 = .ok (.iaload, 1) := by decide +kernel
theorem d212_298 : decode (pm_code 212) 298 = .ok (.invokevirtual 42, 3) := by decide +kernel
theorem d212_301 : decode (pm_code 212) 301 = .ok (.aload_n 2, 1) := by decide +kernel
theorem d212_302 : decode (pm_code 212) 302 = .ok (.aload_n 0, 1) := by decide +kernel
theorem d212_303 : decode (pm_code 212) 303 = .ok (.iload_n 3, 1) := by decide +kernel
theorem d212_304 : decode (pm_code 212) 304 = .ok (.iconst 1, 1) := by decide +kernel
theorem d212_305 : decode (pm_code 212) 305 = .ok (.iadd, 1) := by decide +kernel
theorem d212_306 : decode (pm_code 212) 306 = .ok (.iaload, 1) := by decide +kernel
theorem d212_307 : decode (pm_code 212) 307 = .ok (.aload_n 0, 1) := by decide +kernel
theorem d212_308 : decode (pm_code 212) 308 = .ok (.iload_n 3, 1) := by decide +kernel
theorem d212_309 : decode (pm_code 212) 309 = .ok (.iconst 2, 1) := by decide +kernel
theorem d212_310 : decode (pm_code 212) 310 = .ok (.iadd, 1) := by decide +kernel
theorem d212_311 : decode (pm_code 212) 311 = .ok (.iaload, 1) := by decide +kernel
theorem d212_312 : decode (pm_code 212) 312 = .ok (.aload_n 0, 1) := by decide +kernel
theorem d212_313 : decode (pm_code 212) 313 = .ok (.iload_n 3, 1) := by decide +kernel
theorem d212_314 : decode (pm_code 212) 314 = .ok (.iconst 3, 1) := by decide +kernel
theorem d212_315 : decode (pm_code 212) 315 = .ok (.iadd, 1) := by decide +kernel
theorem d212_316 : decode (pm_code 212) 316 = .ok (.iaload, 1) := by decide +kernel
theorem d212_317 : decode (pm_code 212) 317 = .ok (.invokevirtual 45, 3) := by decide +kernel
theorem d212_320 : decode (pm_code 212) 320 = .ok (.if_icmp .eq 182, 3) := by decide +kernel
theorem d212_323 : decode (pm_code 212) 323 = .ok (.iconst 0, 1) := by decide +kernel
theorem d212_324 : decode (pm_code 212) 324 = .ok (.ireturn, 1) := by decide +kernel
theorem d212_325 : decode (pm_code 212) 325 = .ok (.aload_n 1, 1) := by decide +kernel
theorem d212_326 : decode (pm_code 212) 326 = .ok (.aload_n 0, 1) := by decide +kernel
theorem d212_327 : decode (pm_code 212) 327 = .ok (.iload_n 3, 1) := by decide +kernel
theorem d212_328 : decode (pm_code 212) 328 = .ok (.iconst 1, 1) := by decide +kernel
theorem d212_329 : decode (pm_code 212) 329 = .ok (.iadd, 1) := by decide +kernel
theorem d212_330 : decode (pm_code 212) 330 = .ok (.iaload, 1) := by decide +kernel
theorem d212_331 : decode (pm_code 212) 331 = .ok (.invokevirtual 46, 3) := by decide +kernel
theorem d212_334 : decode (pm_code 212) 334 = .ok (.aload_n 2, 1) := by decide +kernel
theorem d212_335 : decode (pm_code 212) 335 = .ok (.aload_n 0, 1) := by decide +kernel
theorem d212_336 : decode (pm_code 212) 336 = .ok (.iload_n 3, 1) := by decide +kernel
theorem d212_337 : decode (pm_code 212) 337 = .ok (.iconst 1, 1) := by decide +kernel
theorem d212_338 : decode (pm_code 212) 338 = .ok (.iadd, 1) := by decide +kernel
theorem d212_339 : decode (pm_code 212) 339 = .ok (.iaload, 1) := by decide +kernel
theorem d212_340 : decode (pm_code 212) 340 = .ok (.invokevirtual 49, 3) := by decide +kernel
theorem d212_343 : decode (pm_code 212) 343 = .ok (.if_icmp .eq 159, 3) := by decide +kernel
theorem d212_346 : decode (pm_code 212) 346 = .ok (.iconst 0, 1) := by decide +kernel
theorem d212_347 : decode (pm_code 212) 347 = .ok (.ireturn, 1) := by decide +kernel
theorem d212_348 : decode (pm_code 212) 348 = .ok (.aload_n 1, 1) := by decide +kernel
theorem d212_349 : decode (pm_code 212) 349 = .ok (.aload_n 0, 1) := by decide +kernel
theorem d212_350 : decode (pm_code 212) 350 = .ok (.iload_n 3, 1) := by decide +kernel
theorem d212_351 : decode (pm_code 212) 351 = .ok (.iconst 1, 1) := by decide +kernel
theorem d212_352 : decode (pm_code 212) 352 = .ok (.iadd, 1) := by decide +kernel
theorem d212_353 : decode (pm_code 212) 353 = .ok (.iaload, 1) := by decide +kernel
theorem d212_354 : decode (pm_code 212) 354 = .ok (.invokevirtual 50, 3) := by decide +kernel
theorem d212_357 : decode (pm_code 212) 357 = .ok (.aload_n 2, 1) := by decide +kernel
theorem d212_358 : decode (pm_code 212) 358 = .ok (.aload_n 0, 1) := by decide +kernel
theorem d212_359 : decode (pm_code 212) 359 = .ok (.iload_n 3, 1) := by decide +kernel
theorem d212_360 : decode (pm_code 212) 360 = .ok (.iconst 1, 1) := by decide +kernel
theorem d212_361 : decode (pm_code 212) 361 = .ok (.iadd, 1) := by decide +kernel
theorem d212_362 : decode (pm_code 212) 362 = .ok (.iaload, 1) := by decide +kernel
theorem d212_363 : decode (pm_code 212) 363 = .ok (.invokevirtual 53, 3) := by decide +kernel
theorem d212_366 : decode (pm_code 212) 366 = .ok (.if_icmp .eq 136, 3) := by decide +kernel
theorem d212_369 : decode (pm_code 212) 369 = .ok (.iconst 0, 1) := by decide +kernel
theorem d212_370 : decode (pm_code 212) 370 = .ok (.ireturn, 1) := by decide +kernel
theorem d212_371 : decode (pm_code 212) 371 = .ok (.aload_n 1, 1) := by decide +kernel
theorem d212_372 : decode (pm_code 212) 372 = .ok (.aload_n 0, 1) := by decide +kernel
theorem d212_373 : decode (pm_code 212) 373 = .ok (.iload_n 3, 1) := by decide +kernel
theorem d212_374 : decode (pm_code 212) 374 = .ok (.iconst 1, 1) := by decide +kernel
theorem d212_375 : decode (pm_code 212) 375 = .ok (.iadd, 1) := by decide +kernel
theorem d212_376 : decode (pm_code 212) 376 = .ok (.iaload, 1) := by decide +kernel
theorem d212_377 : decode (pm_code 212) 377 = .ok (.invokevirtual 54, 3) := by decide +kernel
theorem d212_380 : decode (pm_code 212) 380 = .ok (.aload_n 2, 1) := by decide +kernel
theorem d212_381 : decode (pm_code 212) 381 = .ok (.aload_n 0, 1) := by decide +kernel
theorem d212_382 : decode (pm_code 212) 382 = .ok (.iload_n 3, 1) := by decide +kernel
theorem d212_383 : decode (pm_code 212) 383 = .ok (.iconst 1, 1) := by decide +kernel
theorem d212_384 : decode (pm_code 212) 384 = .ok (.iadd, 1) := by decide +kernel
theorem d212_385 : decode (pm_code 212) 385 = .ok (.iaload, 1) := by decide +kernel
theorem d212_386 : decode (pm_code 212) 386 = .ok (.invokevirtual 57, 3) := by decide +kernel
theorem d212_389 : decode (pm_code 212) 389 = .ok (.if_icmp .eq 113, 3) := by decide +kernel
theorem d212_392 : decode (pm_code 212) 392 = .ok (.iconst 0, 1) := by decide +kernel
theorem d212_393 : decode (pm_code 212) 393 = .ok (.ireturn, 1) := by decide +kernel
theorem d212_394 : decode (pm_code 212) 394 = .ok (.aload_n 1, 1) := by decide +kernel
theorem d212_395 : decode (pm_code 212) 395 = .ok (.aload_n 0, 1) := by decide +kernel
theorem d212_396 : decode (pm_code 212) 396 = .ok (.iload_n 3, 1) := by decide +kernel
theorem d212_397 : decode (pm_code 212) 397 = .ok (.iconst 1, 1) := by decide +kernel
theorem d212_398 : decode (pm_code 212) 398 = .ok (.iadd, 1) := by decide +kernel
theorem d212_399 : decode (pm_code 212) 399 = .ok (.iaload, 1) := by decide +kernel
theorem d212_400 : decode (pm_code 212) 400 = .ok (.invokevirtual 58, 3) := by decide +kernel
theorem d212_403 : decode (pm_code 212) 403 = .ok (.aload_n 2, 1) := by decide +kernel
theorem d212_404 : decode (pm_code 212) 404 = .ok (.aload_n 0, 1) := by decide +kernel
theorem d212_405 : decode (pm_code 212) 405 = .ok (.iload_n 3, 1) := by decide +kernel
theorem d212_406 : decode (pm_code 212) 406 = .ok (.iconst 1, 1) := by decide +kernel
theorem d212_407 : decode (pm_code 212) 407 = .ok (.iadd, 1) := by decide +kernel
theorem d212_408 : decode (pm_code 212) 408 = .ok (.iaload, 1) := by decide +kernel
theorem d212_409 : decode (pm_code 212) 409 = .ok (.invokevirtual 61, 3) := by decide +kernel
theorem d212_412 : decode (pm_code 212) 412 = .ok (.if_icmp .eq 90, 3) := by decide +kernel
theorem d212_415 : decode (pm_code 212) 415 = .ok (.iconst 0, 1) := by decide +kernel
theorem d212_416 : decode (pm_code 212) 416 = .ok (.ireturn, 1) := by decide +kernel
theorem d212_417 : decode (pm_code 212) 417 = .ok (.aload_n 1, 1) := by decide +kernel
theorem d212_418 : decode (pm_code 212) 418 = .ok (.aload_n 0, 1) := by decide +kernel
theorem d212_419 : decode (pm_code 212) 419 = .ok (.iload_n 3, 1) := by decide +kernel
theorem d212_420 : decode (pm_code 212) 420 = .ok (.iconst 1, 1) := by decide +kernel
theorem d212_421 : decode (pm_code 212) 421 = .ok (.iadd, 1) := by decide +kernel
theorem d212_422 : decode (pm_code 212) 422 = .ok (.iaload, 1) := by decide +kernel
theorem d212_423 : decode (pm_code 212) 423 = .ok (.invokevirtual 62, 3) := by decide +kernel
theorem d212_426 : decode (pm_code 212) 426 = .ok (.aload_n 2, 1) := by decide +kernel
theorem d212_427 : decode (pm_code 212) 427 = .ok (.aload_n 0, 1) := by decide +kernel
theorem d212_428 : decode (pm_code 212) 428 = .ok (.iload_n 3, 1) := by decide +kernel
theorem d212_429 : decode (pm_code 212) 429 = .ok (.iconst 1, 1) := by decide +kernel
theorem d212_430 : decode (pm_code 212) 430 = .ok (.iadd, 1) := by decide +kernel
theorem d212_431 : decode (pm_code 212) 431 = .ok (.iaload, 1) := by decide +kernel
theorem d212_432 : decode (pm_code 212) 432 = .ok (.invokevirtual 66, 3) := by decide +kernel
theorem d212_435 : decode (pm_code 212) 435 = .ok (.if_icmp .eq 67, 3) := by decide +kernel
theorem d212_438 : decode (pm_code 212) 438 = .ok (.iconst 0, 1) := by decide +kernel
theorem d212_439 : decode (pm_code 212) 439 = .ok (.ireturn, 1) := by decide +kernel
theorem d212_440 : decode (pm_code 212) 440 = .ok (.aload_n 1, 1) := by decide +kernel
theorem d212_441 : decode (pm_code 212) 441 = .ok (.invokevirtual 67, 3) := by decide +kernel
theorem d212_444 : decode (pm_code 212) 444 = .ok (.aload_n 2, 1) := by decide +kernel
theorem d212_445 : decode (pm_code 212) 445 = .ok (.invokevirtual 71, 3) := by decide +kernel
theorem d212_448 : decode (pm_code 212) 448 = .ok (.if_icmp .eq 54, 3) := by decide +kernel
theorem d212_451 : decode (pm_code 212) 451 = .ok (.iconst 0, 1) := by decide +kernel
theorem d212_452 : decode (pm_code 212) 452 = .ok (.ireturn, 1) := by decide +kernel
theorem d212_453 : decode (pm_code 212) 453 = .ok (.aload_n 1, 1) := by decide +kernel
theorem d212_454 : decode (pm_code 212) 454 = .ok (.aload_n 0, 1) := by decide +kernel
theorem d212_455 : decode (pm_code 212) 455 = .ok (.iload_n 3, 1) := by decide +kernel
theorem d212_456 : decode (pm_code 212) 456 = .ok (.iconst 1, 1) := by decide +kernel
theorem d212_457 : decode (pm_code 212) 457 = .ok (.iadd, 1) := by decide +kernel
theorem d212_458 : decode (pm_code 212) 458 = .ok (.iaload, 1) := by decide +kernel
theorem d212_459 : decode (pm_code 212) 459 = .ok (.invokevirtual 72, 3) := by decide +kernel
theorem d212_462 : decode (pm_code 212) 462 = .ok (.aload_n 2, 1) := by decide +kernel
theorem d212_463 : decode (pm_code 212) 463 = .ok (.aload_n 0, 1) := by decide +kernel
theorem d212_464 : decode (pm_code 212) 464 = .ok (.iload_n 3, 1) := by decide +kernel
theorem d212_465 : decode (pm_code 212) 465 = .ok (.iconst 1, 1) := by decide +kernel
theorem d212_466 : decode (pm_code 212) 466 = .ok (.iadd, 1) := by decide +kernel
theorem d212_467 : decode (pm_code 212) 467 = .ok (.iaload, 1) := by decide +kernel
theorem d212_468 : decode (pm_code 212) 468 = .ok (.invokevirtual 75, 3) := by decide +kernel
theorem d212_471 : decode (pm_code 212) 471 = .ok (.if_icmp .eq 31, 3) := by decide +kernel
theorem d212_474 : decode (pm_code 212) 474 = .ok (.iconst 0, 1) := by decide +kernel
theorem d212_475 : decode (pm_code 212) 475 = .ok (.ireturn, 1) := by decide +kernel
theorem d212_476 : decode (pm_code 212) 476 = .ok (.aload_n 1, 1) := by decide +kernel
theorem d212_477 : decode (pm_code 212) 477 = .ok (.invokevirtual 76, 3) := by decide +kernel
theorem d212_480 : decode (pm_code 212) 480 = .ok (.aload_n 2, 1) := by decide +kernel
theorem d212_481 : decode (pm_code 212) 481 = .ok (.invokevirtual 79, 3) := by decide +kernel
theorem d212_484 : decode (pm_code 212) 484 = .ok (.if_icmp .eq 18, 3) := by decide +kernel
theorem d212_487 : decode (pm_code 212) 487 = .ok (.iconst 0, 1) := by decide +kernel
theorem d212_488 : decode (pm_code 212) 488 = .ok (.ireturn, 1) := by decide +kernel
theorem d212_489 : decode (pm_code 212) 489 = .ok (.aload_n 1, 1) := by decide +kernel
theorem d212_490 : decode (pm_code 212) 490 = .ok (.invokevirtual 80, 3) := by decide +kernel
theorem d212_493 : decode (pm_code 212) 493 = .ok (.aload_n 2, 1) := by decide +kernel
theorem d212_494 : decode (pm_code 212) 494 = .ok (.invokevirtual 83, 3) := by decide +kernel
theorem d212_497 : decode (pm_code 212) 497 = .ok (.if_icmp .eq 5, 3) := by decide +kernel
theorem d212_500 : decode (pm_code 212) 500 = .ok (.iconst 0, 1) := by decide +kernel
theorem d212_501 : decode (pm_code 212) 501 = .ok (.ireturn, 1) := by decide +kernel
theorem d212_502 : decode (pm_code 212) 502 = .ok (.iinc 3 4, 3) := by decide +kernel
theorem d212_505 : decode (pm_code 212) 505 = .ok (.goto (-487), 3) := by decide +kernel
theorem d212_508 : decode (pm_code 212) 508 = .ok (.iconst 1, 1) := by decide +kernel
theorem d212_509 : decode (pm_code 212) 509 = .ok (.ireturn, 1) := by decide +kernel
