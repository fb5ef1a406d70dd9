/-! DECODE ROWS (by program) of methods 173 to 194. -/
theorem d173_0 : decode (pm_code 173) 0 = .ok (.aload_n 0, 1) := by decide +kernel
theorem d173_1 : decode (pm_code 173) 1 = .ok (.iload_n 1, 1) := by decide +kernel
theorem d173_2 : decode (pm_code 173) 2 = .ok (.invokevirtual 269, 3) := by decide +kernel
theorem d173_5 : decode (pm_code 173) 5 = .ok (.ifCond .ne 6, 3) := by decide +kernel
theorem d173_8 : decode (pm_code 173) 8 = .ok (.bipush (-2), 2) := by decide +kernel
theorem d173_10 : decode (pm_code 173) 10 = .ok (.ireturn, 1) := by decide +kernel
theorem d173_11 : decode (pm_code 173) 11 = .ok (.aload_n 0, 1) := by decide +kernel
theorem d173_12 : decode (pm_code 173) 12 = .ok (.sipush 200, 3) := by decide +kernel
theorem d173_15 : decode (pm_code 173) 15 = .ok (.invokevirtual 273, 3) := by decide +kernel
theorem d173_18 : decode (pm_code 173) 18 = .ok (.istore_n 2, 1) := by decide +kernel
theorem d173_19 : decode (pm_code 173) 19 = .ok (.aload_n 0, 1) := by decide +kernel
theorem d173_20 : decode (pm_code 173) 20 = .ok (.iconst 0, 1) := by decide +kernel
theorem d173_21 : decode (pm_code 173) 21 = .ok (.putfield 144, 3) := by decide +kernel
theorem d173_24 : decode (pm_code 173) 24 = .ok (.iload_n 2, 1) := by decide +kernel
theorem d173_25 : decode (pm_code 173) 25 = .ok (.ifCond .lt 5, 3) := by decide +kernel
theorem d173_28 : decode (pm_code 173) 28 = .ok (.iload_n 2, 1) := by decide +kernel
theorem d173_29 : decode (pm_code 173) 29 = .ok (.ireturn, 1) := by decide +kernel
theorem d173_30 : decode (pm_code 173) 30 = .ok (.aload_n 0, 1) := by decide +kernel
theorem d173_31 : decode (pm_code 173) 31 = .ok (.invokevirtual 276, 3) := by decide +kernel
theorem d173_34 : decode (pm_code 173) 34 = .ok (.ifCond .ne 6, 3) := by decide +kernel
theorem d173_37 : decode (pm_code 173) 37 = .ok (.bipush (-2), 2) := by decide +kernel
theorem d173_39 : decode (pm_code 173) 39 = .ok (.ireturn, 1) := by decide +kernel
theorem d173_40 : decode (pm_code 173) 40 = .ok (.aload_n 0, 1) := by decide +kernel
theorem d173_41 : decode (pm_code 173) 41 = .ok (.bipush 64, 2) := by decide +kernel
theorem d173_43 : decode (pm_code 173) 43 = .ok (.iload_n 1, 1) := by decide +kernel
theorem d173_44 : decode (pm_code 173) 44 = .ok (.invokevirtual 280, 3) := by decide +kernel
theorem d173_47 : decode (pm_code 173) 47 = .ok (.aload_n 0, 1) := by decide +kernel
theorem d173_48 : decode (pm_code 173) 48 = .ok (.getfield 55, 3) := by decide +kernel
theorem d173_51 : decode (pm_code 173) 51 = .ok (.iload_n 1, 1) := by decide +kernel
theorem d173_52 : decode (pm_code 173) 52 = .ok (.iconst 1, 1) := by decide +kernel
theorem d173_53 : decode (pm_code 173) 53 = .ok (.bastore, 1) := by decide +kernel
theorem d173_54 : decode (pm_code 173) 54 = .ok (.iconst (-1), 1) := by decide +kernel
theorem d173_55 : decode (pm_code 173) 55 = .ok (.ireturn, 1) := by decide +kernel
theorem d174_0 : decode (pm_code 174) 0 = .ok (.aload_n 0, 1) := by decide +kernel
theorem d174_1 : decode (pm_code 174) 1 = .ok (.aload_n 0, 1) := by decide +kernel
theorem d174_2 : decode (pm_code 174) 2 = .ok (.getfield 150, 3) := by decide +kernel
theorem d174_5 : decode (pm_code 174) 5 = .ok (.bipush 64, 2) := by decide +kernel
theorem d174_7 : decode (pm_code 174) 7 = .ok (.isub, 1) := by decide +kernel
theorem d174_8 : decode (pm_code 174) 8 = .ok (.putfield 283, 3) := by decide +kernel
theorem d174_11 : decode (pm_code 174) 11 = .ok (.aload_n 0, 1) := by decide +kernel
theorem d174_12 : decode (pm_code 174) 12 = .ok (.aload_n 0, 1) := by decide +kernel
theorem d174_13 : decode (pm_code 174) 13 = .ok (.getfield 153, 3) := by decide +kernel
theorem d174_16 : decode (pm_code 174) 16 = .ok (.bipush 64, 2) := by decide +kernel
theorem d174_18 : decode (pm_code 174) 18 = .ok (.isub, 1) := by decide +kernel
theorem d174_19 : decode (pm_code 174) 19 = .ok (.putfield 286, 3) := by decide +kernel
theorem d174_22 : decode (pm_code 174) 22 = .ok (.iconst 0, 1) := by decide +kernel
theorem d174_23 : decode (pm_code 174) 23 = .ok (.istore_n 1, 1) := by decide +kernel
theorem d174_24 : decode (pm_code 174) 24 = .ok (.iload_n 1, 1) := by decide +kernel
theorem d174_25 : decode (pm_code 174) 25 = .ok (.aload_n 0, 1) := by decide +kernel
theorem d174_26 : decode (pm_code 174) 26 = .ok (.getfield 283, 3) := by decide +kernel
theorem d174_29 : decode (pm_code 174) 29 = .ok (.if_icmp .ge 106, 3) := by decide +kernel
theorem d174_32 : decode (pm_code 174) 32 = .ok (.aload_n 0, 1) := by decide +kernel
theorem d174_33 : decode (pm_code 174) 33 = .ok (.getfield 16, 3) := by decide +kernel
theorem d174_36 : decode (pm_code 174) 36 = .ok (.iload_n 1, 1) := by decide +kernel
theorem d174_37 : decode (pm_code 174) 37 = .ok (.aload_n 0, 1) := by decide +kernel
theorem d174_38 : decode (pm_code 174) 38 = .ok (.getfield 16, 3) := by decide +kernel
theorem d174_41 : decode (pm_code 174) 41 = .ok (.bipush 64, 2) := by decide +kernel
theorem d174_43 : decode (pm_code 174) 43 = .ok (.iload_n 1, 1) := by decide +kernel
theorem d174_44 : decode (pm_code 174) 44 = .ok (.iadd, 1) := by decide +kernel
theorem d174_45 : decode (pm_code 174) 45 = .ok (.iaload, 1) := by decide +kernel
theorem d174_46 : decode (pm_code 174) 46 = .ok (.iastore, 1) := by decide +kernel
theorem d174_47 : decode (pm_code 174) 47 = .ok (.aload_n 0, 1) := by decide +kernel
theorem d174_48 : decode (pm_code 174) 48 = .ok (.getfield 19, 3) := by decide +kernel
theorem d174_51 : decode (pm_code 174) 51 = .ok (.iload_n 1, 1) := by decide +kernel
theorem d174_52 : decode (pm_code 174) 52 = .ok (.aload_n 0, 1) := by decide +kernel
theorem d174_53 : decode (pm_code 174) 53 = .ok (.getfield 19, 3) := by decide +kernel
theorem d174_56 : decode (pm_code 174) 56 = .ok (.bipush 64, 2) := by decide +kernel
theorem d174_58 : decode (pm_code 174) 58 = .ok (.iload_n 1, 1) := by decide +kernel
theorem d174_59 : decode (pm_code 174) 59 = .ok (.iadd, 1) := by decide +kernel
theorem d174_60 : decode (pm_code 174) 60 = .ok (.iaload, 1) := by decide +kernel
theorem d174_61 : decode (pm_code 174) 61 = .ok (.iastore, 1) := by decide +kernel
theorem d174_62 : decode (pm_code 174) 62 = .ok (.aload_n 0, 1) := by decide +kernel
theorem d174_63 : decode (pm_code 174) 63 = .ok (.getfield 22, 3) := by decide +kernel
theorem d174_66 : decode (pm_code 174) 66 = .ok (.iload_n 1, 1) := by decide +kernel
theorem d174_67 : decode (pm_code 174) 67 = .ok (.aload_n 0, 1) := by decide +kernel
theorem d174_68 : decode (pm_code 174) 68 = .ok (.getfield 22, 3) := by decide +kernel
theorem d174_71 : decode (pm_code 174) 71 = .ok (.bipush 64, 2) := by decide +kernel
theorem d174_73 : decode (pm_code 174) 73 = .ok (.iload_n 1, 1) := by decide +kernel
theorem d174_74 : decode (pm_code 174) 74 = .ok (.iadd, 1) := by decide +kernel
theorem d174_75 : decode (pm_code 174) 75 = .ok (.iaload, 1) := by decide +kernel
theorem d174_76 : decode (pm_code 174) 76 = .ok (.iastore, 1) := by decide +kernel
theorem d174_77 : decode (pm_code 174) 77 = .ok (.aload_n 0, 1) := by decide +kernel
theorem d174_78 : decode (pm_code 174) 78 = .ok (.getfield 25, 3) := by decide +kernel
theorem d174_81 : decode (pm_code 174) 81 = .ok (.iload_n 1, 1) := by decide +kernel
theorem d174_82 : decode (pm_code 174) 82 = .ok (.aload_n 0, 1) := by decide +kernel
theorem d174_83 : decode (pm_code 174) 83 = .ok (.getfield 25, 3) := by decide +kernel
theorem d174_86 : decode (pm_code 174) 86 = .ok (.bipush 64, 2) := by decide +kernel
theorem d174_88 : decode (pm_code 174) 88 = .ok (.iload_n 1, 1) := by decide +kernel
theorem d174_89 : decode (pm_code 174) 89 = .ok (.iadd, 1) := by decide +kernel
theorem d174_90 : decode (pm_code 174) 90 = .ok (.iaload, 1) := by decide +kernel
theorem d174_91 : decode (pm_code 174) 91 = .ok (.ifCond .ge 7, 3) := by decide +kernel
theorem d174_94 : decode (pm_code 174) 94 = .ok (.iconst (-1), 1) := by decide +kernel
theorem d174_95 : decode (pm_code 174) 95 = .ok (.goto 15, 3) := by decide +kernel
theorem d174_98 : decode (pm_code 174) 98 = .ok (.aload_n 0, 1) := by decide +kernel
theorem d174_99 : decode (pm_code 174) 99 = .ok (.getfield 25, 3) := by decide +kernel
theorem d174_102 : decode (pm_code 174) 102 = .ok (.bipush 64, 2) := by decide +kernel
theorem d174_104 : decode (pm_code 174) 104 = .ok (.iload_n 1, 1) := by decide +kernel
theorem d174_105 : decode (pm_code 174) 105 = .ok (.iadd, 1) := by decide +kernel
theorem d174_106 : decode (pm_code 174) 106 = .ok (.iaload, 1) := by decide +kernel
theorem d174_107 : decode (pm_code 174) 107 = .ok (.bipush 64, 2) := by decide +kernel
theorem d174_109 : decode (pm_code 174) 109 = .ok (.isub, 1) := by decide +kernel
theorem d174_110 : decode (pm_code 174) 110 = .ok (.iastore, 1) := by decide +kernel
theorem d174_111 : decode (pm_code 174) 111 = .ok (.aload_n 0, 1) := by decide +kernel
theorem d174_112 : decode (pm_code 174) 112 = .ok (.getfield 28, 3) := by decide +kernel
theorem d174_115 : decode (pm_code 174) 115 = .ok (.iload_n 1, 1) := by decide +kernel
theorem d174_116 : decode (pm_code 174) 116 = .ok (.aload_n 0, 1) := by decide +kernel
theorem d174_117 : decode (pm_code 174) 117 = .ok (.getfield 28, 3) := by decide +kernel
theorem d174_120 : decode (pm_code 174) 120 = .ok (.bipush 64, 2) := by decide +kernel
theorem d174_122 : decode (pm_code 174) 122 = .ok (.iload_n 1, 1) := by decide +kernel
theorem d174_123 : decode (pm_code 174) 123 = .ok (.iadd, 1) := by decide +kernel
theorem d174_124 : decode (pm_code 174) 124 = .ok (.iaload, 1) := by decide +kernel
theorem d174_125 : decode (pm_code 174) 125 = .ok (.bipush 64, 2) := by decide +kernel
theorem d174_127 : decode (pm_code 174) 127 = .ok (.isub, 1) := by decide +kernel
theorem d174_128 : decode (pm_code 174) 128 = .ok (.iastore, 1) := by decide +kernel
theorem d174_129 : decode (pm_code 174) 129 = .ok (.iinc 1 1, 3) := by decide +kernel
theorem d174_132 : decode (pm_code 174) 132 = .ok (.goto (-108), 3) := by decide +kernel
theorem d174_135 : decode (pm_code 174) 135 = .ok (.iconst 0, 1) := by decide +kernel
theorem d174_136 : decode (pm_code 174) 136 = .ok (.istore_n 1, 1) := by decide +kernel
theorem d174_137 : decode (pm_code 174) 137 = .ok (.iload_n 1, 1) := by decide +kernel
theorem d174_138 : decode (pm_code 174) 138 = .ok (.aload_n 0, 1) := by decide +kernel
theorem d174_139 : decode (pm_code 174) 139 = .ok (.getfield 286, 3) := by decide +kernel
theorem d174_142 : decode (pm_code 174) 142 = .ok (.if_icmp .ge 91, 3) := by decide +kernel
theorem d174_145 : decode (pm_code 174) 145 = .ok (.aload_n 0, 1) := by decide +kernel
theorem d174_146 : decode (pm_code 174) 146 = .ok (.getfield 31, 3) := by decide +kernel
theorem d174_149 : decode (pm_code 174) 149 = .ok (.iload_n 1, 1) := by decide +kernel
theorem d174_150 : decode (pm_code 174) 150 = .ok (.aload_n 0, 1) := by decide +kernel
theorem d174_151 : decode (pm_code 174) 151 = .ok (.getfield 31, 3) := by decide +kernel
theorem d174_154 : decode (pm_code 174) 154 = .ok (.bipush 64, 2) := by decide +kernel
theorem d174_156 : decode (pm_code 174) 156 = .ok (.iload_n 1, 1) := by decide +kernel
theorem d174_157 : decode (pm_code 174) 157 = .ok (.iadd, 1) := by decide +kernel
theorem d174_158 : decode (pm_code 174) 158 = .ok (.iaload, 1) := by decide +kernel
theorem d174_159 : decode (pm_code 174) 159 = .ok (.ifCond .ge 7, 3) := by decide +kernel
theorem d174_162 : decode (pm_code 174) 162 = .ok (.iconst (-1), 1) := by decide +kernel
theorem d174_163 : decode (pm_code 174) 163 = .ok (.goto 15, 3) := by decide +kernel
theorem d174_166 : decode (pm_code 174) 166 = .ok (.aload_n 0, 1) := by decide +kernel
theorem d174_167 : decode (pm_code 174) 167 = .ok (.getfield 31, 3) := by decide +kernel
theorem d174_170 : decode (pm_code 174) 170 = .ok (.bipush 64, 2) := by decide +kernel
theorem d174_172 : decode (pm_code 174) 172 = .ok (.iload_n 1, 1) := by decide +kernel
theorem d174_173 : decode (pm_code 174) 173 = .ok (.iadd, 1) := by decide +kernel
theorem d174_174 : decode (pm_code 174) 174 = .ok (.iaload, 1) := by decide +kernel
theorem d174_175 : decode (pm_code 174) 175 = .ok (.bipush 64, 2) := by decide +kernel
theorem d174_177 : decode (pm_code 174) 177 = .ok (.isub, 1) := by decide +kernel
theorem d174_178 : decode (pm_code 174) 178 = .ok (.iastore, 1) := by decide +kernel
theorem d174_179 : decode (pm_code 174) 179 = .ok (.aload_n 0, 1) := by decide +kernel
theorem d174_180 : decode (pm_code 174) 180 = .ok (.getfield 34, 3) := by decide +kernel
theorem d174_183 : decode (pm_code 174) 183 = .ok (.iload_n 1, 1) := by decide +kernel
theorem d174_184 : decode (pm_code 174) 184 = .ok (.aload_n 0, 1) := by decide +kernel
theorem d174_185 : decode (pm_code 174) 185 = .ok (.getfield 34, 3) := by decide +kernel
theorem d174_188 : decode (pm_code 174) 188 = .ok (.bipush 64, 2) := by decide +kernel
theorem d174_190 : decode (pm_code 174) 190 = .ok (.iload_n 1, 1) := by decide +kernel
theorem d174_191 : decode (pm_code 174) 191 = .ok (.iadd, 1) := by decide +kernel
theorem d174_192 : decode (pm_code 174) 192 = .ok (.iaload, 1) := by decide +kernel
theorem d174_193 : decode (pm_code 174) 193 = .ok (.iastore, 1) := by decide +kernel
theorem d174_194 : decode (pm_code 174) 194 = .ok (.aload_n 0, 1) := by decide +kernel
theorem d174_195 : decode (pm_code 174) 195 = .ok (.getfield 37, 3) := by decide +kernel
theorem d174_198 : decode (pm_code 174) 198 = .ok (.iload_n 1, 1) := by decide +kernel
theorem d174_199 : decode (pm_code 174) 199 = .ok (.aload_n 0, 1) := by decide +kernel
theorem d174_200 : decode (pm_code 174) 200 = .ok (.getfield 37, 3) := by decide +kernel
theorem d174_203 : decode (pm_code 174) 203 = .ok (.bipush 64, 2) := by decide +kernel
theorem d174_205 : decode (pm_code 174) 205 = .ok (.iload_n 1, 1) := by decide +kernel
theorem d174_206 : decode (pm_code 174) 206 = .ok (.iadd, 1) := by decide +kernel
theorem d174_207 : decode (pm_code 174) 207 = .ok (.iaload, 1) := by decide +kernel
theorem d174_208 : decode (pm_code 174) 208 = .ok (.iastore, 1) := by decide +kernel
theorem d174_209 : decode (pm_code 174) 209 = .ok (.aload_n 0, 1) := by decide +kernel
theorem d174_210 : decode (pm_code 174) 210 = .ok (.getfield 40, 3) := by decide +kernel
theorem d174_213 : decode (pm_code 174) 213 = .ok (.iload_n 1, 1) := by decide +kernel
theorem d174_214 : decode (pm_code 174) 214 = .ok (.aload_n 0, 1) := by decide +kernel
theorem d174_215 : decode (pm_code 174) 215 = .ok (.getfield 40, 3) := by decide +kernel
theorem d174_218 : decode (pm_code 174) 218 = .ok (.bipush 64, 2) := by decide +kernel
theorem d174_220 : decode (pm_code 174) 220 = .ok (.iload_n 1, 1) := by decide +kernel
theorem d174_221 : decode (pm_code 174) 221 = .ok (.iadd, 1) := by decide +kernel
theorem d174_222 : decode (pm_code 174) 222 = .ok (.iaload, 1) := by decide +kernel
theorem d174_223 : decode (pm_code 174) 223 = .ok (.bipush 64, 2) := by decide +kernel
theorem d174_225 : decode (pm_code 174) 225 = .ok (.isub, 1) := by decide +kernel
theorem d174_226 : decode (pm_code 174) 226 = .ok (.iastore, 1) := by decide +kernel
theorem d174_227 : decode (pm_code 174) 227 = .ok (.iinc 1 1, 3) := by decide +kernel
theorem d174_230 : decode (pm_code 174) 230 = .ok (.goto (-93), 3) := by decide +kernel
theorem d174_233 : decode (pm_code 174) 233 = .ok (.return_, 1) := by decide +kernel
theorem d175_0 : decode (pm_code 175) 0 = .ok (.aload_n 0, 1) := by decide +kernel
theorem d175_1 : decode (pm_code 175) 1 = .ok (.sipush 201, 3) := by decide +kernel
theorem d175_4 : decode (pm_code 175) 4 = .ok (.invokevirtual 273, 3) := by decide +kernel
theorem d175_7 : decode (pm_code 175) 7 = .ok (.istore_n 1, 1) := by decide +kernel
theorem d175_8 : decode (pm_code 175) 8 = .ok (.aload_n 0, 1) := by decide +kernel
theorem d175_9 : decode (pm_code 175) 9 = .ok (.iconst 0, 1) := by decide +kernel
theorem d175_10 : decode (pm_code 175) 10 = .ok (.putfield 144, 3) := by decide +kernel
theorem d175_13 : decode (pm_code 175) 13 = .ok (.iload_n 1, 1) := by decide +kernel
theorem d175_14 : decode (pm_code 175) 14 = .ok (.ifCond .lt 5, 3) := by decide +kernel
theorem d175_17 : decode (pm_code 175) 17 = .ok (.iload_n 1, 1) := by decide +kernel
theorem d175_18 : decode (pm_code 175) 18 = .ok (.ireturn, 1) := by decide +kernel
theorem d175_19 : decode (pm_code 175) 19 = .ok (.aload_n 0, 1) := by decide +kernel
theorem d175_20 : decode (pm_code 175) 20 = .ok (.invokevirtual 276, 3) := by decide +kernel
theorem d175_23 : decode (pm_code 175) 23 = .ok (.ifCond .ne 6, 3) := by decide +kernel
theorem d175_26 : decode (pm_code 175) 26 = .ok (.bipush (-2), 2) := by decide +kernel
theorem d175_28 : decode (pm_code 175) 28 = .ok (.ireturn, 1) := by decide +kernel
theorem d175_29 : decode (pm_code 175) 29 = .ok (.aload_n 0, 1) := by decide +kernel
theorem d175_30 : decode (pm_code 175) 30 = .ok (.invokevirtual 289, 3) := by decide +kernel
theorem d175_33 : decode (pm_code 175) 33 = .ok (.aload_n 0, 1) := by decide +kernel
theorem d175_34 : decode (pm_code 175) 34 = .ok (.iconst 0, 1) := by decide +kernel
theorem d175_35 : decode (pm_code 175) 35 = .ok (.putfield 292, 3) := by decide +kernel
theorem d175_38 : decode (pm_code 175) 38 = .ok (.iconst (-1), 1) := by decide +kernel
theorem d175_39 : decode (pm_code 175) 39 = .ok (.ireturn, 1) := by decide +kernel
theorem d176_0 : decode (pm_code 176) 0 = .ok (.aload_n 0, 1) := by decide +kernel
theorem d176_1 : decode (pm_code 176) 1 = .ok (.iload_n 1, 1) := by decide +kernel
theorem d176_2 : decode (pm_code 176) 2 = .ok (.invokevirtual 296, 3) := by decide +kernel
theorem d176_5 : decode (pm_code 176) 5 = .ok (.ifCond .eq 11, 3) := by decide +kernel
theorem d176_8 : decode (pm_code 176) 8 = .ok (.aload_n 0, 1) := by decide +kernel
theorem d176_9 : decode (pm_code 176) 9 = .ok (.iload_n 2, 1) := by decide +kernel
theorem d176_10 : decode (pm_code 176) 10 = .ok (.invokevirtual 296, 3) := by decide +kernel
theorem d176_13 : decode (pm_code 176) 13 = .ok (.ifCond .ne 6, 3) := by decide +kernel
theorem d176_16 : decode (pm_code 176) 16 = .ok (.bipush (-2), 2) := by decide +kernel
theorem d176_18 : decode (pm_code 176) 18 = .ok (.ireturn, 1) := by decide +kernel
theorem d176_19 : decode (pm_code 176) 19 = .ok (.aload_n 0, 1) := by decide +kernel
theorem d176_20 : decode (pm_code 176) 20 = .ok (.invokevirtual 299, 3) := by decide +kernel
theorem d176_23 : decode (pm_code 176) 23 = .ok (.aload_n 0, 1) := by decide +kernel
theorem d176_24 : decode (pm_code 176) 24 = .ok (.iload_n 1, 1) := by decide +kernel
theorem d176_25 : decode (pm_code 176) 25 = .ok (.iconst 0, 1) := by decide +kernel
theorem d176_26 : decode (pm_code 176) 26 = .ok (.iload_n 2, 1) := by decide +kernel
theorem d176_27 : decode (pm_code 176) 27 = .ok (.iconst 0, 1) := by decide +kernel
theorem d176_28 : decode (pm_code 176) 28 = .ok (.iconst (-1), 1) := by decide +kernel
theorem d176_29 : decode (pm_code 176) 29 = .ok (.iconst 0, 1) := by decide +kernel
theorem d176_30 : decode (pm_code 176) 30 = .ok (.invokevirtual 244, 3) := by decide +kernel
theorem d176_33 : decode (pm_code 176) 33 = .ok (.ifCond .eq 7, 3) := by decide +kernel
theorem d176_36 : decode (pm_code 176) 36 = .ok (.iconst 1, 1) := by decide +kernel
theorem d176_37 : decode (pm_code 176) 37 = .ok (.goto 4, 3) := by decide +kernel
theorem d176_40 : decode (pm_code 176) 40 = .ok (.iconst 0, 1) := by decide +kernel
theorem d176_41 : decode (pm_code 176) 41 = .ok (.ireturn, 1) := by decide +kernel
theorem d177_0 : decode (pm_code 177) 0 = .ok (.aload_n 0, 1) := by decide +kernel
theorem d177_1 : decode (pm_code 177) 1 = .ok (.iload_n 1, 1) := by decide +kernel
theorem d177_2 : decode (pm_code 177) 2 = .ok (.invokevirtual 296, 3) := by decide +kernel
theorem d177_5 : decode (pm_code 177) 5 = .ok (.ifCond .eq 11, 3) := by decide +kernel
theorem d177_8 : decode (pm_code 177) 8 = .ok (.aload_n 0, 1) := by decide +kernel
theorem d177_9 : decode (pm_code 177) 9 = .ok (.iload_n 2, 1) := by decide +kernel
theorem d177_10 : decode (pm_code 177) 10 = .ok (.invokevirtual 296, 3) := by decide +kernel
theorem d177_13 : decode (pm_code 177) 13 = .ok (.ifCond .ne 8, 3) := by decide +kernel
theorem d177_16 : decode (pm_code 177) 16 = .ok (.bipush (-2), 2) := by decide +kernel
theorem d177_18 : decode (pm_code 177) 18 = .ok (.goto 19, 3) := by decide +kernel
theorem d177_21 : decode (pm_code 177) 21 = .ok (.aload_n 0, 1) := by decide +kernel
theorem d177_22 : decode (pm_code 177) 22 = .ok (.iload_n 1, 1) := by decide +kernel
theorem d177_23 : decode (pm_code 177) 23 = .ok (.iconst 0, 1) := by decide +kernel
theorem d177_24 : decode (pm_code 177) 24 = .ok (.iload_n 2, 1) := by decide +kernel
theorem d177_25 : decode (pm_code 177) 25 = .ok (.iconst 0, 1) := by decide +kernel
theorem d177_26 : decode (pm_code 177) 26 = .ok (.invokevirtual 235, 3) := by decide +kernel
theorem d177_29 : decode (pm_code 177) 29 = .ok (.ifCond .eq 7, 3) := by decide +kernel
theorem d177_32 : decode (pm_code 177) 32 = .ok (.iconst 1, 1) := by decide +kernel
theorem d177_33 : decode (pm_code 177) 33 = .ok (.goto 4, 3) := by decide +kernel
theorem d177_36 : decode (pm_code 177) 36 = .ok (.iconst 0, 1) := by decide +kernel
theorem d177_37 : decode (pm_code 177) 37 = .ok (.ireturn, 1) := by decide +kernel
theorem d178_0 : decode (pm_code 178) 0 = .ok (.aload_n 0, 1) := by decide +kernel
theorem d178_1 : decode (pm_code 178) 1 = .ok (.iload_n 2, 1) := by decide +kernel
theorem d178_2 : decode (pm_code 178) 2 = .ok (.invokevirtual 296, 3) := by decide +kernel
theorem d178_5 : decode (pm_code 178) 5 = .ok (.ifCond .eq 20, 3) := by decide +kernel
theorem d178_8 : decode (pm_code 178) 8 = .ok (.aload_n 0, 1) := by decide +kernel
theorem d178_9 : decode (pm_code 178) 9 = .ok (.iload_n 3, 1) := by decide +kernel
theorem d178_10 : decode (pm_code 178) 10 = .ok (.invokevirtual 296, 3) := by decide +kernel
theorem d178_13 : decode (pm_code 178) 13 = .ok (.ifCond .eq 12, 3) := by decide +kernel
theorem d178_16 : decode (pm_code 178) 16 = .ok (.aload_n 0, 1) := by decide +kernel
theorem d178_17 : decode (pm_code 178) 17 = .ok (.iload 4, 2) := by decide +kernel
theorem d178_19 : decode (pm_code 178) 19 = .ok (.invokevirtual 269, 3) := by decide +kernel
theorem d178_22 : decode (pm_code 178) 22 = .ok (.ifCond .ne 6, 3) := by decide +kernel
theorem d178_25 : decode (pm_code 178) 25 = .ok (.bipush (-2), 2) := by decide +kernel
theorem d178_27 : decode (pm_code 178) 27 = .ok (.ireturn, 1) := by decide +kernel
theorem d178_28 : decode (pm_code 178) 28 = .ok (.aload_n 0, 1) := by decide +kernel
theorem d178_29 : decode (pm_code 178) 29 = .ok (.invokevirtual 299, 3) := by decide +kernel
theorem d178_32 : decode (pm_code 178) 32 = .ok (.aload_n 0, 1) := by decide +kernel
theorem d178_33 : decode (pm_code 178) 33 = .ok (.iload_n 1, 1) := by decide +kernel
theorem d178_34 : decode (pm_code 178) 34 = .ok (.iload_n 2, 1) := by decide +kernel
theorem d178_35 : decode (pm_code 178) 35 = .ok (.iload_n 3, 1) := by decide +kernel
theorem d178_36 : decode (pm_code 178) 36 = .ok (.iconst (-1), 1) := by decide +kernel
theorem d178_37 : decode (pm_code 178) 37 = .ok (.iconst 0, 1) := by decide +kernel
theorem d178_38 : decode (pm_code 178) 38 = .ok (.invokevirtual 302, 3) := by decide +kernel
theorem d178_41 : decode (pm_code 178) 41 = .ok (.istore 5, 2) := by decide +kernel
theorem d178_43 : decode (pm_code 178) 43 = .ok (.iload 5, 2) := by decide +kernel
theorem d178_45 : decode (pm_code 178) 45 = .ok (.iconst 1, 1) := by decide +kernel
theorem d178_46 : decode (pm_code 178) 46 = .ok (.if_icmp .eq 15, 3) := by decide +kernel
theorem d178_49 : decode (pm_code 178) 49 = .ok (.iload 5, 2) := by decide +kernel
theorem d178_51 : decode (pm_code 178) 51 = .ok (.ifCond .ne 7, 3) := by decide +kernel
theorem d178_54 : decode (pm_code 178) 54 = .ok (.iconst 0, 1) := by decide +kernel
theorem d178_55 : decode (pm_code 178) 55 = .ok (.goto 5, 3) := by decide +kernel
theorem d178_58 : decode (pm_code 178) 58 = .ok (.bipush (-3), 2) := by decide +kernel
theorem d178_60 : decode (pm_code 178) 60 = .ok (.ireturn, 1) := by decide +kernel
theorem d178_61 : decode (pm_code 178) 61 = .ok (.aload_n 0, 1) := by decide +kernel
theorem d178_62 : decode (pm_code 178) 62 = .ok (.invokevirtual 205, 3) := by decide +kernel
theorem d178_65 : decode (pm_code 178) 65 = .ok (.istore 6, 2) := by decide +kernel
theorem d178_67 : decode (pm_code 178) 67 = .ok (.aload_n 0, 1) := by decide +kernel
theorem d178_68 : decode (pm_code 178) 68 = .ok (.aload_n 0, 1) := by decide +kernel
theorem d178_69 : decode (pm_code 178) 69 = .ok (.getfield 99, 3) := by decide +kernel
theorem d178_72 : decode (pm_code 178) 72 = .ok (.iconst 0, 1) := by decide +kernel
theorem d178_73 : decode (pm_code 178) 73 = .ok (.iaload, 1) := by decide +kernel
theorem d178_74 : decode (pm_code 178) 74 = .ok (.aload_n 0, 1) := by decide +kernel
theorem d178_75 : decode (pm_code 178) 75 = .ok (.getfield 102, 3) := by decide +kernel
theorem d178_78 : decode (pm_code 178) 78 = .ok (.iconst 0, 1) := by decide +kernel
theorem d178_79 : decode (pm_code 178) 79 = .ok (.iaload, 1) := by decide +kernel
theorem d178_80 : decode (pm_code 178) 80 = .ok (.iload 6, 2) := by decide +kernel
theorem d178_82 : decode (pm_code 178) 82 = .ok (.iconst 0, 1) := by decide +kernel
theorem d178_83 : decode (pm_code 178) 83 = .ok (.invokevirtual 209, 3) := by decide +kernel
theorem d178_86 : decode (pm_code 178) 86 = .ok (.aload_n 0, 1) := by decide +kernel
theorem d178_87 : decode (pm_code 178) 87 = .ok (.iload 6, 2) := by decide +kernel
theorem d178_89 : decode (pm_code 178) 89 = .ok (.iconst 0, 1) := by decide +kernel
theorem d178_90 : decode (pm_code 178) 90 = .ok (.iload 4, 2) := by decide +kernel
theorem d178_92 : decode (pm_code 178) 92 = .ok (.iconst 0, 1) := by decide +kernel
theorem d178_93 : decode (pm_code 178) 93 = .ok (.invokevirtual 209, 3) := by decide +kernel
theorem d178_96 : decode (pm_code 178) 96 = .ok (.aload_n 0, 1) := by decide +kernel
theorem d178_97 : decode (pm_code 178) 97 = .ok (.getfield 55, 3) := by decide +kernel
theorem d178_100 : decode (pm_code 178) 100 = .ok (.iload 4, 2) := by decide +kernel
theorem d178_102 : decode (pm_code 178) 102 = .ok (.iconst 1, 1) := by decide +kernel
theorem d178_103 : decode (pm_code 178) 103 = .ok (.bastore, 1) := by decide +kernel
theorem d178_104 : decode (pm_code 178) 104 = .ok (.aload_n 0, 1) := by decide +kernel
theorem d178_105 : decode (pm_code 178) 105 = .ok (.iload 4, 2) := by decide +kernel
theorem d178_107 : decode (pm_code 178) 107 = .ok (.iconst 0, 1) := by decide +kernel
theorem d178_108 : decode (pm_code 178) 108 = .ok (.invokevirtual 199, 3) := by decide +kernel
theorem d178_111 : decode (pm_code 178) 111 = .ok (.ireturn, 1) := by decide +kernel
theorem d179_0 : decode (pm_code 179) 0 = .ok (.aload_n 0, 1) := by decide +kernel
theorem d179_1 : decode (pm_code 179) 1 = .ok (.iconst 0, 1) := by decide +kernel
theorem d179_2 : decode (pm_code 179) 2 = .ok (.iload_n 1, 1) := by decide +kernel
theorem d179_3 : decode (pm_code 179) 3 = .ok (.iload_n 2, 1) := by decide +kernel
theorem d179_4 : decode (pm_code 179) 4 = .ok (.iload_n 3, 1) := by decide +kernel
theorem d179_5 : decode (pm_code 179) 5 = .ok (.invokevirtual 306, 3) := by decide +kernel
theorem d179_8 : decode (pm_code 179) 8 = .ok (.ireturn, 1) := by decide +kernel
theorem d180_0 : decode (pm_code 180) 0 = .ok (.aload_n 0, 1) := by decide +kernel
theorem d180_1 : decode (pm_code 180) 1 = .ok (.iconst 1, 1) := by decide +kernel
theorem d180_2 : decode (pm_code 180) 2 = .ok (.iload_n 1, 1) := by decide +kernel
theorem d180_3 : decode (pm_code 180) 3 = .ok (.iload_n 2, 1) := by decide +kernel
theorem d180_4 : decode (pm_code 180) 4 = .ok (.iload_n 3, 1) := by decide +kernel
theorem d180_5 : decode (pm_code 180) 5 = .ok (.invokevirtual 306, 3) := by decide +kernel
theorem d180_8 : decode (pm_code 180) 8 = .ok (.ireturn, 1) := by decide +kernel
theorem d181_0 : decode (pm_code 181) 0 = .ok (.aload_n 0, 1) := by decide +kernel
theorem d181_1 : decode (pm_code 181) 1 = .ok (.iload_n 1, 1) := by decide +kernel
theorem d181_2 : decode (pm_code 181) 2 = .ok (.invokevirtual 296, 3) := by decide +kernel
theorem d181_5 : decode (pm_code 181) 5 = .ok (.ifCond .eq 12, 3) := by decide +kernel
theorem d181_8 : decode (pm_code 181) 8 = .ok (.aload_n 0, 1) := by decide +kernel
theorem d181_9 : decode (pm_code 181) 9 = .ok (.iload_n 1, 1) := by decide +kernel
theorem d181_10 : decode (pm_code 181) 10 = .ok (.iconst 0, 1) := by decide +kernel
theorem d181_11 : decode (pm_code 181) 11 = .ok (.invokevirtual 199, 3) := by decide +kernel
theorem d181_14 : decode (pm_code 181) 14 = .ok (.goto 4, 3) := by decide +kernel
theorem d181_17 : decode (pm_code 181) 17 = .ok (.iconst 0, 1) := by decide +kernel
theorem d181_18 : decode (pm_code 181) 18 = .ok (.ireturn, 1) := by decide +kernel
theorem d182_0 : decode (pm_code 182) 0 = .ok (.aload_n 0, 1) := by decide +kernel
theorem d182_1 : decode (pm_code 182) 1 = .ok (.getfield 13, 3) := by decide +kernel
theorem d182_4 : decode (pm_code 182) 4 = .ok (.aload_n 0, 1) := by decide +kernel
theorem d182_5 : decode (pm_code 182) 5 = .ok (.getfield 309, 3) := by decide +kernel
theorem d182_8 : decode (pm_code 182) 8 = .ok (.iload_n 1, 1) := by decide +kernel
theorem d182_9 : decode (pm_code 182) 9 = .ok (.iastore, 1) := by decide +kernel
theorem d182_10 : decode (pm_code 182) 10 = .ok (.aload_n 0, 1) := by decide +kernel
theorem d182_11 : decode (pm_code 182) 11 = .ok (.dup, 1) := by decide +kernel
theorem d182_12 : decode (pm_code 182) 12 = .ok (.getfield 309, 3) := by decide +kernel
theorem d182_15 : decode (pm_code 182) 15 = .ok (.iconst 1, 1) := by decide +kernel
theorem d182_16 : decode (pm_code 182) 16 = .ok (.iadd, 1) := by decide +kernel
theorem d182_17 : decode (pm_code 182) 17 = .ok (.putfield 309, 3) := by decide +kernel
theorem d182_20 : decode (pm_code 182) 20 = .ok (.return_, 1) := by decide +kernel
theorem d183_0 : decode (pm_code 183) 0 = .ok (.iload_n 2, 1) := by decide +kernel
theorem d183_1 : decode (pm_code 183) 1 = .ok (.iconst 1, 1) := by decide +kernel
theorem d183_2 : decode (pm_code 183) 2 = .ok (.isub, 1) := by decide +kernel
theorem d183_3 : decode (pm_code 183) 3 = .ok (.istore_n 3, 1) := by decide +kernel
theorem d183_4 : decode (pm_code 183) 4 = .ok (.aload_n 0, 1) := by decide +kernel
theorem d183_5 : decode (pm_code 183) 5 = .ok (.iload_n 1, 1) := by decide +kernel
theorem d183_6 : decode (pm_code 183) 6 = .ok (.iload_n 3, 1) := by decide +kernel
theorem d183_7 : decode (pm_code 183) 7 = .ok (.invokevirtual 199, 3) := by decide +kernel
theorem d183_10 : decode (pm_code 183) 10 = .ok (.iload_n 2, 1) := by decide +kernel
theorem d183_11 : decode (pm_code 183) 11 = .ok (.if_icmp .gt 9, 3) := by decide +kernel
theorem d183_14 : decode (pm_code 183) 14 = .ok (.iinc 3 (-1), 3) := by decide +kernel
theorem d183_17 : decode (pm_code 183) 17 = .ok (.goto (-13), 3) := by decide +kernel
theorem d183_20 : decode (pm_code 183) 20 = .ok (.aload_n 0, 1) := by decide +kernel
theorem d183_21 : decode (pm_code 183) 21 = .ok (.iload_n 1, 1) := by decide +kernel
theorem d183_22 : decode (pm_code 183) 22 = .ok (.iload_n 3, 1) := by decide +kernel
theorem d183_23 : decode (pm_code 183) 23 = .ok (.invokevirtual 192, 3) := by decide +kernel
theorem d183_26 : decode (pm_code 183) 26 = .ok (.istore 4, 2) := by decide +kernel
theorem d183_28 : decode (pm_code 183) 28 = .ok (.iconst 0, 1) := by decide +kernel
theorem d183_29 : decode (pm_code 183) 29 = .ok (.istore 5, 2) := by decide +kernel
theorem d183_31 : decode (pm_code 183) 31 = .ok (.iload_n 3, 1) := by decide +kernel
theorem d183_32 : decode (pm_code 183) 32 = .ok (.iconst 1, 1) := by decide +kernel
theorem d183_33 : decode (pm_code 183) 33 = .ok (.iadd, 1) := by decide +kernel
theorem d183_34 : decode (pm_code 183) 34 = .ok (.istore 6, 2) := by decide +kernel
theorem d183_36 : decode (pm_code 183) 36 = .ok (.iload 6, 2) := by decide +kernel
theorem d183_38 : decode (pm_code 183) 38 = .ok (.iload_n 2, 1) := by decide +kernel
theorem d183_39 : decode (pm_code 183) 39 = .ok (.if_icmp .ge 18, 3) := by decide +kernel
theorem d183_42 : decode (pm_code 183) 42 = .ok (.iinc 5 1, 3) := by decide +kernel
theorem d183_45 : decode (pm_code 183) 45 = .ok (.aload_n 0, 1) := by decide +kernel
theorem d183_46 : decode (pm_code 183) 46 = .ok (.iload_n 1, 1) := by decide +kernel
theorem d183_47 : decode (pm_code 183) 47 = .ok (.iload 6, 2) := by decide +kernel
theorem d183_49 : decode (pm_code 183) 49 = .ok (.invokevirtual 199, 3) := by decide +kernel
theorem d183_52 : decode (pm_code 183) 52 = .ok (.istore 6, 2) := by decide +kernel
theorem d183_54 : decode (pm_code 183) 54 = .ok (.goto (-18), 3) := by decide +kernel
theorem d183_57 : decode (pm_code 183) 57 = .ok (.iload 4, 2) := by decide +kernel
theorem d183_59 : decode (pm_code 183) 59 = .ok (.bipush 8, 2) := by decide +kernel
theorem d183_61 : decode (pm_code 183) 61 = .ok (.if_icmp .ge 16, 3) := by decide +kernel
theorem d183_64 : decode (pm_code 183) 64 = .ok (.iload 5, 2) := by decide +kernel
theorem d183_66 : decode (pm_code 183) 66 = .ok (.iconst 1, 1) := by decide +kernel
theorem d183_67 : decode (pm_code 183) 67 = .ok (.if_icmp .ne 9, 3) := by decide +kernel
theorem d183_70 : decode (pm_code 183) 70 = .ok (.aload_n 0, 1) := by decide +kernel
theorem d183_71 : decode (pm_code 183) 71 = .ok (.bipush 62, 2) := by decide +kernel
theorem d183_73 : decode (pm_code 183) 73 = .ok (.invokevirtual 312, 3) := by decide +kernel
theorem d183_76 : decode (pm_code 183) 76 = .ok (.return_, 1) := by decide +kernel
theorem d183_77 : decode (pm_code 183) 77 = .ok (.iconst 0, 1) := by decide +kernel
theorem d183_78 : decode (pm_code 183) 78 = .ok (.istore 6, 2) := by decide +kernel
theorem d183_80 : decode (pm_code 183) 80 = .ok (.iconst 0, 1) := by decide +kernel
theorem d183_81 : decode (pm_code 183) 81 = .ok (.istore 7, 2) := by decide +kernel
theorem d183_83 : decode (pm_code 183) 83 = .ok (.iload 7, 2) := by decide +kernel
theorem d183_85 : decode (pm_code 183) 85 = .ok (.iconst 3, 1) := by decide +kernel
theorem d183_86 : decode (pm_code 183) 86 = .ok (.if_icmp .ge 57, 3) := by decide +kernel
theorem d183_89 : decode (pm_code 183) 89 = .ok (.iload 4, 2) := by decide +kernel
theorem d183_91 : decode (pm_code 183) 91 = .ok (.iload 7, 2) := by decide +kernel
theorem d183_93 : decode (pm_code 183) 93 = .ok (.ishr, 1) := by decide +kernel
theorem d183_94 : decode (pm_code 183) 94 = .ok (.iconst 1, 1) := by decide +kernel
theorem d183_95 : decode (pm_code 183) 95 = .ok (.iand, 1) := by decide +kernel
theorem d183_96 : decode (pm_code 183) 96 = .ok (.iconst 1, 1) := by decide +kernel
theorem d183_97 : decode (pm_code 183) 97 = .ok (.if_icmp .ne 40, 3) := by decide +kernel
theorem d183_100 : decode (pm_code 183) 100 = .ok (.iload 6, 2) := by decide +kernel
theorem d183_102 : decode (pm_code 183) 102 = .ok (.iload 5, 2) := by decide +kernel
theorem d183_104 : decode (pm_code 183) 104 = .ok (.if_icmp .ne 14, 3) := by decide +kernel
theorem d183_107 : decode (pm_code 183) 107 = .ok (.iload 5, 2) := by decide +kernel
theorem d183_109 : decode (pm_code 183) 109 = .ok (.ifCond .le 9, 3) := by decide +kernel
theorem d183_112 : decode (pm_code 183) 112 = .ok (.aload_n 0, 1) := by decide +kernel
theorem d183_113 : decode (pm_code 183) 113 = .ok (.bipush 44, 2) := by decide +kernel
theorem d183_115 : decode (pm_code 183) 115 = .ok (.invokevirtual 312, 3) := by decide +kernel
theorem d183_118 : decode (pm_code 183) 118 = .ok (.iload 6, 2) := by decide +kernel
theorem d183_120 : decode (pm_code 183) 120 = .ok (.iload 5, 2) := by decide +kernel
theorem d183_122 : decode (pm_code 183) 122 = .ok (.if_icmp .ne 12, 3) := by decide +kernel
theorem d183_125 : decode (pm_code 183) 125 = .ok (.aload_n 0, 1) := by decide +kernel
theorem d183_126 : decode (pm_code 183) 126 = .ok (.bipush 120, 2) := by decide +kernel
theorem d183_128 : decode (pm_code 183) 128 = .ok (.iload 7, 2) := by decide +kernel
theorem d183_130 : decode (pm_code 183) 130 = .ok (.iadd, 1) := by decide +kernel
theorem d183_131 : decode (pm_code 183) 131 = .ok (.invokevirtual 312, 3) := by decide +kernel
theorem d183_134 : decode (pm_code 183) 134 = .ok (.iinc 6 1, 3) := by decide +kernel
theorem d183_137 : decode (pm_code 183) 137 = .ok (.iinc 7 1, 3) := by decide +kernel
theorem d183_140 : decode (pm_code 183) 140 = .ok (.goto (-57), 3) := by decide +kernel
theorem d183_143 : decode (pm_code 183) 143 = .ok (.return_, 1) := by decide +kernel
theorem d184_0 : decode (pm_code 184) 0 = .ok (.iconst 0, 1) := by decide +kernel
theorem d184_1 : decode (pm_code 184) 1 = .ok (.istore 4, 2) := by decide +kernel
theorem d184_3 : decode (pm_code 184) 3 = .ok (.iload_n 2, 1) := by decide +kernel
theorem d184_4 : decode (pm_code 184) 4 = .ok (.istore 5, 2) := by decide +kernel
theorem d184_6 : decode (pm_code 184) 6 = .ok (.iload 5, 2) := by decide +kernel
theorem d184_8 : decode (pm_code 184) 8 = .ok (.iload_n 3, 1) := by decide +kernel
theorem d184_9 : decode (pm_code 184) 9 = .ok (.if_icmp .ge 54, 3) := by decide +kernel
theorem d184_12 : decode (pm_code 184) 12 = .ok (.iload 4, 2) := by decide +kernel
theorem d184_14 : decode (pm_code 184) 14 = .ok (.aload_n 0, 1) := by decide +kernel
theorem d184_15 : decode (pm_code 184) 15 = .ok (.iload_n 1, 1) := by decide +kernel
theorem d184_16 : decode (pm_code 184) 16 = .ok (.iload 5, 2) := by decide +kernel
theorem d184_18 : decode (pm_code 184) 18 = .ok (.invokevirtual 192, 3) := by decide +kernel
theorem d184_21 : decode (pm_code 184) 21 = .ok (.iconst 2, 1) := by decide +kernel
theorem d184_22 : decode (pm_code 184) 22 = .ok (.if_icmp .ne 31, 3) := by decide +kernel
theorem d184_25 : decode (pm_code 184) 25 = .ok (.iload_n 3, 1) := by decide +kernel
theorem d184_26 : decode (pm_code 184) 26 = .ok (.aload_n 0, 1) := by decide +kernel
theorem d184_27 : decode (pm_code 184) 27 = .ok (.iload_n 1, 1) := by decide +kernel
theorem d184_28 : decode (pm_code 184) 28 = .ok (.iload 5, 2) := by decide +kernel
theorem d184_30 : decode (pm_code 184) 30 = .ok (.iconst 1, 1) := by decide +kernel
theorem d184_31 : decode (pm_code 184) 31 = .ok (.iadd, 1) := by decide +kernel
theorem d184_32 : decode (pm_code 184) 32 = .ok (.invokevirtual 199, 3) := by decide +kernel
theorem d184_35 : decode (pm_code 184) 35 = .ok (.if_icmp .lt 18, 3) := by decide +kernel
theorem d184_38 : decode (pm_code 184) 38 = .ok (.iload_n 3, 1) := by decide +kernel
theorem d184_39 : decode (pm_code 184) 39 = .ok (.aload_n 0, 1) := by decide +kernel
theorem d184_40 : decode (pm_code 184) 40 = .ok (.iload_n 1, 1) := by decide +kernel
theorem d184_41 : decode (pm_code 184) 41 = .ok (.iload 5, 2) := by decide +kernel
theorem d184_43 : decode (pm_code 184) 43 = .ok (.invokevirtual 199, 3) := by decide +kernel
theorem d184_46 : decode (pm_code 184) 46 = .ok (.if_icmp .ge 7, 3) := by decide +kernel
theorem d184_49 : decode (pm_code 184) 49 = .ok (.iconst 1, 1) := by decide +kernel
theorem d184_50 : decode (pm_code 184) 50 = .ok (.goto 4, 3) := by decide +kernel
theorem d184_53 : decode (pm_code 184) 53 = .ok (.iconst 0, 1) := by decide +kernel
theorem d184_54 : decode (pm_code 184) 54 = .ok (.iadd, 1) := by decide +kernel
theorem d184_55 : decode (pm_code 184) 55 = .ok (.istore 4, 2) := by decide +kernel
theorem d184_57 : decode (pm_code 184) 57 = .ok (.iinc 5 1, 3) := by decide +kernel
theorem d184_60 : decode (pm_code 184) 60 = .ok (.goto (-54), 3) := by decide +kernel
theorem d184_63 : decode (pm_code 184) 63 = .ok (.iload 4, 2) := by decide +kernel
theorem d184_65 : decode (pm_code 184) 65 = .ok (.ireturn, 1) := by decide +kernel
theorem d185_0 : decode (pm_code 185) 0 = .ok (.aload_n 0, 1) := by decide +kernel
theorem d185_1 : decode (pm_code 185) 1 = .ok (.iload_n 1, 1) := by decide +kernel
theorem d185_2 : decode (pm_code 185) 2 = .ok (.invokevirtual 296, 3) := by decide +kernel
theorem d185_5 : decode (pm_code 185) 5 = .ok (.ifCond .ne 6, 3) := by decide +kernel
theorem d185_8 : decode (pm_code 185) 8 = .ok (.bipush (-2), 2) := by decide +kernel
theorem d185_10 : decode (pm_code 185) 10 = .ok (.ireturn, 1) := by decide +kernel
theorem d185_11 : decode (pm_code 185) 11 = .ok (.aload_n 0, 1) := by decide +kernel
theorem d185_12 : decode (pm_code 185) 12 = .ok (.iconst 0, 1) := by decide +kernel
theorem d185_13 : decode (pm_code 185) 13 = .ok (.putfield 309, 3) := by decide +kernel
theorem d185_16 : decode (pm_code 185) 16 = .ok (.aload_n 0, 1) := by decide +kernel
theorem d185_17 : decode (pm_code 185) 17 = .ok (.iload_n 1, 1) := by decide +kernel
theorem d185_18 : decode (pm_code 185) 18 = .ok (.iconst 0, 1) := by decide +kernel
theorem d185_19 : decode (pm_code 185) 19 = .ok (.invokevirtual 199, 3) := by decide +kernel
theorem d185_22 : decode (pm_code 185) 22 = .ok (.istore_n 2, 1) := by decide +kernel
theorem d185_23 : decode (pm_code 185) 23 = .ok (.iconst 0, 1) := by decide +kernel
theorem d185_24 : decode (pm_code 185) 24 = .ok (.istore_n 3, 1) := by decide +kernel
theorem d185_25 : decode (pm_code 185) 25 = .ok (.iload_n 3, 1) := by decide +kernel
theorem d185_26 : decode (pm_code 185) 26 = .ok (.iload_n 2, 1) := by decide +kernel
theorem d185_27 : decode (pm_code 185) 27 = .ok (.if_icmp .ge 178, 3) := by decide +kernel
theorem d185_30 : decode (pm_code 185) 30 = .ok (.iload_n 3, 1) := by decide +kernel
theorem d185_31 : decode (pm_code 185) 31 = .ok (.ifCond .le 9, 3) := by decide +kernel
theorem d185_34 : decode (pm_code 185) 34 = .ok (.aload_n 0, 1) := by decide +kernel
theorem d185_35 : decode (pm_code 185) 35 = .ok (.iload_n 1, 1) := by decide +kernel
theorem d185_36 : decode (pm_code 185) 36 = .ok (.iload_n 3, 1) := by decide +kernel
theorem d185_37 : decode (pm_code 185) 37 = .ok (.invokevirtual 315, 3) := by decide +kernel
theorem d185_40 : decode (pm_code 185) 40 = .ok (.aload_n 0, 1) := by decide +kernel
theorem d185_41 : decode (pm_code 185) 41 = .ok (.iload_n 1, 1) := by decide +kernel
theorem d185_42 : decode (pm_code 185) 42 = .ok (.iload_n 3, 1) := by decide +kernel
theorem d185_43 : decode (pm_code 185) 43 = .ok (.invokevirtual 192, 3) := by decide +kernel
theorem d185_46 : decode (pm_code 185) 46 = .ok (.istore 4, 2) := by decide +kernel
theorem d185_48 : decode (pm_code 185) 48 = .ok (.iload 4, 2) := by decide +kernel
theorem d185_50 : decode (pm_code 185) 50 = .ok (.iconst 2, 1) := by decide +kernel
theorem d185_51 : decode (pm_code 185) 51 = .ok (.if_icmp .ne 32, 3) := by decide +kernel
theorem d185_54 : decode (pm_code 185) 54 = .ok (.aload_n 0, 1) := by decide +kernel
theorem d185_55 : decode (pm_code 185) 55 = .ok (.bipush 60, 2) := by decide +kernel
theorem d185_57 : decode (pm_code 185) 57 = .ok (.invokevirtual 312, 3) := by decide +kernel
theorem d185_60 : decode (pm_code 185) 60 = .ok (.aload_n 0, 1) := by decide +kernel
theorem d185_61 : decode (pm_code 185) 61 = .ok (.bipush 80, 2) := by decide +kernel
theorem d185_63 : decode (pm_code 185) 63 = .ok (.aload_n 0, 1) := by decide +kernel
theorem d185_64 : decode (pm_code 185) 64 = .ok (.iload_n 1, 1) := by decide +kernel
theorem d185_65 : decode (pm_code 185) 65 = .ok (.iconst 0, 1) := by decide +kernel
theorem d185_66 : decode (pm_code 185) 66 = .ok (.iload_n 3, 1) := by decide +kernel
theorem d185_67 : decode (pm_code 185) 67 = .ok (.invokevirtual 318, 3) := by decide +kernel
theorem d185_70 : decode (pm_code 185) 70 = .ok (.iadd, 1) := by decide +kernel
theorem d185_71 : decode (pm_code 185) 71 = .ok (.invokevirtual 312, 3) := by decide +kernel
theorem d185_74 : decode (pm_code 185) 74 = .ok (.aload_n 0, 1) := by decide +kernel
theorem d185_75 : decode (pm_code 185) 75 = .ok (.bipush 58, 2) := by decide +kernel
theorem d185_77 : decode (pm_code 185) 77 = .ok (.invokevirtual 312, 3) := by decide +kernel
theorem d185_80 : decode (pm_code 185) 80 = .ok (.goto 48, 3) := by decide +kernel
theorem d185_83 : decode (pm_code 185) 83 = .ok (.aload_n 0, 1) := by decide +kernel
theorem d185_84 : decode (pm_code 185) 84 = .ok (.iload 4, 2) := by decide +kernel
theorem d185_86 : decode (pm_code 185) 86 = .ok (.ifCond .ne 8, 3) := by decide +kernel
theorem d185_89 : decode (pm_code 185) 89 = .ok (.bipush 84, 2) := by decide +kernel
theorem d185_91 : decode (pm_code 185) 91 = .ok (.goto 34, 3) := by decide +kernel
theorem d185_94 : decode (pm_code 185) 94 = .ok (.iload 4, 2) := by decide +kernel
theorem d185_96 : decode (pm_code 185) 96 = .ok (.iconst 1, 1) := by decide +kernel
theorem d185_97 : decode (pm_code 185) 97 = .ok (.if_icmp .ne 8, 3) := by decide +kernel
theorem d185_100 : decode (pm_code 185) 100 = .ok (.bipush 40, 2) := by decide +kernel
theorem d185_102 : decode (pm_code 185) 102 = .ok (.goto 23, 3) := by decide +kernel
theorem d185_105 : decode (pm_code 185) 105 = .ok (.iload 4, 2) := by decide +kernel
theorem d185_107 : decode (pm_code 185) 107 = .ok (.bipush 16, 2) := by decide +kernel
theorem d185_109 : decode (pm_code 185) 109 = .ok (.if_icmp .ge 8, 3) := by decide +kernel
theorem d185_112 : decode (pm_code 185) 112 = .ok (.bipush 91, 2) := by decide +kernel
theorem d185_114 : decode (pm_code 185) 114 = .ok (.goto 11, 3) := by decide +kernel
theorem d185_117 : decode (pm_code 185) 117 = .ok (.bipush 80, 2) := by decide +kernel
theorem d185_119 : decode (pm_code 185) 119 = .ok (.iload 4, 2) := by decide +kernel
theorem d185_121 : decode (pm_code 185) 121 = .ok (.iadd, 1) := by decide +kernel
theorem d185_122 : decode (pm_code 185) 122 = .ok (.bipush 16, 2) := by decide +kernel
theorem d185_124 : decode (pm_code 185) 124 = .ok (.isub, 1) := by decide +kernel
theorem d185_125 : decode (pm_code 185) 125 = .ok (.invokevirtual 312, 3) := by decide +kernel
theorem d185_128 : decode (pm_code 185) 128 = .ok (.iload_n 3, 1) := by decide +kernel
theorem d185_129 : decode (pm_code 185) 129 = .ok (.istore 5, 2) := by decide +kernel
theorem d185_131 : decode (pm_code 185) 131 = .ok (.iload 5, 2) := by decide +kernel
theorem d185_133 : decode (pm_code 185) 133 = .ok (.ifCond .lt 66, 3) := by decide +kernel
theorem d185_136 : decode (pm_code 185) 136 = .ok (.aload_n 0, 1) := by decide +kernel
theorem d185_137 : decode (pm_code 185) 137 = .ok (.iload_n 1, 1) := by decide +kernel
theorem d185_138 : decode (pm_code 185) 138 = .ok (.iload 5, 2) := by decide +kernel
theorem d185_140 : decode (pm_code 185) 140 = .ok (.invokevirtual 192, 3) := by decide +kernel
theorem d185_143 : decode (pm_code 185) 143 = .ok (.istore 6, 2) := by decide +kernel
theorem d185_145 : decode (pm_code 185) 145 = .ok (.aload_n 0, 1) := by decide +kernel
theorem d185_146 : decode (pm_code 185) 146 = .ok (.iload_n 1, 1) := by decide +kernel
theorem d185_147 : decode (pm_code 185) 147 = .ok (.iload 5, 2) := by decide +kernel
theorem d185_149 : decode (pm_code 185) 149 = .ok (.invokevirtual 199, 3) := by decide +kernel
theorem d185_152 : decode (pm_code 185) 152 = .ok (.iload_n 3, 1) := by decide +kernel
theorem d185_153 : decode (pm_code 185) 153 = .ok (.iconst 1, 1) := by decide +kernel
theorem d185_154 : decode (pm_code 185) 154 = .ok (.iadd, 1) := by decide +kernel
theorem d185_155 : decode (pm_code 185) 155 = .ok (.if_icmp .ne 38, 3) := by decide +kernel
theorem d185_158 : decode (pm_code 185) 158 = .ok (.iload 6, 2) := by decide +kernel
theorem d185_160 : decode (pm_code 185) 160 = .ok (.ifCond .eq 33, 3) := by decide +kernel
theorem d185_163 : decode (pm_code 185) 163 = .ok (.iload 6, 2) := by decide +kernel
theorem d185_165 : decode (pm_code 185) 165 = .ok (.iconst 2, 1) := by decide +kernel
theorem d185_166 : decode (pm_code 185) 166 = .ok (.if_icmp .eq 27, 3) := by decide +kernel
theorem d185_169 : decode (pm_code 185) 169 = .ok (.iload 6, 2) := by decide +kernel
theorem d185_171 : decode (pm_code 185) 171 = .ok (.bipush 16, 2) := by decide +kernel
theorem d185_173 : decode (pm_code 185) 173 = .ok (.if_icmp .ge 20, 3) := by decide +kernel
theorem d185_176 : decode (pm_code 185) 176 = .ok (.aload_n 0, 1) := by decide +kernel
theorem d185_177 : decode (pm_code 185) 177 = .ok (.iload 6, 2) := by decide +kernel
theorem d185_179 : decode (pm_code 185) 179 = .ok (.iconst 1, 1) := by decide +kernel
theorem d185_180 : decode (pm_code 185) 180 = .ok (.if_icmp .ne 8, 3) := by decide +kernel
theorem d185_183 : decode (pm_code 185) 183 = .ok (.bipush 41, 2) := by decide +kernel
theorem d185_185 : decode (pm_code 185) 185 = .ok (.goto 5, 3) := by decide +kernel
theorem d185_188 : decode (pm_code 185) 188 = .ok (.bipush 93, 2) := by decide +kernel
theorem d185_190 : decode (pm_code 185) 190 = .ok (.invokevirtual 312, 3) := by decide +kernel
theorem d185_193 : decode (pm_code 185) 193 = .ok (.iinc 5 (-1), 3) := by decide +kernel
theorem d185_196 : decode (pm_code 185) 196 = .ok (.goto (-65), 3) := by decide +kernel
theorem d185_199 : decode (pm_code 185) 199 = .ok (.iinc 3 1, 3) := by decide +kernel
theorem d185_202 : decode (pm_code 185) 202 = .ok (.goto (-177), 3) := by decide +kernel
theorem d185_205 : decode (pm_code 185) 205 = .ok (.aload_n 0, 1) := by decide +kernel
theorem d185_206 : decode (pm_code 185) 206 = .ok (.getfield 309, 3) := by decide +kernel
theorem d185_209 : decode (pm_code 185) 209 = .ok (.ireturn, 1) := by decide +kernel
theorem d186_0 : decode (pm_code 186) 0 = .ok (.iload_n 1, 1) := by decide +kernel
theorem d186_1 : decode (pm_code 186) 1 = .ok (.ifCond .lt 11, 3) := by decide +kernel
theorem d186_4 : decode (pm_code 186) 4 = .ok (.iload_n 1, 1) := by decide +kernel
theorem d186_5 : decode (pm_code 186) 5 = .ok (.aload_n 0, 1) := by decide +kernel
theorem d186_6 : decode (pm_code 186) 6 = .ok (.getfield 309, 3) := by decide +kernel
theorem d186_9 : decode (pm_code 186) 9 = .ok (.if_icmp .lt 7, 3) := by decide +kernel
theorem d186_12 : decode (pm_code 186) 12 = .ok (.iconst (-1), 1) := by decide +kernel
theorem d186_13 : decode (pm_code 186) 13 = .ok (.goto 9, 3) := by decide +kernel
theorem d186_16 : decode (pm_code 186) 16 = .ok (.aload_n 0, 1) := by decide +kernel
theorem d186_17 : decode (pm_code 186) 17 = .ok (.getfield 13, 3) := by decide +kernel
theorem d186_20 : decode (pm_code 186) 20 = .ok (.iload_n 1, 1) := by decide +kernel
theorem d186_21 : decode (pm_code 186) 21 = .ok (.iaload, 1) := by decide +kernel
theorem d186_22 : decode (pm_code 186) 22 = .ok (.ireturn, 1) := by decide +kernel
theorem d187_0 : decode (pm_code 187) 0 = .ok (.aload_n 0, 1) := by decide +kernel
theorem d187_1 : decode (pm_code 187) 1 = .ok (.invokevirtual 299, 3) := by decide +kernel
theorem d187_4 : decode (pm_code 187) 4 = .ok (.iconst 0, 1) := by decide +kernel
theorem d187_5 : decode (pm_code 187) 5 = .ok (.istore_n 1, 1) := by decide +kernel
theorem d187_6 : decode (pm_code 187) 6 = .ok (.iload_n 1, 1) := by decide +kernel
theorem d187_7 : decode (pm_code 187) 7 = .ok (.aload_n 0, 1) := by decide +kernel
theorem d187_8 : decode (pm_code 187) 8 = .ok (.getfield 286, 3) := by decide +kernel
theorem d187_11 : decode (pm_code 187) 11 = .ok (.if_icmp .ge 112, 3) := by decide +kernel
theorem d187_14 : decode (pm_code 187) 14 = .ok (.aload_n 0, 1) := by decide +kernel
theorem d187_15 : decode (pm_code 187) 15 = .ok (.getfield 31, 3) := by decide +kernel
theorem d187_18 : decode (pm_code 187) 18 = .ok (.iload_n 1, 1) := by decide +kernel
theorem d187_19 : decode (pm_code 187) 19 = .ok (.iaload, 1) := by decide +kernel
theorem d187_20 : decode (pm_code 187) 20 = .ok (.ifCond .ge 7, 3) := by decide +kernel
theorem d187_23 : decode (pm_code 187) 23 = .ok (.iconst (-1), 1) := by decide +kernel
theorem d187_24 : decode (pm_code 187) 24 = .ok (.goto 14, 3) := by decide +kernel
theorem d187_27 : decode (pm_code 187) 27 = .ok (.aload_n 0, 1) := by decide +kernel
theorem d187_28 : decode (pm_code 187) 28 = .ok (.getfield 75, 3) := by decide +kernel
theorem d187_31 : decode (pm_code 187) 31 = .ok (.aload_n 0, 1) := by decide +kernel
theorem d187_32 : decode (pm_code 187) 32 = .ok (.getfield 31, 3) := by decide +kernel
theorem d187_35 : decode (pm_code 187) 35 = .ok (.iload_n 1, 1) := by decide +kernel
theorem d187_36 : decode (pm_code 187) 36 = .ok (.iaload, 1) := by decide +kernel
theorem d187_37 : decode (pm_code 187) 37 = .ok (.iaload, 1) := by decide +kernel
theorem d187_38 : decode (pm_code 187) 38 = .ok (.istore_n 2, 1) := by decide +kernel
theorem d187_39 : decode (pm_code 187) 39 = .ok (.aload_n 0, 1) := by decide +kernel
theorem d187_40 : decode (pm_code 187) 40 = .ok (.getfield 16, 3) := by decide +kernel
theorem d187_43 : decode (pm_code 187) 43 = .ok (.aload_n 0, 1) := by decide +kernel
theorem d187_44 : decode (pm_code 187) 44 = .ok (.getfield 40, 3) := by decide +kernel
theorem d187_47 : decode (pm_code 187) 47 = .ok (.iload_n 1, 1) := by decide +kernel
theorem d187_48 : decode (pm_code 187) 48 = .ok (.iaload, 1) := by decide +kernel
theorem d187_49 : decode (pm_code 187) 49 = .ok (.iaload, 1) := by decide +kernel
theorem d187_50 : decode (pm_code 187) 50 = .ok (.istore_n 3, 1) := by decide +kernel
theorem d187_51 : decode (pm_code 187) 51 = .ok (.aload_n 0, 1) := by decide +kernel
theorem d187_52 : decode (pm_code 187) 52 = .ok (.getfield 75, 3) := by decide +kernel
theorem d187_55 : decode (pm_code 187) 55 = .ok (.iload_n 1, 1) := by decide +kernel
theorem d187_56 : decode (pm_code 187) 56 = .ok (.iload_n 2, 1) := by decide +kernel
theorem d187_57 : decode (pm_code 187) 57 = .ok (.iastore, 1) := by decide +kernel
theorem d187_58 : decode (pm_code 187) 58 = .ok (.iload_n 3, 1) := by decide +kernel
theorem d187_59 : decode (pm_code 187) 59 = .ok (.bipush 6, 2) := by decide +kernel
theorem d187_61 : decode (pm_code 187) 61 = .ok (.if_icmp .eq 9, 3) := by decide +kernel
theorem d187_64 : decode (pm_code 187) 64 = .ok (.iload_n 3, 1) := by decide +kernel
theorem d187_65 : decode (pm_code 187) 65 = .ok (.bipush 8, 2) := by decide +kernel
theorem d187_67 : decode (pm_code 187) 67 = .ok (.if_icmp .ne 50, 3) := by decide +kernel
theorem d187_70 : decode (pm_code 187) 70 = .ok (.aload_n 0, 1) := by decide +kernel
theorem d187_71 : decode (pm_code 187) 71 = .ok (.aload_n 0, 1) := by decide +kernel
theorem d187_72 : decode (pm_code 187) 72 = .ok (.getfield 40, 3) := by decide +kernel
theorem d187_75 : decode (pm_code 187) 75 = .ok (.iload_n 1, 1) := by decide +kernel
theorem d187_76 : decode (pm_code 187) 76 = .ok (.iaload, 1) := by decide +kernel
theorem d187_77 : decode (pm_code 187) 77 = .ok (.iconst 1, 1) := by decide +kernel
theorem d187_78 : decode (pm_code 187) 78 = .ok (.iadd, 1) := by decide +kernel
theorem d187_79 : decode (pm_code 187) 79 = .ok (.bipush 68, 2) := by decide +kernel
theorem d187_81 : decode (pm_code 187) 81 = .ok (.iload_n 1, 1) := by decide +kernel
theorem d187_82 : decode (pm_code 187) 82 = .ok (.iadd, 1) := by decide +kernel
theorem d187_83 : decode (pm_code 187) 83 = .ok (.invokevirtual 280, 3) := by decide +kernel
theorem d187_86 : decode (pm_code 187) 86 = .ok (.iload_n 3, 1) := by decide +kernel
theorem d187_87 : decode (pm_code 187) 87 = .ok (.bipush 8, 2) := by decide +kernel
theorem d187_89 : decode (pm_code 187) 89 = .ok (.if_icmp .ne 28, 3) := by decide +kernel
theorem d187_92 : decode (pm_code 187) 92 = .ok (.aload_n 0, 1) := by decide +kernel
theorem d187_93 : decode (pm_code 187) 93 = .ok (.getfield 75, 3) := by decide +kernel
theorem d187_96 : decode (pm_code 187) 96 = .ok (.iload_n 1, 1) := by decide +kernel
theorem d187_97 : decode (pm_code 187) 97 = .ok (.aload_n 0, 1) := by decide +kernel
theorem d187_98 : decode (pm_code 187) 98 = .ok (.iload_n 2, 1) := by decide +kernel
theorem d187_99 : decode (pm_code 187) 99 = .ok (.aload_n 0, 1) := by decide +kernel
theorem d187_100 : decode (pm_code 187) 100 = .ok (.aload_n 0, 1) := by decide +kernel
theorem d187_101 : decode (pm_code 187) 101 = .ok (.getfield 31, 3) := by decide +kernel
theorem d187_104 : decode (pm_code 187) 104 = .ok (.iload_n 1, 1) := by decide +kernel
theorem d187_105 : decode (pm_code 187) 105 = .ok (.iaload, 1) := by decide +kernel
theorem d187_106 : decode (pm_code 187) 106 = .ok (.invokevirtual 202, 3) := by decide +kernel
theorem d187_109 : decode (pm_code 187) 109 = .ok (.bipush 68, 2) := by decide +kernel
theorem d187_111 : decode (pm_code 187) 111 = .ok (.iload_n 1, 1) := by decide +kernel
theorem d187_112 : decode (pm_code 187) 112 = .ok (.iadd, 1) := by decide +kernel
theorem d187_113 : decode (pm_code 187) 113 = .ok (.invokevirtual 238, 3) := by decide +kernel
theorem d187_116 : decode (pm_code 187) 116 = .ok (.iastore, 1) := by decide +kernel
theorem d187_117 : decode (pm_code 187) 117 = .ok (.iinc 1 1, 3) := by decide +kernel
theorem d187_120 : decode (pm_code 187) 120 = .ok (.goto (-114), 3) := by decide +kernel
theorem d187_123 : decode (pm_code 187) 123 = .ok (.return_, 1) := by decide +kernel
theorem d188_0 : decode (pm_code 188) 0 = .ok (.aload_n 0, 1) := by decide +kernel
theorem d188_1 : decode (pm_code 188) 1 = .ok (.iload_n 1, 1) := by decide +kernel
theorem d188_2 : decode (pm_code 188) 2 = .ok (.putfield 321, 3) := by decide +kernel
theorem d188_5 : decode (pm_code 188) 5 = .ok (.aload_n 0, 1) := by decide +kernel
theorem d188_6 : decode (pm_code 188) 6 = .ok (.iconst 0, 1) := by decide +kernel
theorem d188_7 : decode (pm_code 188) 7 = .ok (.putfield 324, 3) := by decide +kernel
theorem d188_10 : decode (pm_code 188) 10 = .ok (.aload_n 0, 1) := by decide +kernel
theorem d188_11 : decode (pm_code 188) 11 = .ok (.aload_n 0, 1) := by decide +kernel
theorem d188_12 : decode (pm_code 188) 12 = .ok (.getfield 321, 3) := by decide +kernel
theorem d188_15 : decode (pm_code 188) 15 = .ok (.aload_n 0, 1) := by decide +kernel
theorem d188_16 : decode (pm_code 188) 16 = .ok (.getfield 324, 3) := by decide +kernel
theorem d188_19 : decode (pm_code 188) 19 = .ok (.invokevirtual 192, 3) := by decide +kernel
theorem d188_22 : decode (pm_code 188) 22 = .ok (.bipush 16, 2) := by decide +kernel
theorem d188_24 : decode (pm_code 188) 24 = .ok (.if_icmp .lt 36, 3) := by decide +kernel
theorem d188_27 : decode (pm_code 188) 27 = .ok (.aload_n 0, 1) := by decide +kernel
theorem d188_28 : decode (pm_code 188) 28 = .ok (.aload_n 0, 1) := by decide +kernel
theorem d188_29 : decode (pm_code 188) 29 = .ok (.aload_n 0, 1) := by decide +kernel
theorem d188_30 : decode (pm_code 188) 30 = .ok (.aload_n 0, 1) := by decide +kernel
theorem d188_31 : decode (pm_code 188) 31 = .ok (.getfield 321, 3) := by decide +kernel
theorem d188_34 : decode (pm_code 188) 34 = .ok (.aload_n 0, 1) := by decide +kernel
theorem d188_35 : decode (pm_code 188) 35 = .ok (.getfield 324, 3) := by decide +kernel
theorem d188_38 : decode (pm_code 188) 38 = .ok (.invokevirtual 192, 3) := by decide +kernel
theorem d188_41 : decode (pm_code 188) 41 = .ok (.bipush 16, 2) := by decide +kernel
theorem d188_43 : decode (pm_code 188) 43 = .ok (.isub, 1) := by decide +kernel
theorem d188_44 : decode (pm_code 188) 44 = .ok (.iload_n 2, 1) := by decide +kernel
theorem d188_45 : decode (pm_code 188) 45 = .ok (.iload_n 3, 1) := by decide +kernel
theorem d188_46 : decode (pm_code 188) 46 = .ok (.invokevirtual 229, 3) := by decide +kernel
theorem d188_49 : decode (pm_code 188) 49 = .ok (.putfield 321, 3) := by decide +kernel
theorem d188_52 : decode (pm_code 188) 52 = .ok (.aload_n 0, 1) := by decide +kernel
theorem d188_53 : decode (pm_code 188) 53 = .ok (.iconst 0, 1) := by decide +kernel
theorem d188_54 : decode (pm_code 188) 54 = .ok (.putfield 324, 3) := by decide +kernel
theorem d188_57 : decode (pm_code 188) 57 = .ok (.goto (-47), 3) := by decide +kernel
theorem d188_60 : decode (pm_code 188) 60 = .ok (.return_, 1) := by decide +kernel
theorem d189_0 : decode (pm_code 189) 0 = .ok (.aload_n 0, 1) := by decide +kernel
theorem d189_1 : decode (pm_code 189) 1 = .ok (.iload_n 2, 1) := by decide +kernel
theorem d189_2 : decode (pm_code 189) 2 = .ok (.iload_n 3, 1) := by decide +kernel
theorem d189_3 : decode (pm_code 189) 3 = .ok (.invokevirtual 199, 3) := by decide +kernel
theorem d189_6 : decode (pm_code 189) 6 = .ok (.iload_n 3, 1) := by decide +kernel
theorem d189_7 : decode (pm_code 189) 7 = .ok (.isub, 1) := by decide +kernel
theorem d189_8 : decode (pm_code 189) 8 = .ok (.istore 4, 2) := by decide +kernel
theorem d189_10 : decode (pm_code 189) 10 = .ok (.iload 4, 2) := by decide +kernel
theorem d189_12 : decode (pm_code 189) 12 = .ok (.bipush 16, 2) := by decide +kernel
theorem d189_14 : decode (pm_code 189) 14 = .ok (.if_icmp .le 5, 3) := by decide +kernel
theorem d189_17 : decode (pm_code 189) 17 = .ok (.iconst 0, 1) := by decide +kernel
theorem d189_18 : decode (pm_code 189) 18 = .ok (.ireturn, 1) := by decide +kernel
theorem d189_19 : decode (pm_code 189) 19 = .ok (.aload_n 0, 1) := by decide +kernel
theorem d189_20 : decode (pm_code 189) 20 = .ok (.iload_n 2, 1) := by decide +kernel
theorem d189_21 : decode (pm_code 189) 21 = .ok (.iload_n 3, 1) := by decide +kernel
theorem d189_22 : decode (pm_code 189) 22 = .ok (.iconst 4, 1) := by decide +kernel
theorem d189_23 : decode (pm_code 189) 23 = .ok (.iload_n 1, 1) := by decide +kernel
theorem d189_24 : decode (pm_code 189) 24 = .ok (.iadd, 1) := by decide +kernel
theorem d189_25 : decode (pm_code 189) 25 = .ok (.iconst 0, 1) := by decide +kernel
theorem d189_26 : decode (pm_code 189) 26 = .ok (.invokevirtual 209, 3) := by decide +kernel
theorem d189_29 : decode (pm_code 189) 29 = .ok (.iconst 1, 1) := by decide +kernel
theorem d189_30 : decode (pm_code 189) 30 = .ok (.ireturn, 1) := by decide +kernel
theorem d190_0 : decode (pm_code 190) 0 = .ok (.iconst 1, 1) := by decide +kernel
theorem d190_1 : decode (pm_code 190) 1 = .ok (.aload_n 0, 1) := by decide +kernel
theorem d190_2 : decode (pm_code 190) 2 = .ok (.iload_n 3, 1) := by decide +kernel
theorem d190_3 : decode (pm_code 190) 3 = .ok (.iconst 0, 1) := by decide +kernel
theorem d190_4 : decode (pm_code 190) 4 = .ok (.invokevirtual 199, 3) := by decide +kernel
theorem d190_7 : decode (pm_code 190) 7 = .ok (.iadd, 1) := by decide +kernel
theorem d190_8 : decode (pm_code 190) 8 = .ok (.aload_n 0, 1) := by decide +kernel
theorem d190_9 : decode (pm_code 190) 9 = .ok (.iconst 4, 1) := by decide +kernel
theorem d190_10 : decode (pm_code 190) 10 = .ok (.iload 4, 2) := by decide +kernel
theorem d190_12 : decode (pm_code 190) 12 = .ok (.iadd, 1) := by decide +kernel
theorem d190_13 : decode (pm_code 190) 13 = .ok (.iconst 0, 1) := by decide +kernel
theorem d190_14 : decode (pm_code 190) 14 = .ok (.invokevirtual 199, 3) := by decide +kernel
theorem d190_17 : decode (pm_code 190) 17 = .ok (.iadd, 1) := by decide +kernel
theorem d190_18 : decode (pm_code 190) 18 = .ok (.bipush 16, 2) := by decide +kernel
theorem d190_20 : decode (pm_code 190) 20 = .ok (.if_icmp .le 5, 3) := by decide +kernel
theorem d190_23 : decode (pm_code 190) 23 = .ok (.iconst 0, 1) := by decide +kernel
theorem d190_24 : decode (pm_code 190) 24 = .ok (.ireturn, 1) := by decide +kernel
theorem d190_25 : decode (pm_code 190) 25 = .ok (.aload_n 0, 1) := by decide +kernel
theorem d190_26 : decode (pm_code 190) 26 = .ok (.getfield 63, 3) := by decide +kernel
theorem d190_29 : decode (pm_code 190) 29 = .ok (.bipush 17, 2) := by decide +kernel
theorem d190_31 : decode (pm_code 190) 31 = .ok (.iconst 4, 1) := by decide +kernel
theorem d190_32 : decode (pm_code 190) 32 = .ok (.iload_n 1, 1) := by decide +kernel
theorem d190_33 : decode (pm_code 190) 33 = .ok (.iadd, 1) := by decide +kernel
theorem d190_34 : decode (pm_code 190) 34 = .ok (.imul, 1) := by decide +kernel
theorem d190_35 : decode (pm_code 190) 35 = .ok (.iload_n 2, 1) := by decide +kernel
theorem d190_36 : decode (pm_code 190) 36 = .ok (.iastore, 1) := by decide +kernel
theorem d190_37 : decode (pm_code 190) 37 = .ok (.aload_n 0, 1) := by decide +kernel
theorem d190_38 : decode (pm_code 190) 38 = .ok (.iload_n 3, 1) := by decide +kernel
theorem d190_39 : decode (pm_code 190) 39 = .ok (.iconst 0, 1) := by decide +kernel
theorem d190_40 : decode (pm_code 190) 40 = .ok (.iconst 4, 1) := by decide +kernel
theorem d190_41 : decode (pm_code 190) 41 = .ok (.iload_n 1, 1) := by decide +kernel
theorem d190_42 : decode (pm_code 190) 42 = .ok (.iadd, 1) := by decide +kernel
theorem d190_43 : decode (pm_code 190) 43 = .ok (.iconst 1, 1) := by decide +kernel
theorem d190_44 : decode (pm_code 190) 44 = .ok (.invokevirtual 209, 3) := by decide +kernel
theorem d190_47 : decode (pm_code 190) 47 = .ok (.aload_n 0, 1) := by decide +kernel
theorem d190_48 : decode (pm_code 190) 48 = .ok (.iconst 4, 1) := by decide +kernel
theorem d190_49 : decode (pm_code 190) 49 = .ok (.iload 4, 2) := by decide +kernel
theorem d190_51 : decode (pm_code 190) 51 = .ok (.iadd, 1) := by decide +kernel
theorem d190_52 : decode (pm_code 190) 52 = .ok (.iconst 0, 1) := by decide +kernel
theorem d190_53 : decode (pm_code 190) 53 = .ok (.iconst 4, 1) := by decide +kernel
theorem d190_54 : decode (pm_code 190) 54 = .ok (.iload_n 1, 1) := by decide +kernel
theorem d190_55 : decode (pm_code 190) 55 = .ok (.iadd, 1) := by decide +kernel
theorem d190_56 : decode (pm_code 190) 56 = .ok (.iconst 1, 1) := by decide +kernel
theorem d190_57 : decode (pm_code 190) 57 = .ok (.aload_n 0, 1) := by decide +kernel
theorem d190_58 : decode (pm_code 190) 58 = .ok (.iload_n 3, 1) := by decide +kernel
theorem d190_59 : decode (pm_code 190) 59 = .ok (.iconst 0, 1) := by decide +kernel
theorem d190_60 : decode (pm_code 190) 60 = .ok (.invokevirtual 199, 3) := by decide +kernel
theorem d190_63 : decode (pm_code 190) 63 = .ok (.iadd, 1) := by decide +kernel
theorem d190_64 : decode (pm_code 190) 64 = .ok (.invokevirtual 209, 3) := by decide +kernel
theorem d190_67 : decode (pm_code 190) 67 = .ok (.iconst 1, 1) := by decide +kernel
theorem d190_68 : decode (pm_code 190) 68 = .ok (.ireturn, 1) := by decide +kernel
theorem d191_0 : decode (pm_code 191) 0 = .ok (.iconst 1, 1) := by decide +kernel
theorem d191_1 : decode (pm_code 191) 1 = .ok (.istore_n 2, 1) := by decide +kernel
theorem d191_2 : decode (pm_code 191) 2 = .ok (.aload_n 0, 1) := by decide +kernel
theorem d191_3 : decode (pm_code 191) 3 = .ok (.iload_n 1, 1) := by decide +kernel
theorem d191_4 : decode (pm_code 191) 4 = .ok (.invokevirtual 189, 3) := by decide +kernel
theorem d191_7 : decode (pm_code 191) 7 = .ok (.istore_n 3, 1) := by decide +kernel
theorem d191_8 : decode (pm_code 191) 8 = .ok (.iload_n 1, 1) := by decide +kernel
theorem d191_9 : decode (pm_code 191) 9 = .ok (.iconst 1, 1) := by decide +kernel
theorem d191_10 : decode (pm_code 191) 10 = .ok (.iadd, 1) := by decide +kernel
theorem d191_11 : decode (pm_code 191) 11 = .ok (.istore 4, 2) := by decide +kernel
theorem d191_13 : decode (pm_code 191) 13 = .ok (.iload 4, 2) := by decide +kernel
theorem d191_15 : decode (pm_code 191) 15 = .ok (.iload_n 3, 1) := by decide +kernel
theorem d191_16 : decode (pm_code 191) 16 = .ok (.if_icmp .ge 26, 3) := by decide +kernel
theorem d191_19 : decode (pm_code 191) 19 = .ok (.iload_n 2, 1) := by decide +kernel
theorem d191_20 : decode (pm_code 191) 20 = .ok (.aload_n 0, 1) := by decide +kernel
theorem d191_21 : decode (pm_code 191) 21 = .ok (.iconst 4, 1) := by decide +kernel
theorem d191_22 : decode (pm_code 191) 22 = .ok (.iload 4, 2) := by decide +kernel
theorem d191_24 : decode (pm_code 191) 24 = .ok (.iadd, 1) := by decide +kernel
theorem d191_25 : decode (pm_code 191) 25 = .ok (.iconst 0, 1) := by decide +kernel
theorem d191_26 : decode (pm_code 191) 26 = .ok (.invokevirtual 199, 3) := by decide +kernel
theorem d191_29 : decode (pm_code 191) 29 = .ok (.iadd, 1) := by decide +kernel
theorem d191_30 : decode (pm_code 191) 30 = .ok (.istore_n 2, 1) := by decide +kernel
theorem d191_31 : decode (pm_code 191) 31 = .ok (.aload_n 0, 1) := by decide +kernel
theorem d191_32 : decode (pm_code 191) 32 = .ok (.iload 4, 2) := by decide +kernel
theorem d191_34 : decode (pm_code 191) 34 = .ok (.invokevirtual 189, 3) := by decide +kernel
theorem d191_37 : decode (pm_code 191) 37 = .ok (.istore 4, 2) := by decide +kernel
theorem d191_39 : decode (pm_code 191) 39 = .ok (.goto (-26), 3) := by decide +kernel
theorem d191_42 : decode (pm_code 191) 42 = .ok (.iload_n 2, 1) := by decide +kernel
theorem d191_43 : decode (pm_code 191) 43 = .ok (.bipush 16, 2) := by decide +kernel
theorem d191_45 : decode (pm_code 191) 45 = .ok (.if_icmp .le 5, 3) := by decide +kernel
theorem d191_48 : decode (pm_code 191) 48 = .ok (.iconst 0, 1) := by decide +kernel
theorem d191_49 : decode (pm_code 191) 49 = .ok (.ireturn, 1) := by decide +kernel
theorem d191_50 : decode (pm_code 191) 50 = .ok (.aload_n 0, 1) := by decide +kernel
theorem d191_51 : decode (pm_code 191) 51 = .ok (.getfield 63, 3) := by decide +kernel
theorem d191_54 : decode (pm_code 191) 54 = .ok (.bipush 17, 2) := by decide +kernel
theorem d191_56 : decode (pm_code 191) 56 = .ok (.iconst 4, 1) := by decide +kernel
theorem d191_57 : decode (pm_code 191) 57 = .ok (.iload_n 1, 1) := by decide +kernel
theorem d191_58 : decode (pm_code 191) 58 = .ok (.iadd, 1) := by decide +kernel
theorem d191_59 : decode (pm_code 191) 59 = .ok (.imul, 1) := by decide +kernel
theorem d191_60 : decode (pm_code 191) 60 = .ok (.bipush 8, 2) := by decide +kernel
theorem d191_62 : decode (pm_code 191) 62 = .ok (.aload_n 0, 1) := by decide +kernel
theorem d191_63 : decode (pm_code 191) 63 = .ok (.getfield 19, 3) := by decide +kernel
theorem d191_66 : decode (pm_code 191) 66 = .ok (.iload_n 1, 1) := by decide +kernel
theorem d191_67 : decode (pm_code 191) 67 = .ok (.iaload, 1) := by decide +kernel
theorem d191_68 : decode (pm_code 191) 68 = .ok (.iadd, 1) := by decide +kernel
theorem d191_69 : decode (pm_code 191) 69 = .ok (.iastore, 1) := by decide +kernel
theorem d191_70 : decode (pm_code 191) 70 = .ok (.iconst 1, 1) := by decide +kernel
theorem d191_71 : decode (pm_code 191) 71 = .ok (.istore 4, 2) := by decide +kernel
theorem d191_73 : decode (pm_code 191) 73 = .ok (.iload_n 1, 1) := by decide +kernel
theorem d191_74 : decode (pm_code 191) 74 = .ok (.iconst 1, 1) := by decide +kernel
theorem d191_75 : decode (pm_code 191) 75 = .ok (.iadd, 1) := by decide +kernel
theorem d191_76 : decode (pm_code 191) 76 = .ok (.istore 5, 2) := by decide +kernel
theorem d191_78 : decode (pm_code 191) 78 = .ok (.iload 5, 2) := by decide +kernel
theorem d191_80 : decode (pm_code 191) 80 = .ok (.iload_n 3, 1) := by decide +kernel
theorem d191_81 : decode (pm_code 191) 81 = .ok (.if_icmp .ge 42, 3) := by decide +kernel
theorem d191_84 : decode (pm_code 191) 84 = .ok (.aload_n 0, 1) := by decide +kernel
theorem d191_85 : decode (pm_code 191) 85 = .ok (.iconst 4, 1) := by decide +kernel
theorem d191_86 : decode (pm_code 191) 86 = .ok (.iload 5, 2) := by decide +kernel
theorem d191_88 : decode (pm_code 191) 88 = .ok (.iadd, 1) := by decide +kernel
theorem d191_89 : decode (pm_code 191) 89 = .ok (.iconst 0, 1) := by decide +kernel
theorem d191_90 : decode (pm_code 191) 90 = .ok (.iconst 4, 1) := by decide +kernel
theorem d191_91 : decode (pm_code 191) 91 = .ok (.iload_n 1, 1) := by decide +kernel
theorem d191_92 : decode (pm_code 191) 92 = .ok (.iadd, 1) := by decide +kernel
theorem d191_93 : decode (pm_code 191) 93 = .ok (.iload 4, 2) := by decide +kernel
theorem d191_95 : decode (pm_code 191) 95 = .ok (.invokevirtual 209, 3) := by decide +kernel
theorem d191_98 : decode (pm_code 191) 98 = .ok (.iload 4, 2) := by decide +kernel
theorem d191_100 : decode (pm_code 191) 100 = .ok (.aload_n 0, 1) := by decide +kernel
theorem d191_101 : decode (pm_code 191) 101 = .ok (.iconst 4, 1) := by decide +kernel
theorem d191_102 : decode (pm_code 191) 102 = .ok (.iload 5, 2) := by decide +kernel
theorem d191_104 : decode (pm_code 191) 104 = .ok (.iadd, 1) := by decide +kernel
theorem d191_105 : decode (pm_code 191) 105 = .ok (.iconst 0, 1) := by decide +kernel
theorem d191_106 : decode (pm_code 191) 106 = .ok (.invokevirtual 199, 3) := by decide +kernel
theorem d191_109 : decode (pm_code 191) 109 = .ok (.iadd, 1) := by decide +kernel
theorem d191_110 : decode (pm_code 191) 110 = .ok (.istore 4, 2) := by decide +kernel
theorem d191_112 : decode (pm_code 191) 112 = .ok (.aload_n 0, 1) := by decide +kernel
theorem d191_113 : decode (pm_code 191) 113 = .ok (.iload 5, 2) := by decide +kernel
theorem d191_115 : decode (pm_code 191) 115 = .ok (.invokevirtual 189, 3) := by decide +kernel
theorem d191_118 : decode (pm_code 191) 118 = .ok (.istore 5, 2) := by decide +kernel
theorem d191_120 : decode (pm_code 191) 120 = .ok (.goto (-42), 3) := by decide +kernel
theorem d191_123 : decode (pm_code 191) 123 = .ok (.iconst 1, 1) := by decide +kernel
theorem d191_124 : decode (pm_code 191) 124 = .ok (.ireturn, 1) := by decide +kernel
theorem d192_0 : decode (pm_code 192) 0 = .ok (.aload_n 0, 1) := by decide +kernel
theorem d192_1 : decode (pm_code 192) 1 = .ok (.iload_n 2, 1) := by decide +kernel
theorem d192_2 : decode (pm_code 192) 2 = .ok (.iload_n 3, 1) := by decide +kernel
theorem d192_3 : decode (pm_code 192) 3 = .ok (.iconst 1, 1) := by decide +kernel
theorem d192_4 : decode (pm_code 192) 4 = .ok (.iadd, 1) := by decide +kernel
theorem d192_5 : decode (pm_code 192) 5 = .ok (.invokevirtual 199, 3) := by decide +kernel
theorem d192_8 : decode (pm_code 192) 8 = .ok (.istore 6, 2) := by decide +kernel
theorem d192_10 : decode (pm_code 192) 10 = .ok (.aload_n 0, 1) := by decide +kernel
theorem d192_11 : decode (pm_code 192) 11 = .ok (.iload_n 2, 1) := by decide +kernel
theorem d192_12 : decode (pm_code 192) 12 = .ok (.iload 6, 2) := by decide +kernel
theorem d192_14 : decode (pm_code 192) 14 = .ok (.invokevirtual 199, 3) := by decide +kernel
theorem d192_17 : decode (pm_code 192) 17 = .ok (.istore 7, 2) := by decide +kernel
theorem d192_19 : decode (pm_code 192) 19 = .ok (.iconst 0, 1) := by decide +kernel
theorem d192_20 : decode (pm_code 192) 20 = .ok (.istore 8, 2) := by decide +kernel
theorem d192_22 : decode (pm_code 192) 22 = .ok (.iload 6, 2) := by decide +kernel
theorem d192_24 : decode (pm_code 192) 24 = .ok (.istore 9, 2) := by decide +kernel
theorem d192_26 : decode (pm_code 192) 26 = .ok (.iload 9, 2) := by decide +kernel
theorem d192_28 : decode (pm_code 192) 28 = .ok (.iload 7, 2) := by decide +kernel
theorem d192_30 : decode (pm_code 192) 30 = .ok (.if_icmp .ge 40, 3) := by decide +kernel
theorem d192_33 : decode (pm_code 192) 33 = .ok (.iload 8, 2) := by decide +kernel
theorem d192_35 : decode (pm_code 192) 35 = .ok (.aload_n 0, 1) := by decide +kernel
theorem d192_36 : decode (pm_code 192) 36 = .ok (.iload_n 2, 1) := by decide +kernel
theorem d192_37 : decode (pm_code 192) 37 = .ok (.iload 9, 2) := by decide +kernel
theorem d192_39 : decode (pm_code 192) 39 = .ok (.invokevirtual 192, 3) := by decide +kernel
theorem d192_42 : decode (pm_code 192) 42 = .ok (.bipush 16, 2) := by decide +kernel
theorem d192_44 : decode (pm_code 192) 44 = .ok (.iload 5, 2) := by decide +kernel
theorem d192_46 : decode (pm_code 192) 46 = .ok (.iadd, 1) := by decide +kernel
theorem d192_47 : decode (pm_code 192) 47 = .ok (.if_icmp .ne 13, 3) := by decide +kernel
theorem d192_50 : decode (pm_code 192) 50 = .ok (.aload_n 0, 1) := by decide +kernel
theorem d192_51 : decode (pm_code 192) 51 = .ok (.iload 4, 2) := by decide +kernel
theorem d192_53 : decode (pm_code 192) 53 = .ok (.iconst 0, 1) := by decide +kernel
theorem d192_54 : decode (pm_code 192) 54 = .ok (.invokevirtual 199, 3) := by decide +kernel
theorem d192_57 : decode (pm_code 192) 57 = .ok (.goto 4, 3) := by decide +kernel
theorem d192_60 : decode (pm_code 192) 60 = .ok (.iconst 1, 1) := by decide +kernel
theorem d192_61 : decode (pm_code 192) 61 = .ok (.iadd, 1) := by decide +kernel
theorem d192_62 : decode (pm_code 192) 62 = .ok (.istore 8, 2) := by decide +kernel
theorem d192_64 : decode (pm_code 192) 64 = .ok (.iinc 9 1, 3) := by decide +kernel
theorem d192_67 : decode (pm_code 192) 67 = .ok (.goto (-41), 3) := by decide +kernel
theorem d192_70 : decode (pm_code 192) 70 = .ok (.iload 8, 2) := by decide +kernel
theorem d192_72 : decode (pm_code 192) 72 = .ok (.bipush 16, 2) := by decide +kernel
theorem d192_74 : decode (pm_code 192) 74 = .ok (.if_icmp .le 5, 3) := by decide +kernel
theorem d192_77 : decode (pm_code 192) 77 = .ok (.iconst 0, 1) := by decide +kernel
theorem d192_78 : decode (pm_code 192) 78 = .ok (.ireturn, 1) := by decide +kernel
theorem d192_79 : decode (pm_code 192) 79 = .ok (.iconst 0, 1) := by decide +kernel
theorem d192_80 : decode (pm_code 192) 80 = .ok (.istore 9, 2) := by decide +kernel
theorem d192_82 : decode (pm_code 192) 82 = .ok (.iconst 4, 1) := by decide +kernel
theorem d192_83 : decode (pm_code 192) 83 = .ok (.iload_n 1, 1) := by decide +kernel
theorem d192_84 : decode (pm_code 192) 84 = .ok (.iadd, 1) := by decide +kernel
theorem d192_85 : decode (pm_code 192) 85 = .ok (.istore 10, 2) := by decide +kernel
theorem d192_87 : decode (pm_code 192) 87 = .ok (.aload_n 0, 1) := by decide +kernel
theorem d192_88 : decode (pm_code 192) 88 = .ok (.invokevirtual 205, 3) := by decide +kernel
theorem d192_91 : decode (pm_code 192) 91 = .ok (.istore 11, 2) := by decide +kernel
theorem d192_93 : decode (pm_code 192) 93 = .ok (.iload 6, 2) := by decide +kernel
theorem d192_95 : decode (pm_code 192) 95 = .ok (.istore 12, 2) := by decide +kernel
theorem d192_97 : decode (pm_code 192) 97 = .ok (.iload 12, 2) := by decide +kernel
theorem d192_99 : decode (pm_code 192) 99 = .ok (.iload 7, 2) := by decide +kernel
theorem d192_101 : decode (pm_code 192) 101 = .ok (.if_icmp .ge 112, 3) := by decide +kernel
theorem d192_104 : decode (pm_code 192) 104 = .ok (.aload_n 0, 1) := by decide +kernel
theorem d192_105 : decode (pm_code 192) 105 = .ok (.iload_n 2, 1) := by decide +kernel
theorem d192_106 : decode (pm_code 192) 106 = .ok (.iload 12, 2) := by decide +kernel
theorem d192_108 : decode (pm_code 192) 108 = .ok (.invokevirtual 192, 3) := by decide +kernel
theorem d192_111 : decode (pm_code 192) 111 = .ok (.istore 13, 2) := by decide +kernel
theorem d192_113 : decode (pm_code 192) 113 = .ok (.iload 13, 2) := by decide +kernel
theorem d192_115 : decode (pm_code 192) 115 = .ok (.bipush 16, 2) := by decide +kernel
theorem d192_117 : decode (pm_code 192) 117 = .ok (.iload 5, 2) := by decide +kernel
theorem d192_119 : decode (pm_code 192) 119 = .ok (.iadd, 1) := by decide +kernel
theorem d192_120 : decode (pm_code 192) 120 = .ok (.if_icmp .ne 52, 3) := by decide +kernel
theorem d192_123 : decode (pm_code 192) 123 = .ok (.aload_n 0, 1) := by decide +kernel
theorem d192_124 : decode (pm_code 192) 124 = .ok (.iload 4, 2) := by decide +kernel
theorem d192_126 : decode (pm_code 192) 126 = .ok (.iconst 0, 1) := by decide +kernel
theorem d192_127 : decode (pm_code 192) 127 = .ok (.iload 5, 2) := by decide +kernel
theorem d192_129 : decode (pm_code 192) 129 = .ok (.iload 5, 2) := by decide +kernel
theorem d192_131 : decode (pm_code 192) 131 = .ok (.aload_n 0, 1) := by decide +kernel
theorem d192_132 : decode (pm_code 192) 132 = .ok (.iload_n 2, 1) := by decide +kernel
theorem d192_133 : decode (pm_code 192) 133 = .ok (.iload 6, 2) := by decide +kernel
theorem d192_135 : decode (pm_code 192) 135 = .ok (.iload 12, 2) := by decide +kernel
theorem d192_137 : decode (pm_code 192) 137 = .ok (.invokevirtual 318, 3) := by decide +kernel
theorem d192_140 : decode (pm_code 192) 140 = .ok (.iadd, 1) := by decide +kernel
theorem d192_141 : decode (pm_code 192) 141 = .ok (.invokevirtual 215, 3) := by decide +kernel
theorem d192_144 : decode (pm_code 192) 144 = .ok (.istore 14, 2) := by decide +kernel
theorem d192_146 : decode (pm_code 192) 146 = .ok (.aload_n 0, 1) := by decide +kernel
theorem d192_147 : decode (pm_code 192) 147 = .ok (.iload 14, 2) := by decide +kernel
theorem d192_149 : decode (pm_code 192) 149 = .ok (.iconst 0, 1) := by decide +kernel
theorem d192_150 : decode (pm_code 192) 150 = .ok (.iload 11, 2) := by decide +kernel
theorem d192_152 : decode (pm_code 192) 152 = .ok (.iload 9, 2) := by decide +kernel
theorem d192_154 : decode (pm_code 192) 154 = .ok (.invokevirtual 209, 3) := by decide +kernel
theorem d192_157 : decode (pm_code 192) 157 = .ok (.iload 9, 2) := by decide +kernel
theorem d192_159 : decode (pm_code 192) 159 = .ok (.aload_n 0, 1) := by decide +kernel
theorem d192_160 : decode (pm_code 192) 160 = .ok (.iload 4, 2) := by decide +kernel
theorem d192_162 : decode (pm_code 192) 162 = .ok (.iconst 0, 1) := by decide +kernel
theorem d192_163 : decode (pm_code 192) 163 = .ok (.invokevirtual 199, 3) := by decide +kernel
theorem d192_166 : decode (pm_code 192) 166 = .ok (.iadd, 1) := by decide +kernel
theorem d192_167 : decode (pm_code 192) 167 = .ok (.istore 9, 2) := by decide +kernel
theorem d192_169 : decode (pm_code 192) 169 = .ok (.goto 38, 3) := by decide +kernel
theorem d192_172 : decode (pm_code 192) 172 = .ok (.aload_n 0, 1) := by decide +kernel
theorem d192_173 : decode (pm_code 192) 173 = .ok (.getfield 63, 3) := by decide +kernel
theorem d192_176 : decode (pm_code 192) 176 = .ok (.bipush 17, 2) := by decide +kernel
theorem d192_178 : decode (pm_code 192) 178 = .ok (.iload 11, 2) := by decide +kernel
theorem d192_180 : decode (pm_code 192) 180 = .ok (.imul, 1) := by decide +kernel
theorem d192_181 : decode (pm_code 192) 181 = .ok (.iload 9, 2) := by decide +kernel
theorem d192_183 : decode (pm_code 192) 183 = .ok (.iadd, 1) := by decide +kernel
theorem d192_184 : decode (pm_code 192) 184 = .ok (.iload 13, 2) := by decide +kernel
theorem d192_186 : decode (pm_code 192) 186 = .ok (.bipush 16, 2) := by decide +kernel
theorem d192_188 : decode (pm_code 192) 188 = .ok (.iload 5, 2) := by decide +kernel
theorem d192_190 : decode (pm_code 192) 190 = .ok (.iadd, 1) := by decide +kernel
theorem d192_191 : decode (pm_code 192) 191 = .ok (.if_icmp .le 10, 3) := by decide +kernel
theorem d192_194 : decode (pm_code 192) 194 = .ok (.iload 13, 2) := by decide +kernel
theorem d192_196 : decode (pm_code 192) 196 = .ok (.iconst 1, 1) := by decide +kernel
theorem d192_197 : decode (pm_code 192) 197 = .ok (.isub, 1) := by decide +kernel
theorem d192_198 : decode (pm_code 192) 198 = .ok (.goto 5, 3) := by decide +kernel
theorem d192_201 : decode (pm_code 192) 201 = .ok (.iload 13, 2) := by decide +kernel
theorem d192_203 : decode (pm_code 192) 203 = .ok (.iastore, 1) := by decide +kernel
theorem d192_204 : decode (pm_code 192) 204 = .ok (.iinc 9 1, 3) := by decide +kernel
theorem d192_207 : decode (pm_code 192) 207 = .ok (.iinc 12 1, 3) := by decide +kernel
theorem d192_210 : decode (pm_code 192) 210 = .ok (.goto (-113), 3) := by decide +kernel
theorem d192_213 : decode (pm_code 192) 213 = .ok (.aload_n 0, 1) := by decide +kernel
theorem d192_214 : decode (pm_code 192) 214 = .ok (.iload 11, 2) := by decide +kernel
theorem d192_216 : decode (pm_code 192) 216 = .ok (.iconst 0, 1) := by decide +kernel
theorem d192_217 : decode (pm_code 192) 217 = .ok (.iload 10, 2) := by decide +kernel
theorem d192_219 : decode (pm_code 192) 219 = .ok (.iconst 0, 1) := by decide +kernel
theorem d192_220 : decode (pm_code 192) 220 = .ok (.invokevirtual 209, 3) := by decide +kernel
theorem d192_223 : decode (pm_code 192) 223 = .ok (.iconst 1, 1) := by decide +kernel
theorem d192_224 : decode (pm_code 192) 224 = .ok (.ireturn, 1) := by decide +kernel
theorem d193_0 : decode (pm_code 193) 0 = .ok (.aload_n 0, 1) := by decide +kernel
theorem d193_1 : decode (pm_code 193) 1 = .ok (.iconst 4, 1) := by decide +kernel
theorem d193_2 : decode (pm_code 193) 2 = .ok (.iload_n 1, 1) := by decide +kernel
theorem d193_3 : decode (pm_code 193) 3 = .ok (.iadd, 1) := by decide +kernel
theorem d193_4 : decode (pm_code 193) 4 = .ok (.iconst 1, 1) := by decide +kernel
theorem d193_5 : decode (pm_code 193) 5 = .ok (.iadd, 1) := by decide +kernel
theorem d193_6 : decode (pm_code 193) 6 = .ok (.iload_n 3, 1) := by decide +kernel
theorem d193_7 : decode (pm_code 193) 7 = .ok (.iload 4, 2) := by decide +kernel
theorem d193_9 : decode (pm_code 193) 9 = .ok (.invokevirtual 327, 3) := by decide +kernel
theorem d193_12 : decode (pm_code 193) 12 = .ok (.aload_n 0, 1) := by decide +kernel
theorem d193_13 : decode (pm_code 193) 13 = .ok (.getfield 321, 3) := by decide +kernel
theorem d193_16 : decode (pm_code 193) 16 = .ok (.istore 5, 2) := by decide +kernel
theorem d193_18 : decode (pm_code 193) 18 = .ok (.aload_n 0, 1) := by decide +kernel
theorem d193_19 : decode (pm_code 193) 19 = .ok (.getfield 324, 3) := by decide +kernel
theorem d193_22 : decode (pm_code 193) 22 = .ok (.istore 6, 2) := by decide +kernel
theorem d193_24 : decode (pm_code 193) 24 = .ok (.aload_n 0, 1) := by decide +kernel
theorem d193_25 : decode (pm_code 193) 25 = .ok (.iload 5, 2) := by decide +kernel
theorem d193_27 : decode (pm_code 193) 27 = .ok (.iload 6, 2) := by decide +kernel
theorem d193_29 : decode (pm_code 193) 29 = .ok (.invokevirtual 192, 3) := by decide +kernel
theorem d193_32 : decode (pm_code 193) 32 = .ok (.istore 7, 2) := by decide +kernel
theorem d193_34 : decode (pm_code 193) 34 = .ok (.aload_n 0, 1) := by decide +kernel
theorem d193_35 : decode (pm_code 193) 35 = .ok (.getfield 16, 3) := by decide +kernel
theorem d193_38 : decode (pm_code 193) 38 = .ok (.iload_n 1, 1) := by decide +kernel
theorem d193_39 : decode (pm_code 193) 39 = .ok (.iaload, 1) := by decide +kernel
theorem d193_40 : decode (pm_code 193) 40 = .ok (.bipush 7, 2) := by decide +kernel
theorem d193_42 : decode (pm_code 193) 42 = .ok (.if_icmp .ne 55, 3) := by decide +kernel
theorem d193_45 : decode (pm_code 193) 45 = .ok (.iload 7, 2) := by decide +kernel
theorem d193_47 : decode (pm_code 193) 47 = .ok (.iconst 1, 1) := by decide +kernel
theorem d193_48 : decode (pm_code 193) 48 = .ok (.if_icmp .ne 47, 3) := by decide +kernel
theorem d193_51 : decode (pm_code 193) 51 = .ok (.aload_n 0, 1) := by decide +kernel
theorem d193_52 : decode (pm_code 193) 52 = .ok (.iconst 4, 1) := by decide +kernel
theorem d193_53 : decode (pm_code 193) 53 = .ok (.iload_n 2, 1) := by decide +kernel
theorem d193_54 : decode (pm_code 193) 54 = .ok (.iadd, 1) := by decide +kernel
theorem d193_55 : decode (pm_code 193) 55 = .ok (.iconst 0, 1) := by decide +kernel
theorem d193_56 : decode (pm_code 193) 56 = .ok (.iload 5, 2) := by decide +kernel
theorem d193_58 : decode (pm_code 193) 58 = .ok (.iload 6, 2) := by decide +kernel
theorem d193_60 : decode (pm_code 193) 60 = .ok (.iconst 1, 1) := by decide +kernel
theorem d193_61 : decode (pm_code 193) 61 = .ok (.iadd, 1) := by decide +kernel
theorem d193_62 : decode (pm_code 193) 62 = .ok (.iload_n 3, 1) := by decide +kernel
theorem d193_63 : decode (pm_code 193) 63 = .ok (.iload 4, 2) := by decide +kernel
theorem d193_65 : decode (pm_code 193) 65 = .ok (.invokevirtual 244, 3) := by decide +kernel
theorem d193_68 : decode (pm_code 193) 68 = .ok (.ifCond .eq 27, 3) := by decide +kernel
theorem d193_71 : decode (pm_code 193) 71 = .ok (.aload_n 0, 1) := by decide +kernel
theorem d193_72 : decode (pm_code 193) 72 = .ok (.iload_n 1, 1) := by decide +kernel
theorem d193_73 : decode (pm_code 193) 73 = .ok (.iload 5, 2) := by decide +kernel
theorem d193_75 : decode (pm_code 193) 75 = .ok (.aload_n 0, 1) := by decide +kernel
theorem d193_76 : decode (pm_code 193) 76 = .ok (.iload 5, 2) := by decide +kernel
theorem d193_78 : decode (pm_code 193) 78 = .ok (.iload 6, 2) := by decide +kernel
theorem d193_80 : decode (pm_code 193) 80 = .ok (.iconst 1, 1) := by decide +kernel
theorem d193_81 : decode (pm_code 193) 81 = .ok (.iadd, 1) := by decide +kernel
theorem d193_82 : decode (pm_code 193) 82 = .ok (.invokevirtual 199, 3) := by decide +kernel
theorem d193_85 : decode (pm_code 193) 85 = .ok (.invokevirtual 330, 3) := by decide +kernel
theorem d193_88 : decode (pm_code 193) 88 = .ok (.ifCond .eq 7, 3) := by decide +kernel
theorem d193_91 : decode (pm_code 193) 91 = .ok (.iconst 1, 1) := by decide +kernel
theorem d193_92 : decode (pm_code 193) 92 = .ok (.goto 4, 3) := by decide +kernel
theorem d193_95 : decode (pm_code 193) 95 = .ok (.iconst 0, 1) := by decide +kernel
theorem d193_96 : decode (pm_code 193) 96 = .ok (.ireturn, 1) := by decide +kernel
theorem d193_97 : decode (pm_code 193) 97 = .ok (.aload_n 0, 1) := by decide +kernel
theorem d193_98 : decode (pm_code 193) 98 = .ok (.getfield 16, 3) := by decide +kernel
theorem d193_101 : decode (pm_code 193) 101 = .ok (.iload_n 1, 1) := by decide +kernel
theorem d193_102 : decode (pm_code 193) 102 = .ok (.iaload, 1) := by decide +kernel
theorem d193_103 : decode (pm_code 193) 103 = .ok (.bipush 11, 2) := by decide +kernel
theorem d193_105 : decode (pm_code 193) 105 = .ok (.if_icmp .ne 55, 3) := by decide +kernel
theorem d193_108 : decode (pm_code 193) 108 = .ok (.iload 7, 2) := by decide +kernel
theorem d193_110 : decode (pm_code 193) 110 = .ok (.bipush 8, 2) := by decide +kernel
theorem d193_112 : decode (pm_code 193) 112 = .ok (.if_icmp .lt 46, 3) := by decide +kernel
theorem d193_115 : decode (pm_code 193) 115 = .ok (.iload 7, 2) := by decide +kernel
theorem d193_117 : decode (pm_code 193) 117 = .ok (.aload_n 0, 1) := by decide +kernel
theorem d193_118 : decode (pm_code 193) 118 = .ok (.getfield 19, 3) := by decide +kernel
theorem d193_121 : decode (pm_code 193) 121 = .ok (.iload_n 1, 1) := by decide +kernel
theorem d193_122 : decode (pm_code 193) 122 = .ok (.iaload, 1) := by decide +kernel
theorem d193_123 : decode (pm_code 193) 123 = .ok (.ishr, 1) := by decide +kernel
theorem d193_124 : decode (pm_code 193) 124 = .ok (.iconst 1, 1) := by decide +kernel
theorem d193_125 : decode (pm_code 193) 125 = .ok (.iand, 1) := by decide +kernel
theorem d193_126 : decode (pm_code 193) 126 = .ok (.iconst 1, 1) := by decide +kernel
theorem d193_127 : decode (pm_code 193) 127 = .ok (.if_icmp .ne 31, 3) := by decide +kernel
theorem d193_130 : decode (pm_code 193) 130 = .ok (.aload_n 0, 1) := by decide +kernel
theorem d193_131 : decode (pm_code 193) 131 = .ok (.iload_n 1, 1) := by decide +kernel
theorem d193_132 : decode (pm_code 193) 132 = .ok (.iload 5, 2) := by decide +kernel
theorem d193_134 : decode (pm_code 193) 134 = .ok (.aload_n 0, 1) := by decide +kernel
theorem d193_135 : decode (pm_code 193) 135 = .ok (.iload 5, 2) := by decide +kernel
theorem d193_137 : decode (pm_code 193) 137 = .ok (.iload 6, 2) := by decide +kernel
theorem d193_139 : decode (pm_code 193) 139 = .ok (.aload_n 0, 1) := by decide +kernel
theorem d193_140 : decode (pm_code 193) 140 = .ok (.getfield 19, 3) := by decide +kernel
theorem d193_143 : decode (pm_code 193) 143 = .ok (.iload_n 1, 1) := by decide +kernel
theorem d193_144 : decode (pm_code 193) 144 = .ok (.iaload, 1) := by decide +kernel
theorem d193_145 : decode (pm_code 193) 145 = .ok (.invokevirtual 232, 3) := by decide +kernel
theorem d193_148 : decode (pm_code 193) 148 = .ok (.invokevirtual 330, 3) := by decide +kernel
theorem d193_151 : decode (pm_code 193) 151 = .ok (.ifCond .eq 7, 3) := by decide +kernel
theorem d193_154 : decode (pm_code 193) 154 = .ok (.iconst 1, 1) := by decide +kernel
theorem d193_155 : decode (pm_code 193) 155 = .ok (.goto 4, 3) := by decide +kernel
theorem d193_158 : decode (pm_code 193) 158 = .ok (.iconst 0, 1) := by decide +kernel
theorem d193_159 : decode (pm_code 193) 159 = .ok (.ireturn, 1) := by decide +kernel
theorem d193_160 : decode (pm_code 193) 160 = .ok (.aload_n 0, 1) := by decide +kernel
theorem d193_161 : decode (pm_code 193) 161 = .ok (.invokevirtual 205, 3) := by decide +kernel
theorem d193_164 : decode (pm_code 193) 164 = .ok (.istore 8, 2) := by decide +kernel
theorem d193_166 : decode (pm_code 193) 166 = .ok (.aload_n 0, 1) := by decide +kernel
theorem d193_167 : decode (pm_code 193) 167 = .ok (.iload_n 2, 1) := by decide +kernel
theorem d193_168 : decode (pm_code 193) 168 = .ok (.iload 8, 2) := by decide +kernel
theorem d193_170 : decode (pm_code 193) 170 = .ok (.invokevirtual 280, 3) := by decide +kernel
theorem d193_173 : decode (pm_code 193) 173 = .ok (.iload 7, 2) := by decide +kernel
theorem d193_175 : decode (pm_code 193) 175 = .ok (.iconst 2, 1) := by decide +kernel
theorem d193_176 : decode (pm_code 193) 176 = .ok (.if_icmp .ne 42, 3) := by decide +kernel
theorem d193_179 : decode (pm_code 193) 179 = .ok (.aload_n 0, 1) := by decide +kernel
theorem d193_180 : decode (pm_code 193) 180 = .ok (.iload 8, 2) := by decide +kernel
theorem d193_182 : decode (pm_code 193) 182 = .ok (.iconst 0, 1) := by decide +kernel
theorem d193_183 : decode (pm_code 193) 183 = .ok (.iload 5, 2) := by decide +kernel
theorem d193_185 : decode (pm_code 193) 185 = .ok (.iload 6, 2) := by decide +kernel
theorem d193_187 : decode (pm_code 193) 187 = .ok (.iconst 1, 1) := by decide +kernel
theorem d193_188 : decode (pm_code 193) 188 = .ok (.iadd, 1) := by decide +kernel
theorem d193_189 : decode (pm_code 193) 189 = .ok (.iload_n 3, 1) := by decide +kernel
theorem d193_190 : decode (pm_code 193) 190 = .ok (.iload 4, 2) := by decide +kernel
theorem d193_192 : decode (pm_code 193) 192 = .ok (.invokevirtual 244, 3) := by decide +kernel
theorem d193_195 : decode (pm_code 193) 195 = .ok (.ifCond .eq 23, 3) := by decide +kernel
theorem d193_198 : decode (pm_code 193) 198 = .ok (.aload_n 0, 1) := by decide +kernel
theorem d193_199 : decode (pm_code 193) 199 = .ok (.iload_n 1, 1) := by decide +kernel
theorem d193_200 : decode (pm_code 193) 200 = .ok (.iload 5, 2) := by decide +kernel
theorem d193_202 : decode (pm_code 193) 202 = .ok (.iload 6, 2) := by decide +kernel
theorem d193_204 : decode (pm_code 193) 204 = .ok (.iload 8, 2) := by decide +kernel
theorem d193_206 : decode (pm_code 193) 206 = .ok (.iload 4, 2) := by decide +kernel
theorem d193_208 : decode (pm_code 193) 208 = .ok (.invokevirtual 334, 3) := by decide +kernel
theorem d193_211 : decode (pm_code 193) 211 = .ok (.ifCond .eq 7, 3) := by decide +kernel
theorem d193_214 : decode (pm_code 193) 214 = .ok (.iconst 1, 1) := by decide +kernel
theorem d193_215 : decode (pm_code 193) 215 = .ok (.goto 4, 3) := by decide +kernel
theorem d193_218 : decode (pm_code 193) 218 = .ok (.iconst 0, 1) := by decide +kernel
theorem d193_219 : decode (pm_code 193) 219 = .ok (.ireturn, 1) := by decide +kernel
theorem d194_0 : decode (pm_code 194) 0 = .ok (.aload_n 0, 1) := by decide +kernel
theorem d194_1 : decode (pm_code 194) 1 = .ok (.getfield 25, 3) := by decide +kernel
theorem d194_4 : decode (pm_code 194) 4 = .ok (.iload_n 1, 1) := by decide +kernel
theorem d194_5 : decode (pm_code 194) 5 = .ok (.iaload, 1) := by decide +kernel
theorem d194_6 : decode (pm_code 194) 6 = .ok (.istore_n 2, 1) := by decide +kernel
theorem d194_7 : decode (pm_code 194) 7 = .ok (.iload_n 2, 1) := by decide +kernel
theorem d194_8 : decode (pm_code 194) 8 = .ok (.ifCond .ge 7, 3) := by decide +kernel
theorem d194_11 : decode (pm_code 194) 11 = .ok (.iconst (-1), 1) := by decide +kernel
theorem d194_12 : decode (pm_code 194) 12 = .ok (.goto 9, 3) := by decide +kernel
theorem d194_15 : decode (pm_code 194) 15 = .ok (.aload_n 0, 1) := by decide +kernel
theorem d194_16 : decode (pm_code 194) 16 = .ok (.getfield 75, 3) := by decide +kernel
theorem d194_19 : decode (pm_code 194) 19 = .ok (.iload_n 2, 1) := by decide +kernel
theorem d194_20 : decode (pm_code 194) 20 = .ok (.iaload, 1) := by decide +kernel
theorem d194_21 : decode (pm_code 194) 21 = .ok (.istore_n 3, 1) := by decide +kernel
theorem d194_22 : decode (pm_code 194) 22 = .ok (.aload_n 0, 1) := by decide +kernel
theorem d194_23 : decode (pm_code 194) 23 = .ok (.iload_n 2, 1) := by decide +kernel
theorem d194_24 : decode (pm_code 194) 24 = .ok (.invokevirtual 202, 3) := by decide +kernel
theorem d194_27 : decode (pm_code 194) 27 = .ok (.istore 4, 2) := by decide +kernel
theorem d194_29 : decode (pm_code 194) 29 = .ok (.aload_n 0, 1) := by decide +kernel
theorem d194_30 : decode (pm_code 194) 30 = .ok (.getfield 16, 3) := by decide +kernel
theorem d194_33 : decode (pm_code 194) 33 = .ok (.iload_n 1, 1) := by decide +kernel
theorem d194_34 : decode (pm_code 194) 34 = .ok (.iaload, 1) := by decide +kernel
theorem d194_35 : decode (pm_code 194) 35 = .ok (.istore 5, 2) := by decide +kernel
theorem d194_37 : decode (pm_code 194) 37 = .ok (.iload 5, 2) := by decide +kernel
theorem d194_39 : decode (pm_code 194) 39 = .ok (.iconst 5, 1) := by decide +kernel
theorem d194_40 : decode (pm_code 194) 40 = .ok (.if_icmp .ne 47, 3) := by decide +kernel
theorem d194_43 : decode (pm_code 194) 43 = .ok (.aload_n 0, 1) := by decide +kernel
theorem d194_44 : decode (pm_code 194) 44 = .ok (.iload_n 2, 1) := by decide +kernel
theorem d194_45 : decode (pm_code 194) 45 = .ok (.iconst 1, 1) := by decide +kernel
theorem d194_46 : decode (pm_code 194) 46 = .ok (.aload_n 0, 1) := by decide +kernel
theorem d194_47 : decode (pm_code 194) 47 = .ok (.getfield 19, 3) := by decide +kernel
theorem d194_50 : decode (pm_code 194) 50 = .ok (.iload_n 1, 1) := by decide +kernel
theorem d194_51 : decode (pm_code 194) 51 = .ok (.iaload, 1) := by decide +kernel
theorem d194_52 : decode (pm_code 194) 52 = .ok (.invokevirtual 186, 3) := by decide +kernel
theorem d194_55 : decode (pm_code 194) 55 = .ok (.istore 6, 2) := by decide +kernel
theorem d194_57 : decode (pm_code 194) 57 = .ok (.aload_n 0, 1) := by decide +kernel
theorem d194_58 : decode (pm_code 194) 58 = .ok (.iload_n 1, 1) := by decide +kernel
theorem d194_59 : decode (pm_code 194) 59 = .ok (.aload_n 0, 1) := by decide +kernel
theorem d194_60 : decode (pm_code 194) 60 = .ok (.bipush 68, 2) := by decide +kernel
theorem d194_62 : decode (pm_code 194) 62 = .ok (.iload 6, 2) := by decide +kernel
theorem d194_64 : decode (pm_code 194) 64 = .ok (.iadd, 1) := by decide +kernel
theorem d194_65 : decode (pm_code 194) 65 = .ok (.iconst 0, 1) := by decide +kernel
theorem d194_66 : decode (pm_code 194) 66 = .ok (.aload_n 0, 1) := by decide +kernel
theorem d194_67 : decode (pm_code 194) 67 = .ok (.aload_n 0, 1) := by decide +kernel
theorem d194_68 : decode (pm_code 194) 68 = .ok (.getfield 31, 3) := by decide +kernel
theorem d194_71 : decode (pm_code 194) 71 = .ok (.iload 6, 2) := by decide +kernel
theorem d194_73 : decode (pm_code 194) 73 = .ok (.iaload, 1) := by decide +kernel
theorem d194_74 : decode (pm_code 194) 74 = .ok (.invokevirtual 202, 3) := by decide +kernel
theorem d194_77 : decode (pm_code 194) 77 = .ok (.iload 4, 2) := by decide +kernel
theorem d194_79 : decode (pm_code 194) 79 = .ok (.invokevirtual 215, 3) := by decide +kernel
theorem d194_82 : decode (pm_code 194) 82 = .ok (.iconst 0, 1) := by decide +kernel
theorem d194_83 : decode (pm_code 194) 83 = .ok (.invokevirtual 330, 3) := by decide +kernel
theorem d194_86 : decode (pm_code 194) 86 = .ok (.ireturn, 1) := by decide +kernel
theorem d194_87 : decode (pm_code 194) 87 = .ok (.iload 5, 2) := by decide +kernel
theorem d194_89 : decode (pm_code 194) 89 = .ok (.bipush 10, 2) := by decide +kernel
theorem d194_91 : decode (pm_code 194) 91 = .ok (.if_icmp .ne 9, 3) := by decide +kernel
theorem d194_94 : decode (pm_code 194) 94 = .ok (.aload_n 0, 1) := by decide +kernel
theorem d194_95 : decode (pm_code 194) 95 = .ok (.iload_n 1, 1) := by decide +kernel
theorem d194_96 : decode (pm_code 194) 96 = .ok (.invokevirtual 338, 3) := by decide +kernel
theorem d194_99 : decode (pm_code 194) 99 = .ok (.ireturn, 1) := by decide +kernel
theorem d194_100 : decode (pm_code 194) 100 = .ok (.iload 5, 2) := by decide +kernel
theorem d194_102 : decode (pm_code 194) 102 = .ok (.bipush 11, 2) := by decide +kernel
theorem d194_104 : decode (pm_code 194) 104 = .ok (.if_icmp .ne 7, 3) := by decide +kernel
theorem d194_107 : decode (pm_code 194) 107 = .ok (.iload_n 1, 1) := by decide +kernel
theorem d194_108 : decode (pm_code 194) 108 = .ok (.goto 10, 3) := by decide +kernel
theorem d194_111 : decode (pm_code 194) 111 = .ok (.aload_n 0, 1) := by decide +kernel
theorem d194_112 : decode (pm_code 194) 112 = .ok (.iload_n 1, 1) := by decide +kernel
theorem d194_113 : decode (pm_code 194) 113 = .ok (.iconst 1, 1) := by decide +kernel
theorem d194_114 : decode (pm_code 194) 114 = .ok (.iadd, 1) := by decide +kernel
theorem d194_115 : decode (pm_code 194) 115 = .ok (.invokevirtual 189, 3) := by decide +kernel
theorem d194_118 : decode (pm_code 194) 118 = .ok (.istore 6, 2) := by decide +kernel
theorem d194_120 : decode (pm_code 194) 120 = .ok (.iload 5, 2) := by decide +kernel
theorem d194_122 : decode (pm_code 194) 122 = .ok (.bipush 6, 2) := by decide +kernel
theorem d194_124 : decode (pm_code 194) 124 = .ok (.if_icmp .eq 10, 3) := by decide +kernel
theorem d194_127 : decode (pm_code 194) 127 = .ok (.iload 5, 2) := by decide +kernel
theorem d194_129 : decode (pm_code 194) 129 = .ok (.bipush 8, 2) := by decide +kernel
theorem d194_131 : decode (pm_code 194) 131 = .ok (.if_icmp .ne 32, 3) := by decide +kernel
theorem d194_134 : decode (pm_code 194) 134 = .ok (.aload_n 0, 1) := by decide +kernel
theorem d194_135 : decode (pm_code 194) 135 = .ok (.iload_n 1, 1) := by decide +kernel
theorem d194_136 : decode (pm_code 194) 136 = .ok (.iload 5, 2) := by decide +kernel
theorem d194_138 : decode (pm_code 194) 138 = .ok (.bipush 6, 2) := by decide +kernel
theorem d194_140 : decode (pm_code 194) 140 = .ok (.if_icmp .ne 7, 3) := by decide +kernel
theorem d194_143 : decode (pm_code 194) 143 = .ok (.iconst 1, 1) := by decide +kernel
theorem d194_144 : decode (pm_code 194) 144 = .ok (.goto 4, 3) := by decide +kernel
theorem d194_147 : decode (pm_code 194) 147 = .ok (.iconst 2, 1) := by decide +kernel
theorem d194_148 : decode (pm_code 194) 148 = .ok (.bipush 68, 2) := by decide +kernel
theorem d194_150 : decode (pm_code 194) 150 = .ok (.aload_n 0, 1) := by decide +kernel
theorem d194_151 : decode (pm_code 194) 151 = .ok (.getfield 28, 3) := by decide +kernel
theorem d194_154 : decode (pm_code 194) 154 = .ok (.iload_n 1, 1) := by decide +kernel
theorem d194_155 : decode (pm_code 194) 155 = .ok (.iaload, 1) := by decide +kernel
theorem d194_156 : decode (pm_code 194) 156 = .ok (.iadd, 1) := by decide +kernel
theorem d194_157 : decode (pm_code 194) 157 = .ok (.iload 6, 2) := by decide +kernel
theorem d194_159 : decode (pm_code 194) 159 = .ok (.invokevirtual 341, 3) := by decide +kernel
theorem d194_162 : decode (pm_code 194) 162 = .ok (.ireturn, 1) := by decide +kernel
theorem d194_163 : decode (pm_code 194) 163 = .ok (.iload 5, 2) := by decide +kernel
theorem d194_165 : decode (pm_code 194) 165 = .ok (.bipush 12, 2) := by decide +kernel
theorem d194_167 : decode (pm_code 194) 167 = .ok (.if_icmp .eq 14, 3) := by decide +kernel
theorem d194_170 : decode (pm_code 194) 170 = .ok (.aload_n 0, 1) := by decide +kernel
theorem d194_171 : decode (pm_code 194) 171 = .ok (.iload_n 1, 1) := by decide +kernel
theorem d194_172 : decode (pm_code 194) 172 = .ok (.iload 6, 2) := by decide +kernel
theorem d194_174 : decode (pm_code 194) 174 = .ok (.iload_n 3, 1) := by decide +kernel
theorem d194_175 : decode (pm_code 194) 175 = .ok (.iload 4, 2) := by decide +kernel
theorem d194_177 : decode (pm_code 194) 177 = .ok (.invokevirtual 344, 3) := by decide +kernel
theorem d194_180 : decode (pm_code 194) 180 = .ok (.ireturn, 1) := by decide +kernel
theorem d194_181 : decode (pm_code 194) 181 = .ok (.aload_n 0, 1) := by decide +kernel
theorem d194_182 : decode (pm_code 194) 182 = .ok (.iconst 0, 1) := by decide +kernel
theorem d194_183 : decode (pm_code 194) 183 = .ok (.iconst 4, 1) := by decide +kernel
theorem d194_184 : decode (pm_code 194) 184 = .ok (.iload_n 1, 1) := by decide +kernel
theorem d194_185 : decode (pm_code 194) 185 = .ok (.iadd, 1) := by decide +kernel
theorem d194_186 : decode (pm_code 194) 186 = .ok (.iconst 1, 1) := by decide +kernel
theorem d194_187 : decode (pm_code 194) 187 = .ok (.iadd, 1) := by decide +kernel
theorem d194_188 : decode (pm_code 194) 188 = .ok (.iconst 4, 1) := by decide +kernel
theorem d194_189 : decode (pm_code 194) 189 = .ok (.iload 6, 2) := by decide +kernel
theorem d194_191 : decode (pm_code 194) 191 = .ok (.iadd, 1) := by decide +kernel
theorem d194_192 : decode (pm_code 194) 192 = .ok (.iload_n 3, 1) := by decide +kernel
theorem d194_193 : decode (pm_code 194) 193 = .ok (.iload 4, 2) := by decide +kernel
theorem d194_195 : decode (pm_code 194) 195 = .ok (.invokevirtual 302, 3) := by decide +kernel
theorem d194_198 : decode (pm_code 194) 198 = .ok (.iconst 1, 1) := by decide +kernel
theorem d194_199 : decode (pm_code 194) 199 = .ok (.if_icmp .ne 27, 3) := by decide +kernel
theorem d194_202 : decode (pm_code 194) 202 = .ok (.aload_n 0, 1) := by decide +kernel
theorem d194_203 : decode (pm_code 194) 203 = .ok (.iload_n 1, 1) := by decide +kernel
theorem d194_204 : decode (pm_code 194) 204 = .ok (.aload_n 0, 1) := by decide +kernel
theorem d194_205 : decode (pm_code 194) 205 = .ok (.getfield 99, 3) := by decide +kernel
theorem d194_208 : decode (pm_code 194) 208 = .ok (.iconst 0, 1) := by decide +kernel
theorem d194_209 : decode (pm_code 194) 209 = .ok (.iaload, 1) := by decide +kernel
theorem d194_210 : decode (pm_code 194) 210 = .ok (.aload_n 0, 1) := by decide +kernel
theorem d194_211 : decode (pm_code 194) 211 = .ok (.getfield 102, 3) := by decide +kernel
theorem d194_214 : decode (pm_code 194) 214 = .ok (.iconst 0, 1) := by decide +kernel
theorem d194_215 : decode (pm_code 194) 215 = .ok (.iaload, 1) := by decide +kernel
theorem d194_216 : decode (pm_code 194) 216 = .ok (.invokevirtual 330, 3) := by decide +kernel
theorem d194_219 : decode (pm_code 194) 219 = .ok (.ifCond .eq 7, 3) := by decide +kernel
theorem d194_222 : decode (pm_code 194) 222 = .ok (.iconst 1, 1) := by decide +kernel
theorem d194_223 : decode (pm_code 194) 223 = .ok (.goto 4, 3) := by decide +kernel
theorem d194_226 : decode (pm_code 194) 226 = .ok (.iconst 0, 1) := by decide +kernel
theorem d194_227 : decode (pm_code 194) 227 = .ok (.ireturn, 1) := by decide +kernel
