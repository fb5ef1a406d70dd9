/-! DECODE ROWS (by program) of methods 44 to 73. -/
theorem d44_0 : decode (pm_code 44) 0 = .ok (.iload 5, 2) := by decide +kernel
theorem d44_2 : decode (pm_code 44) 2 = .ok (.bipush 40, 2) := by decide +kernel
theorem d44_4 : decode (pm_code 44) 4 = .ok (.if_icmp .lt 5, 3) := by decide +kernel
theorem d44_7 : decode (pm_code 44) 7 = .ok (.iload_n 1, 1) := by decide +kernel
theorem d44_8 : decode (pm_code 44) 8 = .ok (.ireturn, 1) := by decide +kernel
theorem d44_9 : decode (pm_code 44) 9 = .ok (.aload_n 0, 1) := by decide +kernel
theorem d44_10 : decode (pm_code 44) 10 = .ok (.iload_n 1, 1) := by decide +kernel
theorem d44_11 : decode (pm_code 44) 11 = .ok (.invokevirtual 90, 3) := by decide +kernel
theorem d44_14 : decode (pm_code 44) 14 = .ok (.ifCond .eq 45, 3) := by decide +kernel
theorem d44_17 : decode (pm_code 44) 17 = .ok (.aload_n 0, 1) := by decide +kernel
theorem d44_18 : decode (pm_code 44) 18 = .ok (.iload_n 1, 1) := by decide +kernel
theorem d44_19 : decode (pm_code 44) 19 = .ok (.invokevirtual 93, 3) := by decide +kernel
theorem d44_22 : decode (pm_code 44) 22 = .ok (.istore 6, 2) := by decide +kernel
theorem d44_24 : decode (pm_code 44) 24 = .ok (.iload 6, 2) := by decide +kernel
theorem d44_26 : decode (pm_code 44) 26 = .ok (.iload_n 2, 1) := by decide +kernel
theorem d44_27 : decode (pm_code 44) 27 = .ok (.if_icmp .ne 13, 3) := by decide +kernel
theorem d44_30 : decode (pm_code 44) 30 = .ok (.aload_n 0, 1) := by decide +kernel
theorem d44_31 : decode (pm_code 44) 31 = .ok (.iload_n 3, 1) := by decide +kernel
theorem d44_32 : decode (pm_code 44) 32 = .ok (.iload_n 2, 1) := by decide +kernel
theorem d44_33 : decode (pm_code 44) 33 = .ok (.iload 4, 2) := by decide +kernel
theorem d44_35 : decode (pm_code 44) 35 = .ok (.iconst 0, 1) := by decide +kernel
theorem d44_36 : decode (pm_code 44) 36 = .ok (.invokevirtual 100, 3) := by decide +kernel
theorem d44_39 : decode (pm_code 44) 39 = .ok (.ireturn, 1) := by decide +kernel
theorem d44_40 : decode (pm_code 44) 40 = .ok (.iload 6, 2) := by decide +kernel
theorem d44_42 : decode (pm_code 44) 42 = .ok (.iload_n 2, 1) := by decide +kernel
theorem d44_43 : decode (pm_code 44) 43 = .ok (.if_icmp .ge 7, 3) := by decide +kernel
theorem d44_46 : decode (pm_code 44) 46 = .ok (.iload_n 1, 1) := by decide +kernel
theorem d44_47 : decode (pm_code 44) 47 = .ok (.goto 11, 3) := by decide +kernel
theorem d44_50 : decode (pm_code 44) 50 = .ok (.aload_n 0, 1) := by decide +kernel
theorem d44_51 : decode (pm_code 44) 51 = .ok (.iload 6, 2) := by decide +kernel
theorem d44_53 : decode (pm_code 44) 53 = .ok (.iconst 1, 1) := by decide +kernel
theorem d44_54 : decode (pm_code 44) 54 = .ok (.isub, 1) := by decide +kernel
theorem d44_55 : decode (pm_code 44) 55 = .ok (.invokevirtual 97, 3) := by decide +kernel
theorem d44_58 : decode (pm_code 44) 58 = .ok (.ireturn, 1) := by decide +kernel
theorem d44_59 : decode (pm_code 44) 59 = .ok (.aload_n 0, 1) := by decide +kernel
theorem d44_60 : decode (pm_code 44) 60 = .ok (.getfield 11, 3) := by decide +kernel
theorem d44_63 : decode (pm_code 44) 63 = .ok (.iload_n 1, 1) := by decide +kernel
theorem d44_64 : decode (pm_code 44) 64 = .ok (.iaload, 1) := by decide +kernel
theorem d44_65 : decode (pm_code 44) 65 = .ok (.bipush 35, 2) := by decide +kernel
theorem d44_67 : decode (pm_code 44) 67 = .ok (.if_icmp .ne 10, 3) := by decide +kernel
theorem d44_70 : decode (pm_code 44) 70 = .ok (.iload 4, 2) := by decide +kernel
theorem d44_72 : decode (pm_code 44) 72 = .ok (.iconst 1, 1) := by decide +kernel
theorem d44_73 : decode (pm_code 44) 73 = .ok (.iadd, 1) := by decide +kernel
theorem d44_74 : decode (pm_code 44) 74 = .ok (.goto 5, 3) := by decide +kernel
theorem d44_77 : decode (pm_code 44) 77 = .ok (.iload 4, 2) := by decide +kernel
theorem d44_79 : decode (pm_code 44) 79 = .ok (.istore 6, 2) := by decide +kernel
theorem d44_81 : decode (pm_code 44) 81 = .ok (.aload_n 0, 1) := by decide +kernel
theorem d44_82 : decode (pm_code 44) 82 = .ok (.getfield 11, 3) := by decide +kernel
theorem d44_85 : decode (pm_code 44) 85 = .ok (.iload_n 1, 1) := by decide +kernel
theorem d44_86 : decode (pm_code 44) 86 = .ok (.iaload, 1) := by decide +kernel
theorem d44_87 : decode (pm_code 44) 87 = .ok (.iconst 0, 1) := by decide +kernel
theorem d44_88 : decode (pm_code 44) 88 = .ok (.invokestatic 38, 3) := by decide +kernel
theorem d44_91 : decode (pm_code 44) 91 = .ok (.ifCond .eq 24, 3) := by decide +kernel
theorem d44_94 : decode (pm_code 44) 94 = .ok (.aload_n 0, 1) := by decide +kernel
theorem d44_95 : decode (pm_code 44) 95 = .ok (.aload_n 0, 1) := by decide +kernel
theorem d44_96 : decode (pm_code 44) 96 = .ok (.getfield 15, 3) := by decide +kernel
theorem d44_99 : decode (pm_code 44) 99 = .ok (.iload_n 1, 1) := by decide +kernel
theorem d44_100 : decode (pm_code 44) 100 = .ok (.iaload, 1) := by decide +kernel
theorem d44_101 : decode (pm_code 44) 101 = .ok (.iload_n 2, 1) := by decide +kernel
theorem d44_102 : decode (pm_code 44) 102 = .ok (.iload_n 3, 1) := by decide +kernel
theorem d44_103 : decode (pm_code 44) 103 = .ok (.iload 4, 2) := by decide +kernel
theorem d44_105 : decode (pm_code 44) 105 = .ok (.iload 5, 2) := by decide +kernel
theorem d44_107 : decode (pm_code 44) 107 = .ok (.iconst 1, 1) := by decide +kernel
theorem d44_108 : decode (pm_code 44) 108 = .ok (.iadd, 1) := by decide +kernel
theorem d44_109 : decode (pm_code 44) 109 = .ok (.invokevirtual 106, 3) := by decide +kernel
theorem d44_112 : decode (pm_code 44) 112 = .ok (.goto 9, 3) := by decide +kernel
theorem d44_115 : decode (pm_code 44) 115 = .ok (.aload_n 0, 1) := by decide +kernel
theorem d44_116 : decode (pm_code 44) 116 = .ok (.getfield 15, 3) := by decide +kernel
theorem d44_119 : decode (pm_code 44) 119 = .ok (.iload_n 1, 1) := by decide +kernel
theorem d44_120 : decode (pm_code 44) 120 = .ok (.iaload, 1) := by decide +kernel
theorem d44_121 : decode (pm_code 44) 121 = .ok (.istore 7, 2) := by decide +kernel
theorem d44_123 : decode (pm_code 44) 123 = .ok (.aload_n 0, 1) := by decide +kernel
theorem d44_124 : decode (pm_code 44) 124 = .ok (.getfield 11, 3) := by decide +kernel
theorem d44_127 : decode (pm_code 44) 127 = .ok (.iload_n 1, 1) := by decide +kernel
theorem d44_128 : decode (pm_code 44) 128 = .ok (.iaload, 1) := by decide +kernel
theorem d44_129 : decode (pm_code 44) 129 = .ok (.iconst 1, 1) := by decide +kernel
theorem d44_130 : decode (pm_code 44) 130 = .ok (.invokestatic 38, 3) := by decide +kernel
theorem d44_133 : decode (pm_code 44) 133 = .ok (.ifCond .eq 24, 3) := by decide +kernel
theorem d44_136 : decode (pm_code 44) 136 = .ok (.aload_n 0, 1) := by decide +kernel
theorem d44_137 : decode (pm_code 44) 137 = .ok (.aload_n 0, 1) := by decide +kernel
theorem d44_138 : decode (pm_code 44) 138 = .ok (.getfield 18, 3) := by decide +kernel
theorem d44_141 : decode (pm_code 44) 141 = .ok (.iload_n 1, 1) := by decide +kernel
theorem d44_142 : decode (pm_code 44) 142 = .ok (.iaload, 1) := by decide +kernel
theorem d44_143 : decode (pm_code 44) 143 = .ok (.iload_n 2, 1) := by decide +kernel
theorem d44_144 : decode (pm_code 44) 144 = .ok (.iload_n 3, 1) := by decide +kernel
theorem d44_145 : decode (pm_code 44) 145 = .ok (.iload 6, 2) := by decide +kernel
theorem d44_147 : decode (pm_code 44) 147 = .ok (.iload 5, 2) := by decide +kernel
theorem d44_149 : decode (pm_code 44) 149 = .ok (.iconst 1, 1) := by decide +kernel
theorem d44_150 : decode (pm_code 44) 150 = .ok (.iadd, 1) := by decide +kernel
theorem d44_151 : decode (pm_code 44) 151 = .ok (.invokevirtual 106, 3) := by decide +kernel
theorem d44_154 : decode (pm_code 44) 154 = .ok (.goto 9, 3) := by decide +kernel
theorem d44_157 : decode (pm_code 44) 157 = .ok (.aload_n 0, 1) := by decide +kernel
theorem d44_158 : decode (pm_code 44) 158 = .ok (.getfield 18, 3) := by decide +kernel
theorem d44_161 : decode (pm_code 44) 161 = .ok (.iload_n 1, 1) := by decide +kernel
theorem d44_162 : decode (pm_code 44) 162 = .ok (.iaload, 1) := by decide +kernel
theorem d44_163 : decode (pm_code 44) 163 = .ok (.istore 8, 2) := by decide +kernel
theorem d44_165 : decode (pm_code 44) 165 = .ok (.aload_n 0, 1) := by decide +kernel
theorem d44_166 : decode (pm_code 44) 166 = .ok (.getfield 11, 3) := by decide +kernel
theorem d44_169 : decode (pm_code 44) 169 = .ok (.iload_n 1, 1) := by decide +kernel
theorem d44_170 : decode (pm_code 44) 170 = .ok (.iaload, 1) := by decide +kernel
theorem d44_171 : decode (pm_code 44) 171 = .ok (.iconst 2, 1) := by decide +kernel
theorem d44_172 : decode (pm_code 44) 172 = .ok (.invokestatic 38, 3) := by decide +kernel
theorem d44_175 : decode (pm_code 44) 175 = .ok (.ifCond .eq 24, 3) := by decide +kernel
theorem d44_178 : decode (pm_code 44) 178 = .ok (.aload_n 0, 1) := by decide +kernel
theorem d44_179 : decode (pm_code 44) 179 = .ok (.aload_n 0, 1) := by decide +kernel
theorem d44_180 : decode (pm_code 44) 180 = .ok (.getfield 21, 3) := by decide +kernel
theorem d44_183 : decode (pm_code 44) 183 = .ok (.iload_n 1, 1) := by decide +kernel
theorem d44_184 : decode (pm_code 44) 184 = .ok (.iaload, 1) := by decide +kernel
theorem d44_185 : decode (pm_code 44) 185 = .ok (.iload_n 2, 1) := by decide +kernel
theorem d44_186 : decode (pm_code 44) 186 = .ok (.iload_n 3, 1) := by decide +kernel
theorem d44_187 : decode (pm_code 44) 187 = .ok (.iload 4, 2) := by decide +kernel
theorem d44_189 : decode (pm_code 44) 189 = .ok (.iload 5, 2) := by decide +kernel
theorem d44_191 : decode (pm_code 44) 191 = .ok (.iconst 1, 1) := by decide +kernel
theorem d44_192 : decode (pm_code 44) 192 = .ok (.iadd, 1) := by decide +kernel
theorem d44_193 : decode (pm_code 44) 193 = .ok (.invokevirtual 106, 3) := by decide +kernel
theorem d44_196 : decode (pm_code 44) 196 = .ok (.goto 9, 3) := by decide +kernel
theorem d44_199 : decode (pm_code 44) 199 = .ok (.aload_n 0, 1) := by decide +kernel
theorem d44_200 : decode (pm_code 44) 200 = .ok (.getfield 21, 3) := by decide +kernel
theorem d44_203 : decode (pm_code 44) 203 = .ok (.iload_n 1, 1) := by decide +kernel
theorem d44_204 : decode (pm_code 44) 204 = .ok (.iaload, 1) := by decide +kernel
theorem d44_205 : decode (pm_code 44) 205 = .ok (.istore 9, 2) := by decide +kernel
theorem d44_207 : decode (pm_code 44) 207 = .ok (.aload_n 0, 1) := by decide +kernel
theorem d44_208 : decode (pm_code 44) 208 = .ok (.iload_n 1, 1) := by decide +kernel
theorem d44_209 : decode (pm_code 44) 209 = .ok (.iload 7, 2) := by decide +kernel
theorem d44_211 : decode (pm_code 44) 211 = .ok (.iload 8, 2) := by decide +kernel
theorem d44_213 : decode (pm_code 44) 213 = .ok (.iload 9, 2) := by decide +kernel
theorem d44_215 : decode (pm_code 44) 215 = .ok (.invokevirtual 103, 3) := by decide +kernel
theorem d44_218 : decode (pm_code 44) 218 = .ok (.ireturn, 1) := by decide +kernel
theorem d45_0 : decode (pm_code 45) 0 = .ok (.aload_n 0, 1) := by decide +kernel
theorem d45_1 : decode (pm_code 45) 1 = .ok (.iload_n 1, 1) := by decide +kernel
theorem d45_2 : decode (pm_code 45) 2 = .ok (.invokevirtual 93, 3) := by decide +kernel
theorem d45_5 : decode (pm_code 45) 5 = .ok (.istore_n 3, 1) := by decide +kernel
theorem d45_6 : decode (pm_code 45) 6 = .ok (.iload_n 3, 1) := by decide +kernel
theorem d45_7 : decode (pm_code 45) 7 = .ok (.ifCond .lt 14, 3) := by decide +kernel
theorem d45_10 : decode (pm_code 45) 10 = .ok (.iload_n 3, 1) := by decide +kernel
theorem d45_11 : decode (pm_code 45) 11 = .ok (.iload_n 2, 1) := by decide +kernel
theorem d45_12 : decode (pm_code 45) 12 = .ok (.if_icmp .ge 9, 3) := by decide +kernel
theorem d45_15 : decode (pm_code 45) 15 = .ok (.iload_n 3, 1) := by decide +kernel
theorem d45_16 : decode (pm_code 45) 16 = .ok (.bipush 64, 2) := by decide +kernel
theorem d45_18 : decode (pm_code 45) 18 = .ok (.if_icmp .lt 5, 3) := by decide +kernel
theorem d45_21 : decode (pm_code 45) 21 = .ok (.iconst 0, 1) := by decide +kernel
theorem d45_22 : decode (pm_code 45) 22 = .ok (.ireturn, 1) := by decide +kernel
theorem d45_23 : decode (pm_code 45) 23 = .ok (.aload_n 0, 1) := by decide +kernel
theorem d45_24 : decode (pm_code 45) 24 = .ok (.aload_n 0, 1) := by decide +kernel
theorem d45_25 : decode (pm_code 45) 25 = .ok (.getfield 27, 3) := by decide +kernel
theorem d45_28 : decode (pm_code 45) 28 = .ok (.iload_n 3, 1) := by decide +kernel
theorem d45_29 : decode (pm_code 45) 29 = .ok (.iaload, 1) := by decide +kernel
theorem d45_30 : decode (pm_code 45) 30 = .ok (.iload_n 3, 1) := by decide +kernel
theorem d45_31 : decode (pm_code 45) 31 = .ok (.iload_n 2, 1) := by decide +kernel
theorem d45_32 : decode (pm_code 45) 32 = .ok (.iload_n 3, 1) := by decide +kernel
theorem d45_33 : decode (pm_code 45) 33 = .ok (.isub, 1) := by decide +kernel
theorem d45_34 : decode (pm_code 45) 34 = .ok (.iconst 0, 1) := by decide +kernel
theorem d45_35 : decode (pm_code 45) 35 = .ok (.invokevirtual 100, 3) := by decide +kernel
theorem d45_38 : decode (pm_code 45) 38 = .ok (.ireturn, 1) := by decide +kernel
theorem d46_0 : decode (pm_code 46) 0 = .ok (.iload_n 1, 1) := by decide +kernel
theorem d46_1 : decode (pm_code 46) 1 = .ok (.istore_n 3, 1) := by decide +kernel
theorem d46_2 : decode (pm_code 46) 2 = .ok (.iconst 0, 1) := by decide +kernel
theorem d46_3 : decode (pm_code 46) 3 = .ok (.istore 4, 2) := by decide +kernel
theorem d46_5 : decode (pm_code 46) 5 = .ok (.iload 4, 2) := by decide +kernel
theorem d46_7 : decode (pm_code 46) 7 = .ok (.iload_n 2, 1) := by decide +kernel
theorem d46_8 : decode (pm_code 46) 8 = .ok (.if_icmp .ge 24, 3) := by decide +kernel
theorem d46_11 : decode (pm_code 46) 11 = .ok (.aload_n 0, 1) := by decide +kernel
theorem d46_12 : decode (pm_code 46) 12 = .ok (.iload_n 3, 1) := by decide +kernel
theorem d46_13 : decode (pm_code 46) 13 = .ok (.invokevirtual 90, 3) := by decide +kernel
theorem d46_16 : decode (pm_code 46) 16 = .ok (.ifCond .eq 16, 3) := by decide +kernel
theorem d46_19 : decode (pm_code 46) 19 = .ok (.aload_n 0, 1) := by decide +kernel
theorem d46_20 : decode (pm_code 46) 20 = .ok (.iload_n 3, 1) := by decide +kernel
theorem d46_21 : decode (pm_code 46) 21 = .ok (.iload_n 2, 1) := by decide +kernel
theorem d46_22 : decode (pm_code 46) 22 = .ok (.invokevirtual 110, 3) := by decide +kernel
theorem d46_25 : decode (pm_code 46) 25 = .ok (.istore_n 3, 1) := by decide +kernel
theorem d46_26 : decode (pm_code 46) 26 = .ok (.iinc 4 1, 3) := by decide +kernel
theorem d46_29 : decode (pm_code 46) 29 = .ok (.goto (-24), 3) := by decide +kernel
theorem d46_32 : decode (pm_code 46) 32 = .ok (.iload_n 3, 1) := by decide +kernel
theorem d46_33 : decode (pm_code 46) 33 = .ok (.ireturn, 1) := by decide +kernel
theorem d47_0 : decode (pm_code 47) 0 = .ok (.iload_n 2, 1) := by decide +kernel
theorem d47_1 : decode (pm_code 47) 1 = .ok (.ifCond .lt 9, 3) := by decide +kernel
theorem d47_4 : decode (pm_code 47) 4 = .ok (.iload_n 2, 1) := by decide +kernel
theorem d47_5 : decode (pm_code 47) 5 = .ok (.bipush 64, 2) := by decide +kernel
theorem d47_7 : decode (pm_code 47) 7 = .ok (.if_icmp .lt 5, 3) := by decide +kernel
theorem d47_10 : decode (pm_code 47) 10 = .ok (.iconst 0, 1) := by decide +kernel
theorem d47_11 : decode (pm_code 47) 11 = .ok (.ireturn, 1) := by decide +kernel
theorem d47_12 : decode (pm_code 47) 12 = .ok (.aload_n 0, 1) := by decide +kernel
theorem d47_13 : decode (pm_code 47) 13 = .ok (.getfield 27, 3) := by decide +kernel
theorem d47_16 : decode (pm_code 47) 16 = .ok (.iload_n 2, 1) := by decide +kernel
theorem d47_17 : decode (pm_code 47) 17 = .ok (.iload_n 1, 1) := by decide +kernel
theorem d47_18 : decode (pm_code 47) 18 = .ok (.iastore, 1) := by decide +kernel
theorem d47_19 : decode (pm_code 47) 19 = .ok (.iconst 1, 1) := by decide +kernel
theorem d47_20 : decode (pm_code 47) 20 = .ok (.ireturn, 1) := by decide +kernel
theorem d48_0 : decode (pm_code 48) 0 = .ok (.iload 4, 2) := by decide +kernel
theorem d48_2 : decode (pm_code 48) 2 = .ok (.bipush 40, 2) := by decide +kernel
theorem d48_4 : decode (pm_code 48) 4 = .ok (.if_icmp .lt 5, 3) := by decide +kernel
theorem d48_7 : decode (pm_code 48) 7 = .ok (.iconst 0, 1) := by decide +kernel
theorem d48_8 : decode (pm_code 48) 8 = .ok (.ireturn, 1) := by decide +kernel
theorem d48_9 : decode (pm_code 48) 9 = .ok (.aload_n 0, 1) := by decide +kernel
theorem d48_10 : decode (pm_code 48) 10 = .ok (.getfield 30, 3) := by decide +kernel
theorem d48_13 : decode (pm_code 48) 13 = .ok (.istore 5, 2) := by decide +kernel
theorem d48_15 : decode (pm_code 48) 15 = .ok (.aload_n 0, 1) := by decide +kernel
theorem d48_16 : decode (pm_code 48) 16 = .ok (.getfield 11, 3) := by decide +kernel
theorem d48_19 : decode (pm_code 48) 19 = .ok (.iload_n 2, 1) := by decide +kernel
theorem d48_20 : decode (pm_code 48) 20 = .ok (.iaload, 1) := by decide +kernel
theorem d48_21 : decode (pm_code 48) 21 = .ok (.ifCond .eq 15, 3) := by decide +kernel
theorem d48_24 : decode (pm_code 48) 24 = .ok (.aload_n 0, 1) := by decide +kernel
theorem d48_25 : decode (pm_code 48) 25 = .ok (.iload_n 1, 1) := by decide +kernel
theorem d48_26 : decode (pm_code 48) 26 = .ok (.iload_n 2, 1) := by decide +kernel
theorem d48_27 : decode (pm_code 48) 27 = .ok (.iload_n 3, 1) := by decide +kernel
theorem d48_28 : decode (pm_code 48) 28 = .ok (.iload 4, 2) := by decide +kernel
theorem d48_30 : decode (pm_code 48) 30 = .ok (.invokevirtual 113, 3) := by decide +kernel
theorem d48_33 : decode (pm_code 48) 33 = .ok (.ifCond .eq 7, 3) := by decide +kernel
theorem d48_36 : decode (pm_code 48) 36 = .ok (.iconst 1, 1) := by decide +kernel
theorem d48_37 : decode (pm_code 48) 37 = .ok (.goto 4, 3) := by decide +kernel
theorem d48_40 : decode (pm_code 48) 40 = .ok (.iconst 0, 1) := by decide +kernel
theorem d48_41 : decode (pm_code 48) 41 = .ok (.istore 6, 2) := by decide +kernel
theorem d48_43 : decode (pm_code 48) 43 = .ok (.aload_n 0, 1) := by decide +kernel
theorem d48_44 : decode (pm_code 48) 44 = .ok (.iload 5, 2) := by decide +kernel
theorem d48_46 : decode (pm_code 48) 46 = .ok (.putfield 30, 3) := by decide +kernel
theorem d48_49 : decode (pm_code 48) 49 = .ok (.iload 6, 2) := by decide +kernel
theorem d48_51 : decode (pm_code 48) 51 = .ok (.ireturn, 1) := by decide +kernel
theorem d49_0 : decode (pm_code 49) 0 = .ok (.iload_n 1, 1) := by decide +kernel
theorem d49_1 : decode (pm_code 49) 1 = .ok (.istore 5, 2) := by decide +kernel
theorem d49_3 : decode (pm_code 49) 3 = .ok (.iconst 0, 1) := by decide +kernel
theorem d49_4 : decode (pm_code 49) 4 = .ok (.istore 6, 2) := by decide +kernel
theorem d49_6 : decode (pm_code 49) 6 = .ok (.iload 6, 2) := by decide +kernel
theorem d49_8 : decode (pm_code 49) 8 = .ok (.iload_n 3, 1) := by decide +kernel
theorem d49_9 : decode (pm_code 49) 9 = .ok (.if_icmp .ge 43, 3) := by decide +kernel
theorem d49_12 : decode (pm_code 49) 12 = .ok (.aload_n 0, 1) := by decide +kernel
theorem d49_13 : decode (pm_code 49) 13 = .ok (.iload 5, 2) := by decide +kernel
theorem d49_15 : decode (pm_code 49) 15 = .ok (.invokevirtual 90, 3) := by decide +kernel
theorem d49_18 : decode (pm_code 49) 18 = .ok (.ifCond .eq 34, 3) := by decide +kernel
theorem d49_21 : decode (pm_code 49) 21 = .ok (.aload_n 0, 1) := by decide +kernel
theorem d49_22 : decode (pm_code 49) 22 = .ok (.getfield 11, 3) := by decide +kernel
theorem d49_25 : decode (pm_code 49) 25 = .ok (.iload 5, 2) := by decide +kernel
theorem d49_27 : decode (pm_code 49) 27 = .ok (.iaload, 1) := by decide +kernel
theorem d49_28 : decode (pm_code 49) 28 = .ok (.aload_n 0, 1) := by decide +kernel
theorem d49_29 : decode (pm_code 49) 29 = .ok (.getfield 11, 3) := by decide +kernel
theorem d49_32 : decode (pm_code 49) 32 = .ok (.iload_n 2, 1) := by decide +kernel
theorem d49_33 : decode (pm_code 49) 33 = .ok (.iaload, 1) := by decide +kernel
theorem d49_34 : decode (pm_code 49) 34 = .ok (.if_icmp .eq 18, 3) := by decide +kernel
theorem d49_37 : decode (pm_code 49) 37 = .ok (.aload_n 0, 1) := by decide +kernel
theorem d49_38 : decode (pm_code 49) 38 = .ok (.iload 5, 2) := by decide +kernel
theorem d49_40 : decode (pm_code 49) 40 = .ok (.iload_n 3, 1) := by decide +kernel
theorem d49_41 : decode (pm_code 49) 41 = .ok (.invokevirtual 110, 3) := by decide +kernel
theorem d49_44 : decode (pm_code 49) 44 = .ok (.istore 5, 2) := by decide +kernel
theorem d49_46 : decode (pm_code 49) 46 = .ok (.iinc 6 1, 3) := by decide +kernel
theorem d49_49 : decode (pm_code 49) 49 = .ok (.goto (-43), 3) := by decide +kernel
theorem d49_52 : decode (pm_code 49) 52 = .ok (.aload_n 0, 1) := by decide +kernel
theorem d49_53 : decode (pm_code 49) 53 = .ok (.iload 5, 2) := by decide +kernel
theorem d49_55 : decode (pm_code 49) 55 = .ok (.invokevirtual 90, 3) := by decide +kernel
theorem d49_58 : decode (pm_code 49) 58 = .ok (.ifCond .ne 11, 3) := by decide +kernel
theorem d49_61 : decode (pm_code 49) 61 = .ok (.aload_n 0, 1) := by decide +kernel
theorem d49_62 : decode (pm_code 49) 62 = .ok (.iload_n 2, 1) := by decide +kernel
theorem d49_63 : decode (pm_code 49) 63 = .ok (.invokevirtual 90, 3) := by decide +kernel
theorem d49_66 : decode (pm_code 49) 66 = .ok (.ifCond .eq 25, 3) := by decide +kernel
theorem d49_69 : decode (pm_code 49) 69 = .ok (.aload_n 0, 1) := by decide +kernel
theorem d49_70 : decode (pm_code 49) 70 = .ok (.getfield 11, 3) := by decide +kernel
theorem d49_73 : decode (pm_code 49) 73 = .ok (.iload 5, 2) := by decide +kernel
theorem d49_75 : decode (pm_code 49) 75 = .ok (.iaload, 1) := by decide +kernel
theorem d49_76 : decode (pm_code 49) 76 = .ok (.aload_n 0, 1) := by decide +kernel
theorem d49_77 : decode (pm_code 49) 77 = .ok (.getfield 11, 3) := by decide +kernel
theorem d49_80 : decode (pm_code 49) 80 = .ok (.iload_n 2, 1) := by decide +kernel
theorem d49_81 : decode (pm_code 49) 81 = .ok (.iaload, 1) := by decide +kernel
theorem d49_82 : decode (pm_code 49) 82 = .ok (.if_icmp .ne 7, 3) := by decide +kernel
theorem d49_85 : decode (pm_code 49) 85 = .ok (.iconst 1, 1) := by decide +kernel
theorem d49_86 : decode (pm_code 49) 86 = .ok (.goto 4, 3) := by decide +kernel
theorem d49_89 : decode (pm_code 49) 89 = .ok (.iconst 0, 1) := by decide +kernel
theorem d49_90 : decode (pm_code 49) 90 = .ok (.ireturn, 1) := by decide +kernel
theorem d49_91 : decode (pm_code 49) 91 = .ok (.aload_n 0, 1) := by decide +kernel
theorem d49_92 : decode (pm_code 49) 92 = .ok (.iload 5, 2) := by decide +kernel
theorem d49_94 : decode (pm_code 49) 94 = .ok (.iload_n 2, 1) := by decide +kernel
theorem d49_95 : decode (pm_code 49) 95 = .ok (.invokevirtual 117, 3) := by decide +kernel
theorem d49_98 : decode (pm_code 49) 98 = .ok (.ifCond .eq 14, 3) := by decide +kernel
theorem d49_101 : decode (pm_code 49) 101 = .ok (.aload_n 0, 1) := by decide +kernel
theorem d49_102 : decode (pm_code 49) 102 = .ok (.iload 5, 2) := by decide +kernel
theorem d49_104 : decode (pm_code 49) 104 = .ok (.iload_n 2, 1) := by decide +kernel
theorem d49_105 : decode (pm_code 49) 105 = .ok (.iload_n 3, 1) := by decide +kernel
theorem d49_106 : decode (pm_code 49) 106 = .ok (.iload 4, 2) := by decide +kernel
theorem d49_108 : decode (pm_code 49) 108 = .ok (.invokevirtual 120, 3) := by decide +kernel
theorem d49_111 : decode (pm_code 49) 111 = .ok (.ireturn, 1) := by decide +kernel
theorem d49_112 : decode (pm_code 49) 112 = .ok (.aload_n 0, 1) := by decide +kernel
theorem d49_113 : decode (pm_code 49) 113 = .ok (.getfield 11, 3) := by decide +kernel
theorem d49_116 : decode (pm_code 49) 116 = .ok (.iload 5, 2) := by decide +kernel
theorem d49_118 : decode (pm_code 49) 118 = .ok (.iaload, 1) := by decide +kernel
theorem d49_119 : decode (pm_code 49) 119 = .ok (.aload_n 0, 1) := by decide +kernel
theorem d49_120 : decode (pm_code 49) 120 = .ok (.getfield 11, 3) := by decide +kernel
theorem d49_123 : decode (pm_code 49) 123 = .ok (.iload_n 2, 1) := by decide +kernel
theorem d49_124 : decode (pm_code 49) 124 = .ok (.iaload, 1) := by decide +kernel
theorem d49_125 : decode (pm_code 49) 125 = .ok (.if_icmp .eq 5, 3) := by decide +kernel
theorem d49_128 : decode (pm_code 49) 128 = .ok (.iconst 0, 1) := by decide +kernel
theorem d49_129 : decode (pm_code 49) 129 = .ok (.ireturn, 1) := by decide +kernel
theorem d49_130 : decode (pm_code 49) 130 = .ok (.aload_n 0, 1) := by decide +kernel
theorem d49_131 : decode (pm_code 49) 131 = .ok (.getfield 11, 3) := by decide +kernel
theorem d49_134 : decode (pm_code 49) 134 = .ok (.iload 5, 2) := by decide +kernel
theorem d49_136 : decode (pm_code 49) 136 = .ok (.iaload, 1) := by decide +kernel
theorem d49_137 : decode (pm_code 49) 137 = .ok (.bipush 19, 2) := by decide +kernel
theorem d49_139 : decode (pm_code 49) 139 = .ok (.if_icmp .ne 59, 3) := by decide +kernel
theorem d49_142 : decode (pm_code 49) 142 = .ok (.aload_n 0, 1) := by decide +kernel
theorem d49_143 : decode (pm_code 49) 143 = .ok (.aload_n 0, 1) := by decide +kernel
theorem d49_144 : decode (pm_code 49) 144 = .ok (.getfield 15, 3) := by decide +kernel
theorem d49_147 : decode (pm_code 49) 147 = .ok (.iload_n 2, 1) := by decide +kernel
theorem d49_148 : decode (pm_code 49) 148 = .ok (.iaload, 1) := by decide +kernel
theorem d49_149 : decode (pm_code 49) 149 = .ok (.aload_n 0, 1) := by decide +kernel
theorem d49_150 : decode (pm_code 49) 150 = .ok (.getfield 15, 3) := by decide +kernel
theorem d49_153 : decode (pm_code 49) 153 = .ok (.iload 5, 2) := by decide +kernel
theorem d49_155 : decode (pm_code 49) 155 = .ok (.iaload, 1) := by decide +kernel
theorem d49_156 : decode (pm_code 49) 156 = .ok (.iload_n 3, 1) := by decide +kernel
theorem d49_157 : decode (pm_code 49) 157 = .ok (.iload 4, 2) := by decide +kernel
theorem d49_159 : decode (pm_code 49) 159 = .ok (.iconst 1, 1) := by decide +kernel
theorem d49_160 : decode (pm_code 49) 160 = .ok (.iadd, 1) := by decide +kernel
theorem d49_161 : decode (pm_code 49) 161 = .ok (.invokevirtual 123, 3) := by decide +kernel
theorem d49_164 : decode (pm_code 49) 164 = .ok (.ifCond .eq 32, 3) := by decide +kernel
theorem d49_167 : decode (pm_code 49) 167 = .ok (.aload_n 0, 1) := by decide +kernel
theorem d49_168 : decode (pm_code 49) 168 = .ok (.aload_n 0, 1) := by decide +kernel
theorem d49_169 : decode (pm_code 49) 169 = .ok (.getfield 18, 3) := by decide +kernel
theorem d49_172 : decode (pm_code 49) 172 = .ok (.iload 5, 2) := by decide +kernel
theorem d49_174 : decode (pm_code 49) 174 = .ok (.iaload, 1) := by decide +kernel
theorem d49_175 : decode (pm_code 49) 175 = .ok (.aload_n 0, 1) := by decide +kernel
theorem d49_176 : decode (pm_code 49) 176 = .ok (.getfield 18, 3) := by decide +kernel
theorem d49_179 : decode (pm_code 49) 179 = .ok (.iload_n 2, 1) := by decide +kernel
theorem d49_180 : decode (pm_code 49) 180 = .ok (.iaload, 1) := by decide +kernel
theorem d49_181 : decode (pm_code 49) 181 = .ok (.iload_n 3, 1) := by decide +kernel
theorem d49_182 : decode (pm_code 49) 182 = .ok (.iload 4, 2) := by decide +kernel
theorem d49_184 : decode (pm_code 49) 184 = .ok (.iconst 1, 1) := by decide +kernel
theorem d49_185 : decode (pm_code 49) 185 = .ok (.iadd, 1) := by decide +kernel
theorem d49_186 : decode (pm_code 49) 186 = .ok (.invokevirtual 123, 3) := by decide +kernel
theorem d49_189 : decode (pm_code 49) 189 = .ok (.ifCond .eq 7, 3) := by decide +kernel
theorem d49_192 : decode (pm_code 49) 192 = .ok (.iconst 1, 1) := by decide +kernel
theorem d49_193 : decode (pm_code 49) 193 = .ok (.goto 4, 3) := by decide +kernel
theorem d49_196 : decode (pm_code 49) 196 = .ok (.iconst 0, 1) := by decide +kernel
theorem d49_197 : decode (pm_code 49) 197 = .ok (.ireturn, 1) := by decide +kernel
theorem d49_198 : decode (pm_code 49) 198 = .ok (.aload_n 0, 1) := by decide +kernel
theorem d49_199 : decode (pm_code 49) 199 = .ok (.iload 5, 2) := by decide +kernel
theorem d49_201 : decode (pm_code 49) 201 = .ok (.iload_n 2, 1) := by decide +kernel
theorem d49_202 : decode (pm_code 49) 202 = .ok (.invokevirtual 126, 3) := by decide +kernel
theorem d49_205 : decode (pm_code 49) 205 = .ok (.ifCond .eq 49, 3) := by decide +kernel
theorem d49_208 : decode (pm_code 49) 208 = .ok (.aload_n 0, 1) := by decide +kernel
theorem d49_209 : decode (pm_code 49) 209 = .ok (.aload_n 0, 1) := by decide +kernel
theorem d49_210 : decode (pm_code 49) 210 = .ok (.getfield 15, 3) := by decide +kernel
theorem d49_213 : decode (pm_code 49) 213 = .ok (.iload 5, 2) := by decide +kernel
theorem d49_215 : decode (pm_code 49) 215 = .ok (.iaload, 1) := by decide +kernel
theorem d49_216 : decode (pm_code 49) 216 = .ok (.iload_n 3, 1) := by decide +kernel
theorem d49_217 : decode (pm_code 49) 217 = .ok (.invokevirtual 129, 3) := by decide +kernel
theorem d49_220 : decode (pm_code 49) 220 = .ok (.ifCond .eq 34, 3) := by decide +kernel
theorem d49_223 : decode (pm_code 49) 223 = .ok (.aload_n 0, 1) := by decide +kernel
theorem d49_224 : decode (pm_code 49) 224 = .ok (.aload_n 0, 1) := by decide +kernel
theorem d49_225 : decode (pm_code 49) 225 = .ok (.getfield 18, 3) := by decide +kernel
theorem d49_228 : decode (pm_code 49) 228 = .ok (.iload 5, 2) := by decide +kernel
theorem d49_230 : decode (pm_code 49) 230 = .ok (.iaload, 1) := by decide +kernel
theorem d49_231 : decode (pm_code 49) 231 = .ok (.aload_n 0, 1) := by decide +kernel
theorem d49_232 : decode (pm_code 49) 232 = .ok (.getfield 18, 3) := by decide +kernel
theorem d49_235 : decode (pm_code 49) 235 = .ok (.iload_n 2, 1) := by decide +kernel
theorem d49_236 : decode (pm_code 49) 236 = .ok (.iaload, 1) := by decide +kernel
theorem d49_237 : decode (pm_code 49) 237 = .ok (.iload_n 3, 1) := by decide +kernel
theorem d49_238 : decode (pm_code 49) 238 = .ok (.iconst 1, 1) := by decide +kernel
theorem d49_239 : decode (pm_code 49) 239 = .ok (.iadd, 1) := by decide +kernel
theorem d49_240 : decode (pm_code 49) 240 = .ok (.iload 4, 2) := by decide +kernel
theorem d49_242 : decode (pm_code 49) 242 = .ok (.iconst 1, 1) := by decide +kernel
theorem d49_243 : decode (pm_code 49) 243 = .ok (.iadd, 1) := by decide +kernel
theorem d49_244 : decode (pm_code 49) 244 = .ok (.invokevirtual 123, 3) := by decide +kernel
theorem d49_247 : decode (pm_code 49) 247 = .ok (.ifCond .eq 7, 3) := by decide +kernel
theorem d49_250 : decode (pm_code 49) 250 = .ok (.iconst 1, 1) := by decide +kernel
theorem d49_251 : decode (pm_code 49) 251 = .ok (.goto 4, 3) := by decide +kernel
theorem d49_254 : decode (pm_code 49) 254 = .ok (.iconst 0, 1) := by decide +kernel
theorem d49_255 : decode (pm_code 49) 255 = .ok (.ireturn, 1) := by decide +kernel
theorem d50_0 : decode (pm_code 50) 0 = .ok (.iconst 0, 1) := by decide +kernel
theorem d50_1 : decode (pm_code 50) 1 = .ok (.istore 5, 2) := by decide +kernel
theorem d50_3 : decode (pm_code 50) 3 = .ok (.iload 5, 2) := by decide +kernel
theorem d50_5 : decode (pm_code 50) 5 = .ok (.iconst 3, 1) := by decide +kernel
theorem d50_6 : decode (pm_code 50) 6 = .ok (.if_icmp .ge 68, 3) := by decide +kernel
theorem d50_9 : decode (pm_code 50) 9 = .ok (.aload_n 0, 1) := by decide +kernel
theorem d50_10 : decode (pm_code 50) 10 = .ok (.getfield 11, 3) := by decide +kernel
theorem d50_13 : decode (pm_code 50) 13 = .ok (.iload_n 2, 1) := by decide +kernel
theorem d50_14 : decode (pm_code 50) 14 = .ok (.iaload, 1) := by decide +kernel
theorem d50_15 : decode (pm_code 50) 15 = .ok (.iload 5, 2) := by decide +kernel
theorem d50_17 : decode (pm_code 50) 17 = .ok (.invokestatic 38, 3) := by decide +kernel
theorem d50_20 : decode (pm_code 50) 20 = .ok (.ifCond .ne 6, 3) := by decide +kernel
theorem d50_23 : decode (pm_code 50) 23 = .ok (.goto 45, 3) := by decide +kernel
theorem d50_26 : decode (pm_code 50) 26 = .ok (.aload_n 0, 1) := by decide +kernel
theorem d50_27 : decode (pm_code 50) 27 = .ok (.getfield 11, 3) := by decide +kernel
theorem d50_30 : decode (pm_code 50) 30 = .ok (.iload_n 1, 1) := by decide +kernel
theorem d50_31 : decode (pm_code 50) 31 = .ok (.iaload, 1) := by decide +kernel
theorem d50_32 : decode (pm_code 50) 32 = .ok (.iload 5, 2) := by decide +kernel
theorem d50_34 : decode (pm_code 50) 34 = .ok (.invokestatic 38, 3) := by decide +kernel
theorem d50_37 : decode (pm_code 50) 37 = .ok (.ifCond .eq 29, 3) := by decide +kernel
theorem d50_40 : decode (pm_code 50) 40 = .ok (.aload_n 0, 1) := by decide +kernel
theorem d50_41 : decode (pm_code 50) 41 = .ok (.aload_n 0, 1) := by decide +kernel
theorem d50_42 : decode (pm_code 50) 42 = .ok (.iload_n 1, 1) := by decide +kernel
theorem d50_43 : decode (pm_code 50) 43 = .ok (.iload 5, 2) := by decide +kernel
theorem d50_45 : decode (pm_code 50) 45 = .ok (.invokevirtual 73, 3) := by decide +kernel
theorem d50_48 : decode (pm_code 50) 48 = .ok (.aload_n 0, 1) := by decide +kernel
theorem d50_49 : decode (pm_code 50) 49 = .ok (.iload_n 2, 1) := by decide +kernel
theorem d50_50 : decode (pm_code 50) 50 = .ok (.iload 5, 2) := by decide +kernel
theorem d50_52 : decode (pm_code 50) 52 = .ok (.invokevirtual 73, 3) := by decide +kernel
theorem d50_55 : decode (pm_code 50) 55 = .ok (.iload_n 3, 1) := by decide +kernel
theorem d50_56 : decode (pm_code 50) 56 = .ok (.iload 4, 2) := by decide +kernel
theorem d50_58 : decode (pm_code 50) 58 = .ok (.iconst 1, 1) := by decide +kernel
theorem d50_59 : decode (pm_code 50) 59 = .ok (.iadd, 1) := by decide +kernel
theorem d50_60 : decode (pm_code 50) 60 = .ok (.invokevirtual 123, 3) := by decide +kernel
theorem d50_63 : decode (pm_code 50) 63 = .ok (.ifCond .ne 5, 3) := by decide +kernel
theorem d50_66 : decode (pm_code 50) 66 = .ok (.iconst 0, 1) := by decide +kernel
theorem d50_67 : decode (pm_code 50) 67 = .ok (.ireturn, 1) := by decide +kernel
theorem d50_68 : decode (pm_code 50) 68 = .ok (.iinc 5 1, 3) := by decide +kernel
theorem d50_71 : decode (pm_code 50) 71 = .ok (.goto (-68), 3) := by decide +kernel
theorem d50_74 : decode (pm_code 50) 74 = .ok (.iconst 1, 1) := by decide +kernel
theorem d50_75 : decode (pm_code 50) 75 = .ok (.ireturn, 1) := by decide +kernel
theorem d51_0 : decode (pm_code 51) 0 = .ok (.aload_n 0, 1) := by decide +kernel
theorem d51_1 : decode (pm_code 51) 1 = .ok (.aload_n 0, 1) := by decide +kernel
theorem d51_2 : decode (pm_code 51) 2 = .ok (.getfield 15, 3) := by decide +kernel
theorem d51_5 : decode (pm_code 51) 5 = .ok (.iload_n 1, 1) := by decide +kernel
theorem d51_6 : decode (pm_code 51) 6 = .ok (.iaload, 1) := by decide +kernel
theorem d51_7 : decode (pm_code 51) 7 = .ok (.aload_n 0, 1) := by decide +kernel
theorem d51_8 : decode (pm_code 51) 8 = .ok (.getfield 15, 3) := by decide +kernel
theorem d51_11 : decode (pm_code 51) 11 = .ok (.iload_n 2, 1) := by decide +kernel
theorem d51_12 : decode (pm_code 51) 12 = .ok (.iaload, 1) := by decide +kernel
theorem d51_13 : decode (pm_code 51) 13 = .ok (.iconst 0, 1) := by decide +kernel
theorem d51_14 : decode (pm_code 51) 14 = .ok (.invokevirtual 86, 3) := by decide +kernel
theorem d51_17 : decode (pm_code 51) 17 = .ok (.ireturn, 1) := by decide +kernel
theorem d52_0 : decode (pm_code 52) 0 = .ok (.iload 4, 2) := by decide +kernel
theorem d52_2 : decode (pm_code 52) 2 = .ok (.bipush 40, 2) := by decide +kernel
theorem d52_4 : decode (pm_code 52) 4 = .ok (.if_icmp .lt 5, 3) := by decide +kernel
theorem d52_7 : decode (pm_code 52) 7 = .ok (.iconst 0, 1) := by decide +kernel
theorem d52_8 : decode (pm_code 52) 8 = .ok (.ireturn, 1) := by decide +kernel
theorem d52_9 : decode (pm_code 52) 9 = .ok (.iload_n 1, 1) := by decide +kernel
theorem d52_10 : decode (pm_code 52) 10 = .ok (.istore 5, 2) := by decide +kernel
theorem d52_12 : decode (pm_code 52) 12 = .ok (.iload_n 2, 1) := by decide +kernel
theorem d52_13 : decode (pm_code 52) 13 = .ok (.istore 6, 2) := by decide +kernel
theorem d52_15 : decode (pm_code 52) 15 = .ok (.iconst 0, 1) := by decide +kernel
theorem d52_16 : decode (pm_code 52) 16 = .ok (.istore 7, 2) := by decide +kernel
theorem d52_18 : decode (pm_code 52) 18 = .ok (.iload 7, 2) := by decide +kernel
theorem d52_20 : decode (pm_code 52) 20 = .ok (.iconst 2, 1) := by decide +kernel
theorem d52_21 : decode (pm_code 52) 21 = .ok (.iload_n 3, 1) := by decide +kernel
theorem d52_22 : decode (pm_code 52) 22 = .ok (.imul, 1) := by decide +kernel
theorem d52_23 : decode (pm_code 52) 23 = .ok (.if_icmp .gt 97, 3) := by decide +kernel
theorem d52_26 : decode (pm_code 52) 26 = .ok (.aload_n 0, 1) := by decide +kernel
theorem d52_27 : decode (pm_code 52) 27 = .ok (.iload 5, 2) := by decide +kernel
theorem d52_29 : decode (pm_code 52) 29 = .ok (.iload 6, 2) := by decide +kernel
theorem d52_31 : decode (pm_code 52) 31 = .ok (.iload_n 3, 1) := by decide +kernel
theorem d52_32 : decode (pm_code 52) 32 = .ok (.iload 4, 2) := by decide +kernel
theorem d52_34 : decode (pm_code 52) 34 = .ok (.invokevirtual 123, 3) := by decide +kernel
theorem d52_37 : decode (pm_code 52) 37 = .ok (.ifCond .eq 6, 3) := by decide +kernel
theorem d52_40 : decode (pm_code 52) 40 = .ok (.iload 6, 2) := by decide +kernel
theorem d52_42 : decode (pm_code 52) 42 = .ok (.ireturn, 1) := by decide +kernel
theorem d52_43 : decode (pm_code 52) 43 = .ok (.aload_n 0, 1) := by decide +kernel
theorem d52_44 : decode (pm_code 52) 44 = .ok (.iload 6, 2) := by decide +kernel
theorem d52_46 : decode (pm_code 52) 46 = .ok (.iload 5, 2) := by decide +kernel
theorem d52_48 : decode (pm_code 52) 48 = .ok (.iload_n 3, 1) := by decide +kernel
theorem d52_49 : decode (pm_code 52) 49 = .ok (.iload 4, 2) := by decide +kernel
theorem d52_51 : decode (pm_code 52) 51 = .ok (.invokevirtual 123, 3) := by decide +kernel
theorem d52_54 : decode (pm_code 52) 54 = .ok (.ifCond .eq 6, 3) := by decide +kernel
theorem d52_57 : decode (pm_code 52) 57 = .ok (.iload 5, 2) := by decide +kernel
theorem d52_59 : decode (pm_code 52) 59 = .ok (.ireturn, 1) := by decide +kernel
theorem d52_60 : decode (pm_code 52) 60 = .ok (.aload_n 0, 1) := by decide +kernel
theorem d52_61 : decode (pm_code 52) 61 = .ok (.iload 5, 2) := by decide +kernel
theorem d52_63 : decode (pm_code 52) 63 = .ok (.invokevirtual 90, 3) := by decide +kernel
theorem d52_66 : decode (pm_code 52) 66 = .ok (.ifCond .eq 15, 3) := by decide +kernel
theorem d52_69 : decode (pm_code 52) 69 = .ok (.aload_n 0, 1) := by decide +kernel
theorem d52_70 : decode (pm_code 52) 70 = .ok (.iload 5, 2) := by decide +kernel
theorem d52_72 : decode (pm_code 52) 72 = .ok (.iload_n 3, 1) := by decide +kernel
theorem d52_73 : decode (pm_code 52) 73 = .ok (.invokevirtual 110, 3) := by decide +kernel
theorem d52_76 : decode (pm_code 52) 76 = .ok (.istore 5, 2) := by decide +kernel
theorem d52_78 : decode (pm_code 52) 78 = .ok (.goto 36, 3) := by decide +kernel
theorem d52_81 : decode (pm_code 52) 81 = .ok (.aload_n 0, 1) := by decide +kernel
theorem d52_82 : decode (pm_code 52) 82 = .ok (.iload 6, 2) := by decide +kernel
theorem d52_84 : decode (pm_code 52) 84 = .ok (.invokevirtual 90, 3) := by decide +kernel
theorem d52_87 : decode (pm_code 52) 87 = .ok (.ifCond .eq 15, 3) := by decide +kernel
theorem d52_90 : decode (pm_code 52) 90 = .ok (.aload_n 0, 1) := by decide +kernel
theorem d52_91 : decode (pm_code 52) 91 = .ok (.iload 6, 2) := by decide +kernel
theorem d52_93 : decode (pm_code 52) 93 = .ok (.iload_n 3, 1) := by decide +kernel
theorem d52_94 : decode (pm_code 52) 94 = .ok (.invokevirtual 110, 3) := by decide +kernel
theorem d52_97 : decode (pm_code 52) 97 = .ok (.istore 6, 2) := by decide +kernel
theorem d52_99 : decode (pm_code 52) 99 = .ok (.goto 15, 3) := by decide +kernel
theorem d52_102 : decode (pm_code 52) 102 = .ok (.aload_n 0, 1) := by decide +kernel
theorem d52_103 : decode (pm_code 52) 103 = .ok (.iload 5, 2) := by decide +kernel
theorem d52_105 : decode (pm_code 52) 105 = .ok (.iload 6, 2) := by decide +kernel
theorem d52_107 : decode (pm_code 52) 107 = .ok (.iload_n 3, 1) := by decide +kernel
theorem d52_108 : decode (pm_code 52) 108 = .ok (.iload 4, 2) := by decide +kernel
theorem d52_110 : decode (pm_code 52) 110 = .ok (.invokevirtual 132, 3) := by decide +kernel
theorem d52_113 : decode (pm_code 52) 113 = .ok (.ireturn, 1) := by decide +kernel
theorem d52_114 : decode (pm_code 52) 114 = .ok (.iinc 7 1, 3) := by decide +kernel
theorem d52_117 : decode (pm_code 52) 117 = .ok (.goto (-99), 3) := by decide +kernel
theorem d52_120 : decode (pm_code 52) 120 = .ok (.iconst 0, 1) := by decide +kernel
theorem d52_121 : decode (pm_code 52) 121 = .ok (.ireturn, 1) := by decide +kernel
theorem d53_0 : decode (pm_code 53) 0 = .ok (.aload_n 0, 1) := by decide +kernel
theorem d53_1 : decode (pm_code 53) 1 = .ok (.iload_n 1, 1) := by decide +kernel
theorem d53_2 : decode (pm_code 53) 2 = .ok (.iload_n 2, 1) := by decide +kernel
theorem d53_3 : decode (pm_code 53) 3 = .ok (.invokevirtual 117, 3) := by decide +kernel
theorem d53_6 : decode (pm_code 53) 6 = .ok (.ifCond .eq 51, 3) := by decide +kernel
theorem d53_9 : decode (pm_code 53) 9 = .ok (.aload_n 0, 1) := by decide +kernel
theorem d53_10 : decode (pm_code 53) 10 = .ok (.aload_n 0, 1) := by decide +kernel
theorem d53_11 : decode (pm_code 53) 11 = .ok (.getfield 11, 3) := by decide +kernel
theorem d53_14 : decode (pm_code 53) 14 = .ok (.iload_n 1, 1) := by decide +kernel
theorem d53_15 : decode (pm_code 53) 15 = .ok (.iaload, 1) := by decide +kernel
theorem d53_16 : decode (pm_code 53) 16 = .ok (.aload_n 0, 1) := by decide +kernel
theorem d53_17 : decode (pm_code 53) 17 = .ok (.getfield 11, 3) := by decide +kernel
theorem d53_20 : decode (pm_code 53) 20 = .ok (.iload_n 2, 1) := by decide +kernel
theorem d53_21 : decode (pm_code 53) 21 = .ok (.iaload, 1) := by decide +kernel
theorem d53_22 : decode (pm_code 53) 22 = .ok (.iand, 1) := by decide +kernel
theorem d53_23 : decode (pm_code 53) 23 = .ok (.aload_n 0, 1) := by decide +kernel
theorem d53_24 : decode (pm_code 53) 24 = .ok (.iload_n 1, 1) := by decide +kernel
theorem d53_25 : decode (pm_code 53) 25 = .ok (.iload_n 2, 1) := by decide +kernel
theorem d53_26 : decode (pm_code 53) 26 = .ok (.iconst 0, 1) := by decide +kernel
theorem d53_27 : decode (pm_code 53) 27 = .ok (.iload_n 3, 1) := by decide +kernel
theorem d53_28 : decode (pm_code 53) 28 = .ok (.iload 4, 2) := by decide +kernel
theorem d53_30 : decode (pm_code 53) 30 = .ok (.invokevirtual 135, 3) := by decide +kernel
theorem d53_33 : decode (pm_code 53) 33 = .ok (.aload_n 0, 1) := by decide +kernel
theorem d53_34 : decode (pm_code 53) 34 = .ok (.iload_n 1, 1) := by decide +kernel
theorem d53_35 : decode (pm_code 53) 35 = .ok (.iload_n 2, 1) := by decide +kernel
theorem d53_36 : decode (pm_code 53) 36 = .ok (.iconst 1, 1) := by decide +kernel
theorem d53_37 : decode (pm_code 53) 37 = .ok (.iload_n 3, 1) := by decide +kernel
theorem d53_38 : decode (pm_code 53) 38 = .ok (.iload 4, 2) := by decide +kernel
theorem d53_40 : decode (pm_code 53) 40 = .ok (.invokevirtual 135, 3) := by decide +kernel
theorem d53_43 : decode (pm_code 53) 43 = .ok (.aload_n 0, 1) := by decide +kernel
theorem d53_44 : decode (pm_code 53) 44 = .ok (.iload_n 1, 1) := by decide +kernel
theorem d53_45 : decode (pm_code 53) 45 = .ok (.iload_n 2, 1) := by decide +kernel
theorem d53_46 : decode (pm_code 53) 46 = .ok (.iconst 2, 1) := by decide +kernel
theorem d53_47 : decode (pm_code 53) 47 = .ok (.iload_n 3, 1) := by decide +kernel
theorem d53_48 : decode (pm_code 53) 48 = .ok (.iload 4, 2) := by decide +kernel
theorem d53_50 : decode (pm_code 53) 50 = .ok (.invokevirtual 135, 3) := by decide +kernel
theorem d53_53 : decode (pm_code 53) 53 = .ok (.invokevirtual 54, 3) := by decide +kernel
theorem d53_56 : decode (pm_code 53) 56 = .ok (.ireturn, 1) := by decide +kernel
theorem d53_57 : decode (pm_code 53) 57 = .ok (.aload_n 0, 1) := by decide +kernel
theorem d53_58 : decode (pm_code 53) 58 = .ok (.getfield 11, 3) := by decide +kernel
theorem d53_61 : decode (pm_code 53) 61 = .ok (.iload_n 1, 1) := by decide +kernel
theorem d53_62 : decode (pm_code 53) 62 = .ok (.iaload, 1) := by decide +kernel
theorem d53_63 : decode (pm_code 53) 63 = .ok (.aload_n 0, 1) := by decide +kernel
theorem d53_64 : decode (pm_code 53) 64 = .ok (.getfield 11, 3) := by decide +kernel
theorem d53_67 : decode (pm_code 53) 67 = .ok (.iload_n 2, 1) := by decide +kernel
theorem d53_68 : decode (pm_code 53) 68 = .ok (.iaload, 1) := by decide +kernel
theorem d53_69 : decode (pm_code 53) 69 = .ok (.if_icmp .eq 5, 3) := by decide +kernel
theorem d53_72 : decode (pm_code 53) 72 = .ok (.iconst 0, 1) := by decide +kernel
theorem d53_73 : decode (pm_code 53) 73 = .ok (.ireturn, 1) := by decide +kernel
theorem d53_74 : decode (pm_code 53) 74 = .ok (.aload_n 0, 1) := by decide +kernel
theorem d53_75 : decode (pm_code 53) 75 = .ok (.getfield 11, 3) := by decide +kernel
theorem d53_78 : decode (pm_code 53) 78 = .ok (.iload_n 1, 1) := by decide +kernel
theorem d53_79 : decode (pm_code 53) 79 = .ok (.iaload, 1) := by decide +kernel
theorem d53_80 : decode (pm_code 53) 80 = .ok (.bipush 19, 2) := by decide +kernel
theorem d53_82 : decode (pm_code 53) 82 = .ok (.if_icmp .ne 69, 3) := by decide +kernel
theorem d53_85 : decode (pm_code 53) 85 = .ok (.aload_n 0, 1) := by decide +kernel
theorem d53_86 : decode (pm_code 53) 86 = .ok (.aload_n 0, 1) := by decide +kernel
theorem d53_87 : decode (pm_code 53) 87 = .ok (.getfield 15, 3) := by decide +kernel
theorem d53_90 : decode (pm_code 53) 90 = .ok (.iload_n 1, 1) := by decide +kernel
theorem d53_91 : decode (pm_code 53) 91 = .ok (.iaload, 1) := by decide +kernel
theorem d53_92 : decode (pm_code 53) 92 = .ok (.aload_n 0, 1) := by decide +kernel
theorem d53_93 : decode (pm_code 53) 93 = .ok (.getfield 15, 3) := by decide +kernel
theorem d53_96 : decode (pm_code 53) 96 = .ok (.iload_n 2, 1) := by decide +kernel
theorem d53_97 : decode (pm_code 53) 97 = .ok (.iaload, 1) := by decide +kernel
theorem d53_98 : decode (pm_code 53) 98 = .ok (.iload_n 3, 1) := by decide +kernel
theorem d53_99 : decode (pm_code 53) 99 = .ok (.iload 4, 2) := by decide +kernel
theorem d53_101 : decode (pm_code 53) 101 = .ok (.iconst 1, 1) := by decide +kernel
theorem d53_102 : decode (pm_code 53) 102 = .ok (.iadd, 1) := by decide +kernel
theorem d53_103 : decode (pm_code 53) 103 = .ok (.invokevirtual 138, 3) := by decide +kernel
theorem d53_106 : decode (pm_code 53) 106 = .ok (.istore 5, 2) := by decide +kernel
theorem d53_108 : decode (pm_code 53) 108 = .ok (.iload 5, 2) := by decide +kernel
theorem d53_110 : decode (pm_code 53) 110 = .ok (.iconst (-1), 1) := by decide +kernel
theorem d53_111 : decode (pm_code 53) 111 = .ok (.if_icmp .ne 5, 3) := by decide +kernel
theorem d53_114 : decode (pm_code 53) 114 = .ok (.iconst 0, 1) := by decide +kernel
theorem d53_115 : decode (pm_code 53) 115 = .ok (.ireturn, 1) := by decide +kernel
theorem d53_116 : decode (pm_code 53) 116 = .ok (.aload_n 0, 1) := by decide +kernel
theorem d53_117 : decode (pm_code 53) 117 = .ok (.aload_n 0, 1) := by decide +kernel
theorem d53_118 : decode (pm_code 53) 118 = .ok (.getfield 18, 3) := by decide +kernel
theorem d53_121 : decode (pm_code 53) 121 = .ok (.iload_n 1, 1) := by decide +kernel
theorem d53_122 : decode (pm_code 53) 122 = .ok (.iaload, 1) := by decide +kernel
theorem d53_123 : decode (pm_code 53) 123 = .ok (.aload_n 0, 1) := by decide +kernel
theorem d53_124 : decode (pm_code 53) 124 = .ok (.getfield 18, 3) := by decide +kernel
theorem d53_127 : decode (pm_code 53) 127 = .ok (.iload_n 2, 1) := by decide +kernel
theorem d53_128 : decode (pm_code 53) 128 = .ok (.iaload, 1) := by decide +kernel
theorem d53_129 : decode (pm_code 53) 129 = .ok (.iload_n 3, 1) := by decide +kernel
theorem d53_130 : decode (pm_code 53) 130 = .ok (.iload 4, 2) := by decide +kernel
theorem d53_132 : decode (pm_code 53) 132 = .ok (.iconst 1, 1) := by decide +kernel
theorem d53_133 : decode (pm_code 53) 133 = .ok (.iadd, 1) := by decide +kernel
theorem d53_134 : decode (pm_code 53) 134 = .ok (.invokevirtual 141, 3) := by decide +kernel
theorem d53_137 : decode (pm_code 53) 137 = .ok (.istore 6, 2) := by decide +kernel
theorem d53_139 : decode (pm_code 53) 139 = .ok (.aload_n 0, 1) := by decide +kernel
theorem d53_140 : decode (pm_code 53) 140 = .ok (.bipush 19, 2) := by decide +kernel
theorem d53_142 : decode (pm_code 53) 142 = .ok (.iload 5, 2) := by decide +kernel
theorem d53_144 : decode (pm_code 53) 144 = .ok (.iload 6, 2) := by decide +kernel
theorem d53_146 : decode (pm_code 53) 146 = .ok (.iconst 0, 1) := by decide +kernel
theorem d53_147 : decode (pm_code 53) 147 = .ok (.invokevirtual 54, 3) := by decide +kernel
theorem d53_150 : decode (pm_code 53) 150 = .ok (.ireturn, 1) := by decide +kernel
theorem d53_151 : decode (pm_code 53) 151 = .ok (.aload_n 0, 1) := by decide +kernel
theorem d53_152 : decode (pm_code 53) 152 = .ok (.iload_n 1, 1) := by decide +kernel
theorem d53_153 : decode (pm_code 53) 153 = .ok (.iload_n 2, 1) := by decide +kernel
theorem d53_154 : decode (pm_code 53) 154 = .ok (.invokevirtual 126, 3) := by decide +kernel
theorem d53_157 : decode (pm_code 53) 157 = .ok (.ifCond .eq 17, 3) := by decide +kernel
theorem d53_160 : decode (pm_code 53) 160 = .ok (.aload_n 0, 1) := by decide +kernel
theorem d53_161 : decode (pm_code 53) 161 = .ok (.aload_n 0, 1) := by decide +kernel
theorem d53_162 : decode (pm_code 53) 162 = .ok (.getfield 15, 3) := by decide +kernel
theorem d53_165 : decode (pm_code 53) 165 = .ok (.iload_n 1, 1) := by decide +kernel
theorem d53_166 : decode (pm_code 53) 166 = .ok (.iaload, 1) := by decide +kernel
theorem d53_167 : decode (pm_code 53) 167 = .ok (.iload_n 3, 1) := by decide +kernel
theorem d53_168 : decode (pm_code 53) 168 = .ok (.invokevirtual 129, 3) := by decide +kernel
theorem d53_171 : decode (pm_code 53) 171 = .ok (.ifCond .ne 5, 3) := by decide +kernel
theorem d53_174 : decode (pm_code 53) 174 = .ok (.iconst 0, 1) := by decide +kernel
theorem d53_175 : decode (pm_code 53) 175 = .ok (.ireturn, 1) := by decide +kernel
theorem d53_176 : decode (pm_code 53) 176 = .ok (.aload_n 0, 1) := by decide +kernel
theorem d53_177 : decode (pm_code 53) 177 = .ok (.aload_n 0, 1) := by decide +kernel
theorem d53_178 : decode (pm_code 53) 178 = .ok (.getfield 18, 3) := by decide +kernel
theorem d53_181 : decode (pm_code 53) 181 = .ok (.iload_n 1, 1) := by decide +kernel
theorem d53_182 : decode (pm_code 53) 182 = .ok (.iaload, 1) := by decide +kernel
theorem d53_183 : decode (pm_code 53) 183 = .ok (.aload_n 0, 1) := by decide +kernel
theorem d53_184 : decode (pm_code 53) 184 = .ok (.getfield 18, 3) := by decide +kernel
theorem d53_187 : decode (pm_code 53) 187 = .ok (.iload_n 2, 1) := by decide +kernel
theorem d53_188 : decode (pm_code 53) 188 = .ok (.iaload, 1) := by decide +kernel
theorem d53_189 : decode (pm_code 53) 189 = .ok (.iload_n 3, 1) := by decide +kernel
theorem d53_190 : decode (pm_code 53) 190 = .ok (.iconst 1, 1) := by decide +kernel
theorem d53_191 : decode (pm_code 53) 191 = .ok (.iadd, 1) := by decide +kernel
theorem d53_192 : decode (pm_code 53) 192 = .ok (.iload 4, 2) := by decide +kernel
theorem d53_194 : decode (pm_code 53) 194 = .ok (.iconst 1, 1) := by decide +kernel
theorem d53_195 : decode (pm_code 53) 195 = .ok (.iadd, 1) := by decide +kernel
theorem d53_196 : decode (pm_code 53) 196 = .ok (.invokevirtual 141, 3) := by decide +kernel
theorem d53_199 : decode (pm_code 53) 199 = .ok (.istore 5, 2) := by decide +kernel
theorem d53_201 : decode (pm_code 53) 201 = .ok (.aload_n 0, 1) := by decide +kernel
theorem d53_202 : decode (pm_code 53) 202 = .ok (.bipush 35, 2) := by decide +kernel
theorem d53_204 : decode (pm_code 53) 204 = .ok (.aload_n 0, 1) := by decide +kernel
theorem d53_205 : decode (pm_code 53) 205 = .ok (.getfield 15, 3) := by decide +kernel
theorem d53_208 : decode (pm_code 53) 208 = .ok (.iload_n 1, 1) := by decide +kernel
theorem d53_209 : decode (pm_code 53) 209 = .ok (.iaload, 1) := by decide +kernel
theorem d53_210 : decode (pm_code 53) 210 = .ok (.iload 5, 2) := by decide +kernel
theorem d53_212 : decode (pm_code 53) 212 = .ok (.iconst 0, 1) := by decide +kernel
theorem d53_213 : decode (pm_code 53) 213 = .ok (.invokevirtual 54, 3) := by decide +kernel
theorem d53_216 : decode (pm_code 53) 216 = .ok (.ireturn, 1) := by decide +kernel
theorem d54_0 : decode (pm_code 54) 0 = .ok (.aload_n 0, 1) := by decide +kernel
theorem d54_1 : decode (pm_code 54) 1 = .ok (.getfield 11, 3) := by decide +kernel
theorem d54_4 : decode (pm_code 54) 4 = .ok (.iload_n 1, 1) := by decide +kernel
theorem d54_5 : decode (pm_code 54) 5 = .ok (.iaload, 1) := by decide +kernel
theorem d54_6 : decode (pm_code 54) 6 = .ok (.iload_n 3, 1) := by decide +kernel
theorem d54_7 : decode (pm_code 54) 7 = .ok (.invokestatic 38, 3) := by decide +kernel
theorem d54_10 : decode (pm_code 54) 10 = .ok (.ifCond .eq 16, 3) := by decide +kernel
theorem d54_13 : decode (pm_code 54) 13 = .ok (.aload_n 0, 1) := by decide +kernel
theorem d54_14 : decode (pm_code 54) 14 = .ok (.getfield 11, 3) := by decide +kernel
theorem d54_17 : decode (pm_code 54) 17 = .ok (.iload_n 2, 1) := by decide +kernel
theorem d54_18 : decode (pm_code 54) 18 = .ok (.iaload, 1) := by decide +kernel
theorem d54_19 : decode (pm_code 54) 19 = .ok (.iload_n 3, 1) := by decide +kernel
theorem d54_20 : decode (pm_code 54) 20 = .ok (.invokestatic 38, 3) := by decide +kernel
theorem d54_23 : decode (pm_code 54) 23 = .ok (.ifCond .ne 5, 3) := by decide +kernel
theorem d54_26 : decode (pm_code 54) 26 = .ok (.iconst 0, 1) := by decide +kernel
theorem d54_27 : decode (pm_code 54) 27 = .ok (.ireturn, 1) := by decide +kernel
theorem d54_28 : decode (pm_code 54) 28 = .ok (.aload_n 0, 1) := by decide +kernel
theorem d54_29 : decode (pm_code 54) 29 = .ok (.aload_n 0, 1) := by decide +kernel
theorem d54_30 : decode (pm_code 54) 30 = .ok (.iload_n 1, 1) := by decide +kernel
theorem d54_31 : decode (pm_code 54) 31 = .ok (.iload_n 3, 1) := by decide +kernel
theorem d54_32 : decode (pm_code 54) 32 = .ok (.invokevirtual 73, 3) := by decide +kernel
theorem d54_35 : decode (pm_code 54) 35 = .ok (.aload_n 0, 1) := by decide +kernel
theorem d54_36 : decode (pm_code 54) 36 = .ok (.iload_n 2, 1) := by decide +kernel
theorem d54_37 : decode (pm_code 54) 37 = .ok (.iload_n 3, 1) := by decide +kernel
theorem d54_38 : decode (pm_code 54) 38 = .ok (.invokevirtual 73, 3) := by decide +kernel
theorem d54_41 : decode (pm_code 54) 41 = .ok (.iload 4, 2) := by decide +kernel
theorem d54_43 : decode (pm_code 54) 43 = .ok (.iload 5, 2) := by decide +kernel
theorem d54_45 : decode (pm_code 54) 45 = .ok (.iconst 1, 1) := by decide +kernel
theorem d54_46 : decode (pm_code 54) 46 = .ok (.iadd, 1) := by decide +kernel
theorem d54_47 : decode (pm_code 54) 47 = .ok (.invokevirtual 141, 3) := by decide +kernel
theorem d54_50 : decode (pm_code 54) 50 = .ok (.ireturn, 1) := by decide +kernel
theorem d55_0 : decode (pm_code 55) 0 = .ok (.iload 4, 2) := by decide +kernel
theorem d55_2 : decode (pm_code 55) 2 = .ok (.bipush 40, 2) := by decide +kernel
theorem d55_4 : decode (pm_code 55) 4 = .ok (.if_icmp .lt 5, 3) := by decide +kernel
theorem d55_7 : decode (pm_code 55) 7 = .ok (.iconst (-1), 1) := by decide +kernel
theorem d55_8 : decode (pm_code 55) 8 = .ok (.ireturn, 1) := by decide +kernel
theorem d55_9 : decode (pm_code 55) 9 = .ok (.aload_n 0, 1) := by decide +kernel
theorem d55_10 : decode (pm_code 55) 10 = .ok (.iload_n 1, 1) := by decide +kernel
theorem d55_11 : decode (pm_code 55) 11 = .ok (.iload_n 2, 1) := by decide +kernel
theorem d55_12 : decode (pm_code 55) 12 = .ok (.iload_n 3, 1) := by decide +kernel
theorem d55_13 : decode (pm_code 55) 13 = .ok (.iload 4, 2) := by decide +kernel
theorem d55_15 : decode (pm_code 55) 15 = .ok (.invokevirtual 123, 3) := by decide +kernel
theorem d55_18 : decode (pm_code 55) 18 = .ok (.ifCond .eq 5, 3) := by decide +kernel
theorem d55_21 : decode (pm_code 55) 21 = .ok (.iload_n 1, 1) := by decide +kernel
theorem d55_22 : decode (pm_code 55) 22 = .ok (.ireturn, 1) := by decide +kernel
theorem d55_23 : decode (pm_code 55) 23 = .ok (.aload_n 0, 1) := by decide +kernel
theorem d55_24 : decode (pm_code 55) 24 = .ok (.iload_n 2, 1) := by decide +kernel
theorem d55_25 : decode (pm_code 55) 25 = .ok (.iload_n 1, 1) := by decide +kernel
theorem d55_26 : decode (pm_code 55) 26 = .ok (.iload_n 3, 1) := by decide +kernel
theorem d55_27 : decode (pm_code 55) 27 = .ok (.iload 4, 2) := by decide +kernel
theorem d55_29 : decode (pm_code 55) 29 = .ok (.invokevirtual 123, 3) := by decide +kernel
theorem d55_32 : decode (pm_code 55) 32 = .ok (.ifCond .eq 5, 3) := by decide +kernel
theorem d55_35 : decode (pm_code 55) 35 = .ok (.iload_n 2, 1) := by decide +kernel
theorem d55_36 : decode (pm_code 55) 36 = .ok (.ireturn, 1) := by decide +kernel
theorem d55_37 : decode (pm_code 55) 37 = .ok (.aload_n 0, 1) := by decide +kernel
theorem d55_38 : decode (pm_code 55) 38 = .ok (.iload_n 1, 1) := by decide +kernel
theorem d55_39 : decode (pm_code 55) 39 = .ok (.invokevirtual 90, 3) := by decide +kernel
theorem d55_42 : decode (pm_code 55) 42 = .ok (.ifCond .ne 11, 3) := by decide +kernel
theorem d55_45 : decode (pm_code 55) 45 = .ok (.aload_n 0, 1) := by decide +kernel
theorem d55_46 : decode (pm_code 55) 46 = .ok (.iload_n 2, 1) := by decide +kernel
theorem d55_47 : decode (pm_code 55) 47 = .ok (.invokevirtual 90, 3) := by decide +kernel
theorem d55_50 : decode (pm_code 55) 50 = .ok (.ifCond .eq 5, 3) := by decide +kernel
theorem d55_53 : decode (pm_code 55) 53 = .ok (.iconst (-1), 1) := by decide +kernel
theorem d55_54 : decode (pm_code 55) 54 = .ok (.ireturn, 1) := by decide +kernel
theorem d55_55 : decode (pm_code 55) 55 = .ok (.aload_n 0, 1) := by decide +kernel
theorem d55_56 : decode (pm_code 55) 56 = .ok (.iload_n 1, 1) := by decide +kernel
theorem d55_57 : decode (pm_code 55) 57 = .ok (.iload_n 2, 1) := by decide +kernel
theorem d55_58 : decode (pm_code 55) 58 = .ok (.iload_n 3, 1) := by decide +kernel
theorem d55_59 : decode (pm_code 55) 59 = .ok (.iload 4, 2) := by decide +kernel
theorem d55_61 : decode (pm_code 55) 61 = .ok (.invokevirtual 144, 3) := by decide +kernel
theorem d55_64 : decode (pm_code 55) 64 = .ok (.ireturn, 1) := by decide +kernel
theorem d56_0 : decode (pm_code 56) 0 = .ok (.aload_n 0, 1) := by decide +kernel
theorem d56_1 : decode (pm_code 56) 1 = .ok (.iload_n 1, 1) := by decide +kernel
theorem d56_2 : decode (pm_code 56) 2 = .ok (.iload_n 2, 1) := by decide +kernel
theorem d56_3 : decode (pm_code 56) 3 = .ok (.invokevirtual 117, 3) := by decide +kernel
theorem d56_6 : decode (pm_code 56) 6 = .ok (.ifCond .eq 13, 3) := by decide +kernel
theorem d56_9 : decode (pm_code 56) 9 = .ok (.aload_n 0, 1) := by decide +kernel
theorem d56_10 : decode (pm_code 56) 10 = .ok (.iload_n 1, 1) := by decide +kernel
theorem d56_11 : decode (pm_code 56) 11 = .ok (.iload_n 2, 1) := by decide +kernel
theorem d56_12 : decode (pm_code 56) 12 = .ok (.iload_n 3, 1) := by decide +kernel
theorem d56_13 : decode (pm_code 56) 13 = .ok (.iload 4, 2) := by decide +kernel
theorem d56_15 : decode (pm_code 56) 15 = .ok (.invokevirtual 147, 3) := by decide +kernel
theorem d56_18 : decode (pm_code 56) 18 = .ok (.ireturn, 1) := by decide +kernel
theorem d56_19 : decode (pm_code 56) 19 = .ok (.aload_n 0, 1) := by decide +kernel
theorem d56_20 : decode (pm_code 56) 20 = .ok (.getfield 11, 3) := by decide +kernel
theorem d56_23 : decode (pm_code 56) 23 = .ok (.iload_n 1, 1) := by decide +kernel
theorem d56_24 : decode (pm_code 56) 24 = .ok (.iaload, 1) := by decide +kernel
theorem d56_25 : decode (pm_code 56) 25 = .ok (.aload_n 0, 1) := by decide +kernel
theorem d56_26 : decode (pm_code 56) 26 = .ok (.getfield 11, 3) := by decide +kernel
theorem d56_29 : decode (pm_code 56) 29 = .ok (.iload_n 2, 1) := by decide +kernel
theorem d56_30 : decode (pm_code 56) 30 = .ok (.iaload, 1) := by decide +kernel
theorem d56_31 : decode (pm_code 56) 31 = .ok (.if_icmp .eq 5, 3) := by decide +kernel
theorem d56_34 : decode (pm_code 56) 34 = .ok (.iconst (-1), 1) := by decide +kernel
theorem d56_35 : decode (pm_code 56) 35 = .ok (.ireturn, 1) := by decide +kernel
theorem d56_36 : decode (pm_code 56) 36 = .ok (.aload_n 0, 1) := by decide +kernel
theorem d56_37 : decode (pm_code 56) 37 = .ok (.getfield 11, 3) := by decide +kernel
theorem d56_40 : decode (pm_code 56) 40 = .ok (.iload_n 1, 1) := by decide +kernel
theorem d56_41 : decode (pm_code 56) 41 = .ok (.iaload, 1) := by decide +kernel
theorem d56_42 : decode (pm_code 56) 42 = .ok (.bipush 19, 2) := by decide +kernel
theorem d56_44 : decode (pm_code 56) 44 = .ok (.if_icmp .ne 69, 3) := by decide +kernel
theorem d56_47 : decode (pm_code 56) 47 = .ok (.aload_n 0, 1) := by decide +kernel
theorem d56_48 : decode (pm_code 56) 48 = .ok (.aload_n 0, 1) := by decide +kernel
theorem d56_49 : decode (pm_code 56) 49 = .ok (.getfield 18, 3) := by decide +kernel
theorem d56_52 : decode (pm_code 56) 52 = .ok (.iload_n 1, 1) := by decide +kernel
theorem d56_53 : decode (pm_code 56) 53 = .ok (.iaload, 1) := by decide +kernel
theorem d56_54 : decode (pm_code 56) 54 = .ok (.aload_n 0, 1) := by decide +kernel
theorem d56_55 : decode (pm_code 56) 55 = .ok (.getfield 18, 3) := by decide +kernel
theorem d56_58 : decode (pm_code 56) 58 = .ok (.iload_n 2, 1) := by decide +kernel
theorem d56_59 : decode (pm_code 56) 59 = .ok (.iaload, 1) := by decide +kernel
theorem d56_60 : decode (pm_code 56) 60 = .ok (.iload_n 3, 1) := by decide +kernel
theorem d56_61 : decode (pm_code 56) 61 = .ok (.iload 4, 2) := by decide +kernel
theorem d56_63 : decode (pm_code 56) 63 = .ok (.iconst 1, 1) := by decide +kernel
theorem d56_64 : decode (pm_code 56) 64 = .ok (.iadd, 1) := by decide +kernel
theorem d56_65 : decode (pm_code 56) 65 = .ok (.invokevirtual 138, 3) := by decide +kernel
theorem d56_68 : decode (pm_code 56) 68 = .ok (.istore 5, 2) := by decide +kernel
theorem d56_70 : decode (pm_code 56) 70 = .ok (.iload 5, 2) := by decide +kernel
theorem d56_72 : decode (pm_code 56) 72 = .ok (.iconst (-1), 1) := by decide +kernel
theorem d56_73 : decode (pm_code 56) 73 = .ok (.if_icmp .ne 5, 3) := by decide +kernel
theorem d56_76 : decode (pm_code 56) 76 = .ok (.iconst (-1), 1) := by decide +kernel
theorem d56_77 : decode (pm_code 56) 77 = .ok (.ireturn, 1) := by decide +kernel
theorem d56_78 : decode (pm_code 56) 78 = .ok (.aload_n 0, 1) := by decide +kernel
theorem d56_79 : decode (pm_code 56) 79 = .ok (.aload_n 0, 1) := by decide +kernel
theorem d56_80 : decode (pm_code 56) 80 = .ok (.getfield 15, 3) := by decide +kernel
theorem d56_83 : decode (pm_code 56) 83 = .ok (.iload_n 1, 1) := by decide +kernel
theorem d56_84 : decode (pm_code 56) 84 = .ok (.iaload, 1) := by decide +kernel
theorem d56_85 : decode (pm_code 56) 85 = .ok (.aload_n 0, 1) := by decide +kernel
theorem d56_86 : decode (pm_code 56) 86 = .ok (.getfield 15, 3) := by decide +kernel
theorem d56_89 : decode (pm_code 56) 89 = .ok (.iload_n 2, 1) := by decide +kernel
theorem d56_90 : decode (pm_code 56) 90 = .ok (.iaload, 1) := by decide +kernel
theorem d56_91 : decode (pm_code 56) 91 = .ok (.iload_n 3, 1) := by decide +kernel
theorem d56_92 : decode (pm_code 56) 92 = .ok (.iload 4, 2) := by decide +kernel
theorem d56_94 : decode (pm_code 56) 94 = .ok (.iconst 1, 1) := by decide +kernel
theorem d56_95 : decode (pm_code 56) 95 = .ok (.iadd, 1) := by decide +kernel
theorem d56_96 : decode (pm_code 56) 96 = .ok (.invokevirtual 141, 3) := by decide +kernel
theorem d56_99 : decode (pm_code 56) 99 = .ok (.istore 6, 2) := by decide +kernel
theorem d56_101 : decode (pm_code 56) 101 = .ok (.aload_n 0, 1) := by decide +kernel
theorem d56_102 : decode (pm_code 56) 102 = .ok (.bipush 19, 2) := by decide +kernel
theorem d56_104 : decode (pm_code 56) 104 = .ok (.iload 6, 2) := by decide +kernel
theorem d56_106 : decode (pm_code 56) 106 = .ok (.iload 5, 2) := by decide +kernel
theorem d56_108 : decode (pm_code 56) 108 = .ok (.iconst 0, 1) := by decide +kernel
theorem d56_109 : decode (pm_code 56) 109 = .ok (.invokevirtual 54, 3) := by decide +kernel
theorem d56_112 : decode (pm_code 56) 112 = .ok (.ireturn, 1) := by decide +kernel
theorem d56_113 : decode (pm_code 56) 113 = .ok (.aload_n 0, 1) := by decide +kernel
theorem d56_114 : decode (pm_code 56) 114 = .ok (.iload_n 1, 1) := by decide +kernel
theorem d56_115 : decode (pm_code 56) 115 = .ok (.iload_n 2, 1) := by decide +kernel
theorem d56_116 : decode (pm_code 56) 116 = .ok (.invokevirtual 126, 3) := by decide +kernel
theorem d56_119 : decode (pm_code 56) 119 = .ok (.ifCond .eq 17, 3) := by decide +kernel
theorem d56_122 : decode (pm_code 56) 122 = .ok (.aload_n 0, 1) := by decide +kernel
theorem d56_123 : decode (pm_code 56) 123 = .ok (.aload_n 0, 1) := by decide +kernel
theorem d56_124 : decode (pm_code 56) 124 = .ok (.getfield 15, 3) := by decide +kernel
theorem d56_127 : decode (pm_code 56) 127 = .ok (.iload_n 1, 1) := by decide +kernel
theorem d56_128 : decode (pm_code 56) 128 = .ok (.iaload, 1) := by decide +kernel
theorem d56_129 : decode (pm_code 56) 129 = .ok (.iload_n 3, 1) := by decide +kernel
theorem d56_130 : decode (pm_code 56) 130 = .ok (.invokevirtual 129, 3) := by decide +kernel
theorem d56_133 : decode (pm_code 56) 133 = .ok (.ifCond .ne 5, 3) := by decide +kernel
theorem d56_136 : decode (pm_code 56) 136 = .ok (.iconst (-1), 1) := by decide +kernel
theorem d56_137 : decode (pm_code 56) 137 = .ok (.ireturn, 1) := by decide +kernel
theorem d56_138 : decode (pm_code 56) 138 = .ok (.aload_n 0, 1) := by decide +kernel
theorem d56_139 : decode (pm_code 56) 139 = .ok (.aload_n 0, 1) := by decide +kernel
theorem d56_140 : decode (pm_code 56) 140 = .ok (.getfield 18, 3) := by decide +kernel
theorem d56_143 : decode (pm_code 56) 143 = .ok (.iload_n 1, 1) := by decide +kernel
theorem d56_144 : decode (pm_code 56) 144 = .ok (.iaload, 1) := by decide +kernel
theorem d56_145 : decode (pm_code 56) 145 = .ok (.aload_n 0, 1) := by decide +kernel
theorem d56_146 : decode (pm_code 56) 146 = .ok (.getfield 18, 3) := by decide +kernel
theorem d56_149 : decode (pm_code 56) 149 = .ok (.iload_n 2, 1) := by decide +kernel
theorem d56_150 : decode (pm_code 56) 150 = .ok (.iaload, 1) := by decide +kernel
theorem d56_151 : decode (pm_code 56) 151 = .ok (.iload_n 3, 1) := by decide +kernel
theorem d56_152 : decode (pm_code 56) 152 = .ok (.iconst 1, 1) := by decide +kernel
theorem d56_153 : decode (pm_code 56) 153 = .ok (.iadd, 1) := by decide +kernel
theorem d56_154 : decode (pm_code 56) 154 = .ok (.iload 4, 2) := by decide +kernel
theorem d56_156 : decode (pm_code 56) 156 = .ok (.iconst 1, 1) := by decide +kernel
theorem d56_157 : decode (pm_code 56) 157 = .ok (.iadd, 1) := by decide +kernel
theorem d56_158 : decode (pm_code 56) 158 = .ok (.invokevirtual 138, 3) := by decide +kernel
theorem d56_161 : decode (pm_code 56) 161 = .ok (.istore 5, 2) := by decide +kernel
theorem d56_163 : decode (pm_code 56) 163 = .ok (.iload 5, 2) := by decide +kernel
theorem d56_165 : decode (pm_code 56) 165 = .ok (.iconst (-1), 1) := by decide +kernel
theorem d56_166 : decode (pm_code 56) 166 = .ok (.if_icmp .ne 7, 3) := by decide +kernel
theorem d56_169 : decode (pm_code 56) 169 = .ok (.iconst (-1), 1) := by decide +kernel
theorem d56_170 : decode (pm_code 56) 170 = .ok (.goto 18, 3) := by decide +kernel
theorem d56_173 : decode (pm_code 56) 173 = .ok (.aload_n 0, 1) := by decide +kernel
theorem d56_174 : decode (pm_code 56) 174 = .ok (.bipush 35, 2) := by decide +kernel
theorem d56_176 : decode (pm_code 56) 176 = .ok (.aload_n 0, 1) := by decide +kernel
theorem d56_177 : decode (pm_code 56) 177 = .ok (.getfield 15, 3) := by decide +kernel
theorem d56_180 : decode (pm_code 56) 180 = .ok (.iload_n 1, 1) := by decide +kernel
theorem d56_181 : decode (pm_code 56) 181 = .ok (.iaload, 1) := by decide +kernel
theorem d56_182 : decode (pm_code 56) 182 = .ok (.iload 5, 2) := by decide +kernel
theorem d56_184 : decode (pm_code 56) 184 = .ok (.iconst 0, 1) := by decide +kernel
theorem d56_185 : decode (pm_code 56) 185 = .ok (.invokevirtual 54, 3) := by decide +kernel
theorem d56_188 : decode (pm_code 56) 188 = .ok (.ireturn, 1) := by decide +kernel
theorem d57_0 : decode (pm_code 57) 0 = .ok (.aload_n 0, 1) := by decide +kernel
theorem d57_1 : decode (pm_code 57) 1 = .ok (.iload_n 1, 1) := by decide +kernel
theorem d57_2 : decode (pm_code 57) 2 = .ok (.iload_n 2, 1) := by decide +kernel
theorem d57_3 : decode (pm_code 57) 3 = .ok (.iconst 0, 1) := by decide +kernel
theorem d57_4 : decode (pm_code 57) 4 = .ok (.iload_n 3, 1) := by decide +kernel
theorem d57_5 : decode (pm_code 57) 5 = .ok (.iload 4, 2) := by decide +kernel
theorem d57_7 : decode (pm_code 57) 7 = .ok (.invokevirtual 150, 3) := by decide +kernel
theorem d57_10 : decode (pm_code 57) 10 = .ok (.istore 5, 2) := by decide +kernel
theorem d57_12 : decode (pm_code 57) 12 = .ok (.aload_n 0, 1) := by decide +kernel
theorem d57_13 : decode (pm_code 57) 13 = .ok (.iload_n 1, 1) := by decide +kernel
theorem d57_14 : decode (pm_code 57) 14 = .ok (.iload_n 2, 1) := by decide +kernel
theorem d57_15 : decode (pm_code 57) 15 = .ok (.iconst 1, 1) := by decide +kernel
theorem d57_16 : decode (pm_code 57) 16 = .ok (.iload_n 3, 1) := by decide +kernel
theorem d57_17 : decode (pm_code 57) 17 = .ok (.iload 4, 2) := by decide +kernel
theorem d57_19 : decode (pm_code 57) 19 = .ok (.invokevirtual 150, 3) := by decide +kernel
theorem d57_22 : decode (pm_code 57) 22 = .ok (.istore 6, 2) := by decide +kernel
theorem d57_24 : decode (pm_code 57) 24 = .ok (.aload_n 0, 1) := by decide +kernel
theorem d57_25 : decode (pm_code 57) 25 = .ok (.iload_n 1, 1) := by decide +kernel
theorem d57_26 : decode (pm_code 57) 26 = .ok (.iload_n 2, 1) := by decide +kernel
theorem d57_27 : decode (pm_code 57) 27 = .ok (.iconst 2, 1) := by decide +kernel
theorem d57_28 : decode (pm_code 57) 28 = .ok (.iload_n 3, 1) := by decide +kernel
theorem d57_29 : decode (pm_code 57) 29 = .ok (.iload 4, 2) := by decide +kernel
theorem d57_31 : decode (pm_code 57) 31 = .ok (.invokevirtual 150, 3) := by decide +kernel
theorem d57_34 : decode (pm_code 57) 34 = .ok (.istore 7, 2) := by decide +kernel
theorem d57_36 : decode (pm_code 57) 36 = .ok (.iload 5, 2) := by decide +kernel
theorem d57_38 : decode (pm_code 57) 38 = .ok (.iconst (-1), 1) := by decide +kernel
theorem d57_39 : decode (pm_code 57) 39 = .ok (.if_icmp .eq 15, 3) := by decide +kernel
theorem d57_42 : decode (pm_code 57) 42 = .ok (.iload 6, 2) := by decide +kernel
theorem d57_44 : decode (pm_code 57) 44 = .ok (.iconst (-1), 1) := by decide +kernel
theorem d57_45 : decode (pm_code 57) 45 = .ok (.if_icmp .eq 9, 3) := by decide +kernel
theorem d57_48 : decode (pm_code 57) 48 = .ok (.iload 7, 2) := by decide +kernel
theorem d57_50 : decode (pm_code 57) 50 = .ok (.iconst (-1), 1) := by decide +kernel
theorem d57_51 : decode (pm_code 57) 51 = .ok (.if_icmp .ne 5, 3) := by decide +kernel
theorem d57_54 : decode (pm_code 57) 54 = .ok (.iconst (-1), 1) := by decide +kernel
theorem d57_55 : decode (pm_code 57) 55 = .ok (.ireturn, 1) := by decide +kernel
theorem d57_56 : decode (pm_code 57) 56 = .ok (.aload_n 0, 1) := by decide +kernel
theorem d57_57 : decode (pm_code 57) 57 = .ok (.aload_n 0, 1) := by decide +kernel
theorem d57_58 : decode (pm_code 57) 58 = .ok (.getfield 11, 3) := by decide +kernel
theorem d57_61 : decode (pm_code 57) 61 = .ok (.iload_n 1, 1) := by decide +kernel
theorem d57_62 : decode (pm_code 57) 62 = .ok (.iaload, 1) := by decide +kernel
theorem d57_63 : decode (pm_code 57) 63 = .ok (.aload_n 0, 1) := by decide +kernel
theorem d57_64 : decode (pm_code 57) 64 = .ok (.getfield 11, 3) := by decide +kernel
theorem d57_67 : decode (pm_code 57) 67 = .ok (.iload_n 2, 1) := by decide +kernel
theorem d57_68 : decode (pm_code 57) 68 = .ok (.iaload, 1) := by decide +kernel
theorem d57_69 : decode (pm_code 57) 69 = .ok (.ior, 1) := by decide +kernel
theorem d57_70 : decode (pm_code 57) 70 = .ok (.iload 5, 2) := by decide +kernel
theorem d57_72 : decode (pm_code 57) 72 = .ok (.iload 6, 2) := by decide +kernel
theorem d57_74 : decode (pm_code 57) 74 = .ok (.iload 7, 2) := by decide +kernel
theorem d57_76 : decode (pm_code 57) 76 = .ok (.invokevirtual 54, 3) := by decide +kernel
theorem d57_79 : decode (pm_code 57) 79 = .ok (.ireturn, 1) := by decide +kernel
theorem d58_0 : decode (pm_code 58) 0 = .ok (.aload_n 0, 1) := by decide +kernel
theorem d58_1 : decode (pm_code 58) 1 = .ok (.getfield 11, 3) := by decide +kernel
theorem d58_4 : decode (pm_code 58) 4 = .ok (.iload_n 1, 1) := by decide +kernel
theorem d58_5 : decode (pm_code 58) 5 = .ok (.iaload, 1) := by decide +kernel
theorem d58_6 : decode (pm_code 58) 6 = .ok (.iload_n 3, 1) := by decide +kernel
theorem d58_7 : decode (pm_code 58) 7 = .ok (.invokestatic 38, 3) := by decide +kernel
theorem d58_10 : decode (pm_code 58) 10 = .ok (.ifCond .ne 10, 3) := by decide +kernel
theorem d58_13 : decode (pm_code 58) 13 = .ok (.aload_n 0, 1) := by decide +kernel
theorem d58_14 : decode (pm_code 58) 14 = .ok (.iload_n 2, 1) := by decide +kernel
theorem d58_15 : decode (pm_code 58) 15 = .ok (.iload_n 3, 1) := by decide +kernel
theorem d58_16 : decode (pm_code 58) 16 = .ok (.invokevirtual 73, 3) := by decide +kernel
theorem d58_19 : decode (pm_code 58) 19 = .ok (.ireturn, 1) := by decide +kernel
theorem d58_20 : decode (pm_code 58) 20 = .ok (.aload_n 0, 1) := by decide +kernel
theorem d58_21 : decode (pm_code 58) 21 = .ok (.getfield 11, 3) := by decide +kernel
theorem d58_24 : decode (pm_code 58) 24 = .ok (.iload_n 2, 1) := by decide +kernel
theorem d58_25 : decode (pm_code 58) 25 = .ok (.iaload, 1) := by decide +kernel
theorem d58_26 : decode (pm_code 58) 26 = .ok (.iload_n 3, 1) := by decide +kernel
theorem d58_27 : decode (pm_code 58) 27 = .ok (.invokestatic 38, 3) := by decide +kernel
theorem d58_30 : decode (pm_code 58) 30 = .ok (.ifCond .ne 10, 3) := by decide +kernel
theorem d58_33 : decode (pm_code 58) 33 = .ok (.aload_n 0, 1) := by decide +kernel
theorem d58_34 : decode (pm_code 58) 34 = .ok (.iload_n 1, 1) := by decide +kernel
theorem d58_35 : decode (pm_code 58) 35 = .ok (.iload_n 3, 1) := by decide +kernel
theorem d58_36 : decode (pm_code 58) 36 = .ok (.invokevirtual 73, 3) := by decide +kernel
theorem d58_39 : decode (pm_code 58) 39 = .ok (.ireturn, 1) := by decide +kernel
theorem d58_40 : decode (pm_code 58) 40 = .ok (.aload_n 0, 1) := by decide +kernel
theorem d58_41 : decode (pm_code 58) 41 = .ok (.aload_n 0, 1) := by decide +kernel
theorem d58_42 : decode (pm_code 58) 42 = .ok (.iload_n 1, 1) := by decide +kernel
theorem d58_43 : decode (pm_code 58) 43 = .ok (.iload_n 3, 1) := by decide +kernel
theorem d58_44 : decode (pm_code 58) 44 = .ok (.invokevirtual 73, 3) := by decide +kernel
theorem d58_47 : decode (pm_code 58) 47 = .ok (.aload_n 0, 1) := by decide +kernel
theorem d58_48 : decode (pm_code 58) 48 = .ok (.iload_n 2, 1) := by decide +kernel
theorem d58_49 : decode (pm_code 58) 49 = .ok (.iload_n 3, 1) := by decide +kernel
theorem d58_50 : decode (pm_code 58) 50 = .ok (.invokevirtual 73, 3) := by decide +kernel
theorem d58_53 : decode (pm_code 58) 53 = .ok (.iload 4, 2) := by decide +kernel
theorem d58_55 : decode (pm_code 58) 55 = .ok (.iload 5, 2) := by decide +kernel
theorem d58_57 : decode (pm_code 58) 57 = .ok (.iconst 1, 1) := by decide +kernel
theorem d58_58 : decode (pm_code 58) 58 = .ok (.iadd, 1) := by decide +kernel
theorem d58_59 : decode (pm_code 58) 59 = .ok (.invokevirtual 138, 3) := by decide +kernel
theorem d58_62 : decode (pm_code 58) 62 = .ok (.ireturn, 1) := by decide +kernel
theorem d59_0 : decode (pm_code 59) 0 = .ok (.iload 4, 2) := by decide +kernel
theorem d59_2 : decode (pm_code 59) 2 = .ok (.bipush 40, 2) := by decide +kernel
theorem d59_4 : decode (pm_code 59) 4 = .ok (.if_icmp .lt 4, 3) := by decide +kernel
theorem d59_7 : decode (pm_code 59) 7 = .ok (.return_, 1) := by decide +kernel
theorem d59_8 : decode (pm_code 59) 8 = .ok (.aload_n 0, 1) := by decide +kernel
theorem d59_9 : decode (pm_code 59) 9 = .ok (.iload_n 2, 1) := by decide +kernel
theorem d59_10 : decode (pm_code 59) 10 = .ok (.invokevirtual 90, 3) := by decide +kernel
theorem d59_13 : decode (pm_code 59) 13 = .ok (.ifCond .eq 18, 3) := by decide +kernel
theorem d59_16 : decode (pm_code 59) 16 = .ok (.aload_n 1, 1) := by decide +kernel
theorem d59_17 : decode (pm_code 59) 17 = .ok (.aload_n 0, 1) := by decide +kernel
theorem d59_18 : decode (pm_code 59) 18 = .ok (.iload_n 2, 1) := by decide +kernel
theorem d59_19 : decode (pm_code 59) 19 = .ok (.invokevirtual 93, 3) := by decide +kernel
theorem d59_22 : decode (pm_code 59) 22 = .ok (.invokestatic 153, 3) := by decide +kernel
theorem d59_25 : decode (pm_code 59) 25 = .ok (.invokevirtual 157, 3) := by decide +kernel
theorem d59_28 : decode (pm_code 59) 28 = .ok (.goto 167, 3) := by decide +kernel
theorem d59_31 : decode (pm_code 59) 31 = .ok (.aload_n 0, 1) := by decide +kernel
theorem d59_32 : decode (pm_code 59) 32 = .ok (.getfield 11, 3) := by decide +kernel
theorem d59_35 : decode (pm_code 59) 35 = .ok (.iload_n 2, 1) := by decide +kernel
theorem d59_36 : decode (pm_code 59) 36 = .ok (.iaload, 1) := by decide +kernel
theorem d59_37 : decode (pm_code 59) 37 = .ok (.bipush 19, 2) := by decide +kernel
theorem d59_39 : decode (pm_code 59) 39 = .ok (.if_icmp .ne 56, 3) := by decide +kernel
theorem d59_42 : decode (pm_code 59) 42 = .ok (.aload_n 1, 1) := by decide +kernel
theorem d59_43 : decode (pm_code 59) 43 = .ok (.bipush 40, 2) := by decide +kernel
theorem d59_45 : decode (pm_code 59) 45 = .ok (.invokevirtual 157, 3) := by decide +kernel
theorem d59_48 : decode (pm_code 59) 48 = .ok (.aload_n 0, 1) := by decide +kernel
theorem d59_49 : decode (pm_code 59) 49 = .ok (.aload_n 1, 1) := by decide +kernel
theorem d59_50 : decode (pm_code 59) 50 = .ok (.aload_n 0, 1) := by decide +kernel
theorem d59_51 : decode (pm_code 59) 51 = .ok (.getfield 15, 3) := by decide +kernel
theorem d59_54 : decode (pm_code 59) 54 = .ok (.iload_n 2, 1) := by decide +kernel
theorem d59_55 : decode (pm_code 59) 55 = .ok (.iaload, 1) := by decide +kernel
theorem d59_56 : decode (pm_code 59) 56 = .ok (.iload_n 3, 1) := by decide +kernel
theorem d59_57 : decode (pm_code 59) 57 = .ok (.iload 4, 2) := by decide +kernel
theorem d59_59 : decode (pm_code 59) 59 = .ok (.iconst 1, 1) := by decide +kernel
theorem d59_60 : decode (pm_code 59) 60 = .ok (.iadd, 1) := by decide +kernel
theorem d59_61 : decode (pm_code 59) 61 = .ok (.invokevirtual 163, 3) := by decide +kernel
theorem d59_64 : decode (pm_code 59) 64 = .ok (.aload_n 1, 1) := by decide +kernel
theorem d59_65 : decode (pm_code 59) 65 = .ok (.bipush 62, 2) := by decide +kernel
theorem d59_67 : decode (pm_code 59) 67 = .ok (.invokevirtual 157, 3) := by decide +kernel
theorem d59_70 : decode (pm_code 59) 70 = .ok (.aload_n 0, 1) := by decide +kernel
theorem d59_71 : decode (pm_code 59) 71 = .ok (.aload_n 1, 1) := by decide +kernel
theorem d59_72 : decode (pm_code 59) 72 = .ok (.aload_n 0, 1) := by decide +kernel
theorem d59_73 : decode (pm_code 59) 73 = .ok (.getfield 18, 3) := by decide +kernel
theorem d59_76 : decode (pm_code 59) 76 = .ok (.iload_n 2, 1) := by decide +kernel
theorem d59_77 : decode (pm_code 59) 77 = .ok (.iaload, 1) := by decide +kernel
theorem d59_78 : decode (pm_code 59) 78 = .ok (.iload_n 3, 1) := by decide +kernel
theorem d59_79 : decode (pm_code 59) 79 = .ok (.iload 4, 2) := by decide +kernel
theorem d59_81 : decode (pm_code 59) 81 = .ok (.iconst 1, 1) := by decide +kernel
theorem d59_82 : decode (pm_code 59) 82 = .ok (.iadd, 1) := by decide +kernel
theorem d59_83 : decode (pm_code 59) 83 = .ok (.invokevirtual 163, 3) := by decide +kernel
theorem d59_86 : decode (pm_code 59) 86 = .ok (.aload_n 1, 1) := by decide +kernel
theorem d59_87 : decode (pm_code 59) 87 = .ok (.bipush 41, 2) := by decide +kernel
theorem d59_89 : decode (pm_code 59) 89 = .ok (.invokevirtual 157, 3) := by decide +kernel
theorem d59_92 : decode (pm_code 59) 92 = .ok (.goto 103, 3) := by decide +kernel
theorem d59_95 : decode (pm_code 59) 95 = .ok (.aload_n 0, 1) := by decide +kernel
theorem d59_96 : decode (pm_code 59) 96 = .ok (.getfield 11, 3) := by decide +kernel
theorem d59_99 : decode (pm_code 59) 99 = .ok (.iload_n 2, 1) := by decide +kernel
theorem d59_100 : decode (pm_code 59) 100 = .ok (.iaload, 1) := by decide +kernel
theorem d59_101 : decode (pm_code 59) 101 = .ok (.bipush 35, 2) := by decide +kernel
theorem d59_103 : decode (pm_code 59) 103 = .ok (.if_icmp .ne 66, 3) := by decide +kernel
theorem d59_106 : decode (pm_code 59) 106 = .ok (.aload_n 1, 1) := by decide +kernel
theorem d59_107 : decode (pm_code 59) 107 = .ok (.bipush 60, 2) := by decide +kernel
theorem d59_109 : decode (pm_code 59) 109 = .ok (.invokevirtual 157, 3) := by decide +kernel
theorem d59_112 : decode (pm_code 59) 112 = .ok (.aload_n 1, 1) := by decide +kernel
theorem d59_113 : decode (pm_code 59) 113 = .ok (.iload_n 3, 1) := by decide +kernel
theorem d59_114 : decode (pm_code 59) 114 = .ok (.invokestatic 153, 3) := by decide +kernel
theorem d59_117 : decode (pm_code 59) 117 = .ok (.invokevirtual 157, 3) := by decide +kernel
theorem d59_120 : decode (pm_code 59) 120 = .ok (.aload_n 1, 1) := by decide +kernel
theorem d59_121 : decode (pm_code 59) 121 = .ok (.bipush 58, 2) := by decide +kernel
theorem d59_123 : decode (pm_code 59) 123 = .ok (.invokevirtual 157, 3) := by decide +kernel
theorem d59_126 : decode (pm_code 59) 126 = .ok (.aload_n 0, 1) := by decide +kernel
theorem d59_127 : decode (pm_code 59) 127 = .ok (.aload_n 1, 1) := by decide +kernel
theorem d59_128 : decode (pm_code 59) 128 = .ok (.aload_n 0, 1) := by decide +kernel
theorem d59_129 : decode (pm_code 59) 129 = .ok (.getfield 15, 3) := by decide +kernel
theorem d59_132 : decode (pm_code 59) 132 = .ok (.iload_n 2, 1) := by decide +kernel
theorem d59_133 : decode (pm_code 59) 133 = .ok (.iaload, 1) := by decide +kernel
theorem d59_134 : decode (pm_code 59) 134 = .ok (.iload_n 3, 1) := by decide +kernel
theorem d59_135 : decode (pm_code 59) 135 = .ok (.iload 4, 2) := by decide +kernel
theorem d59_137 : decode (pm_code 59) 137 = .ok (.iconst 1, 1) := by decide +kernel
theorem d59_138 : decode (pm_code 59) 138 = .ok (.iadd, 1) := by decide +kernel
theorem d59_139 : decode (pm_code 59) 139 = .ok (.invokevirtual 163, 3) := by decide +kernel
theorem d59_142 : decode (pm_code 59) 142 = .ok (.aload_n 1, 1) := by decide +kernel
theorem d59_143 : decode (pm_code 59) 143 = .ok (.bipush 62, 2) := by decide +kernel
theorem d59_145 : decode (pm_code 59) 145 = .ok (.invokevirtual 157, 3) := by decide +kernel
theorem d59_148 : decode (pm_code 59) 148 = .ok (.aload_n 0, 1) := by decide +kernel
theorem d59_149 : decode (pm_code 59) 149 = .ok (.aload_n 1, 1) := by decide +kernel
theorem d59_150 : decode (pm_code 59) 150 = .ok (.aload_n 0, 1) := by decide +kernel
theorem d59_151 : decode (pm_code 59) 151 = .ok (.getfield 18, 3) := by decide +kernel
theorem d59_154 : decode (pm_code 59) 154 = .ok (.iload_n 2, 1) := by decide +kernel
theorem d59_155 : decode (pm_code 59) 155 = .ok (.iaload, 1) := by decide +kernel
theorem d59_156 : decode (pm_code 59) 156 = .ok (.iload_n 3, 1) := by decide +kernel
theorem d59_157 : decode (pm_code 59) 157 = .ok (.iconst 1, 1) := by decide +kernel
theorem d59_158 : decode (pm_code 59) 158 = .ok (.iadd, 1) := by decide +kernel
theorem d59_159 : decode (pm_code 59) 159 = .ok (.iload 4, 2) := by decide +kernel
theorem d59_161 : decode (pm_code 59) 161 = .ok (.iconst 1, 1) := by decide +kernel
theorem d59_162 : decode (pm_code 59) 162 = .ok (.iadd, 1) := by decide +kernel
theorem d59_163 : decode (pm_code 59) 163 = .ok (.invokevirtual 163, 3) := by decide +kernel
theorem d59_166 : decode (pm_code 59) 166 = .ok (.goto 29, 3) := by decide +kernel
theorem d59_169 : decode (pm_code 59) 169 = .ok (.aload_n 0, 1) := by decide +kernel
theorem d59_170 : decode (pm_code 59) 170 = .ok (.iload_n 2, 1) := by decide +kernel
theorem d59_171 : decode (pm_code 59) 171 = .ok (.invokevirtual 58, 3) := by decide +kernel
theorem d59_174 : decode (pm_code 59) 174 = .ok (.ifCond .eq 15, 3) := by decide +kernel
theorem d59_177 : decode (pm_code 59) 177 = .ok (.aload_n 0, 1) := by decide +kernel
theorem d59_178 : decode (pm_code 59) 178 = .ok (.aload_n 1, 1) := by decide +kernel
theorem d59_179 : decode (pm_code 59) 179 = .ok (.iload_n 2, 1) := by decide +kernel
theorem d59_180 : decode (pm_code 59) 180 = .ok (.iload_n 3, 1) := by decide +kernel
theorem d59_181 : decode (pm_code 59) 181 = .ok (.iload 4, 2) := by decide +kernel
theorem d59_183 : decode (pm_code 59) 183 = .ok (.invokevirtual 167, 3) := by decide +kernel
theorem d59_186 : decode (pm_code 59) 186 = .ok (.goto 9, 3) := by decide +kernel
theorem d59_189 : decode (pm_code 59) 189 = .ok (.aload_n 1, 1) := by decide +kernel
theorem d59_190 : decode (pm_code 59) 190 = .ok (.bipush 84, 2) := by decide +kernel
theorem d59_192 : decode (pm_code 59) 192 = .ok (.invokevirtual 157, 3) := by decide +kernel
theorem d59_195 : decode (pm_code 59) 195 = .ok (.return_, 1) := by decide +kernel
theorem d60_0 : decode (pm_code 60) 0 = .ok (.aload_n 1, 1) := by decide +kernel
theorem d60_1 : decode (pm_code 60) 1 = .ok (.bipush 91, 2) := by decide +kernel
theorem d60_3 : decode (pm_code 60) 3 = .ok (.invokevirtual 157, 3) := by decide +kernel
theorem d60_6 : decode (pm_code 60) 6 = .ok (.iconst 0, 1) := by decide +kernel
theorem d60_7 : decode (pm_code 60) 7 = .ok (.istore 5, 2) := by decide +kernel
theorem d60_9 : decode (pm_code 60) 9 = .ok (.iconst 0, 1) := by decide +kernel
theorem d60_10 : decode (pm_code 60) 10 = .ok (.istore 6, 2) := by decide +kernel
theorem d60_12 : decode (pm_code 60) 12 = .ok (.iload 6, 2) := by decide +kernel
theorem d60_14 : decode (pm_code 60) 14 = .ok (.iconst 3, 1) := by decide +kernel
theorem d60_15 : decode (pm_code 60) 15 = .ok (.if_icmp .ge 64, 3) := by decide +kernel
theorem d60_18 : decode (pm_code 60) 18 = .ok (.aload_n 0, 1) := by decide +kernel
theorem d60_19 : decode (pm_code 60) 19 = .ok (.getfield 11, 3) := by decide +kernel
theorem d60_22 : decode (pm_code 60) 22 = .ok (.iload_n 2, 1) := by decide +kernel
theorem d60_23 : decode (pm_code 60) 23 = .ok (.iaload, 1) := by decide +kernel
theorem d60_24 : decode (pm_code 60) 24 = .ok (.iload 6, 2) := by decide +kernel
theorem d60_26 : decode (pm_code 60) 26 = .ok (.invokestatic 38, 3) := by decide +kernel
theorem d60_29 : decode (pm_code 60) 29 = .ok (.ifCond .eq 44, 3) := by decide +kernel
theorem d60_32 : decode (pm_code 60) 32 = .ok (.iload 5, 2) := by decide +kernel
theorem d60_34 : decode (pm_code 60) 34 = .ok (.ifCond .eq 9, 3) := by decide +kernel
theorem d60_37 : decode (pm_code 60) 37 = .ok (.aload_n 1, 1) := by decide +kernel
theorem d60_38 : decode (pm_code 60) 38 = .ok (.bipush 44, 2) := by decide +kernel
theorem d60_40 : decode (pm_code 60) 40 = .ok (.invokevirtual 157, 3) := by decide +kernel
theorem d60_43 : decode (pm_code 60) 43 = .ok (.iconst 1, 1) := by decide +kernel
theorem d60_44 : decode (pm_code 60) 44 = .ok (.istore 5, 2) := by decide +kernel
theorem d60_46 : decode (pm_code 60) 46 = .ok (.aload_n 1, 1) := by decide +kernel
theorem d60_47 : decode (pm_code 60) 47 = .ok (.bipush 120, 2) := by decide +kernel
theorem d60_49 : decode (pm_code 60) 49 = .ok (.iload 6, 2) := by decide +kernel
theorem d60_51 : decode (pm_code 60) 51 = .ok (.iadd, 1) := by decide +kernel
theorem d60_52 : decode (pm_code 60) 52 = .ok (.i2c, 1) := by decide +kernel
theorem d60_53 : decode (pm_code 60) 53 = .ok (.invokevirtual 157, 3) := by decide +kernel
theorem d60_56 : decode (pm_code 60) 56 = .ok (.aload_n 0, 1) := by decide +kernel
theorem d60_57 : decode (pm_code 60) 57 = .ok (.aload_n 1, 1) := by decide +kernel
theorem d60_58 : decode (pm_code 60) 58 = .ok (.aload_n 0, 1) := by decide +kernel
theorem d60_59 : decode (pm_code 60) 59 = .ok (.iload_n 2, 1) := by decide +kernel
theorem d60_60 : decode (pm_code 60) 60 = .ok (.iload 6, 2) := by decide +kernel
theorem d60_62 : decode (pm_code 60) 62 = .ok (.invokevirtual 73, 3) := by decide +kernel
theorem d60_65 : decode (pm_code 60) 65 = .ok (.iload_n 3, 1) := by decide +kernel
theorem d60_66 : decode (pm_code 60) 66 = .ok (.iload 4, 2) := by decide +kernel
theorem d60_68 : decode (pm_code 60) 68 = .ok (.iconst 1, 1) := by decide +kernel
theorem d60_69 : decode (pm_code 60) 69 = .ok (.iadd, 1) := by decide +kernel
theorem d60_70 : decode (pm_code 60) 70 = .ok (.invokevirtual 163, 3) := by decide +kernel
theorem d60_73 : decode (pm_code 60) 73 = .ok (.iinc 6 1, 3) := by decide +kernel
theorem d60_76 : decode (pm_code 60) 76 = .ok (.goto (-64), 3) := by decide +kernel
theorem d60_79 : decode (pm_code 60) 79 = .ok (.aload_n 1, 1) := by decide +kernel
theorem d60_80 : decode (pm_code 60) 80 = .ok (.bipush 93, 2) := by decide +kernel
theorem d60_82 : decode (pm_code 60) 82 = .ok (.invokevirtual 157, 3) := by decide +kernel
theorem d60_85 : decode (pm_code 60) 85 = .ok (.return_, 1) := by decide +kernel
theorem d61_0 : decode (pm_code 61) 0 = .ok (.bipush 80, 2) := by decide +kernel
theorem d61_2 : decode (pm_code 61) 2 = .ok (.iload_n 0, 1) := by decide +kernel
theorem d61_3 : decode (pm_code 61) 3 = .ok (.iadd, 1) := by decide +kernel
theorem d61_4 : decode (pm_code 61) 4 = .ok (.i2c, 1) := by decide +kernel
theorem d61_5 : decode (pm_code 61) 5 = .ok (.ireturn, 1) := by decide +kernel
theorem d62_0 : decode (pm_code 62) 0 = .ok (.aload_n 0, 1) := by decide +kernel
theorem d62_1 : decode (pm_code 62) 1 = .ok (.invokespecial 3, 3) := by decide +kernel
theorem d62_4 : decode (pm_code 62) 4 = .ok (.aload_n 0, 1) := by decide +kernel
theorem d62_5 : decode (pm_code 62) 5 = .ok (.bipush 100, 2) := by decide +kernel
theorem d62_7 : decode (pm_code 62) 7 = .ok (.newarray .char, 2) := by decide +kernel
theorem d62_9 : decode (pm_code 62) 9 = .ok (.putfield 9, 3) := by decide +kernel
theorem d62_12 : decode (pm_code 62) 12 = .ok (.aload_n 0, 1) := by decide +kernel
theorem d62_13 : decode (pm_code 62) 13 = .ok (.bipush 100, 2) := by decide +kernel
theorem d62_15 : decode (pm_code 62) 15 = .ok (.newarray .char, 2) := by decide +kernel
theorem d62_17 : decode (pm_code 62) 17 = .ok (.putfield 15, 3) := by decide +kernel
theorem d62_20 : decode (pm_code 62) 20 = .ok (.return_, 1) := by decide +kernel
theorem d63_0 : decode (pm_code 63) 0 = .ok (.aload_n 0, 1) := by decide +kernel
theorem d63_1 : decode (pm_code 63) 1 = .ok (.iconst 0, 1) := by decide +kernel
theorem d63_2 : decode (pm_code 63) 2 = .ok (.putfield 18, 3) := by decide +kernel
theorem d63_5 : decode (pm_code 63) 5 = .ok (.return_, 1) := by decide +kernel
theorem d64_0 : decode (pm_code 64) 0 = .ok (.aload_n 0, 1) := by decide +kernel
theorem d64_1 : decode (pm_code 64) 1 = .ok (.getfield 18, 3) := by decide +kernel
theorem d64_4 : decode (pm_code 64) 4 = .ok (.bipush 100, 2) := by decide +kernel
theorem d64_6 : decode (pm_code 64) 6 = .ok (.if_icmp .ge 13, 3) := by decide +kernel
theorem d64_9 : decode (pm_code 64) 9 = .ok (.aload_n 0, 1) := by decide +kernel
theorem d64_10 : decode (pm_code 64) 10 = .ok (.getfield 15, 3) := by decide +kernel
theorem d64_13 : decode (pm_code 64) 13 = .ok (.aload_n 0, 1) := by decide +kernel
theorem d64_14 : decode (pm_code 64) 14 = .ok (.getfield 18, 3) := by decide +kernel
theorem d64_17 : decode (pm_code 64) 17 = .ok (.iload_n 1, 1) := by decide +kernel
theorem d64_18 : decode (pm_code 64) 18 = .ok (.castore, 1) := by decide +kernel
theorem d64_19 : decode (pm_code 64) 19 = .ok (.aload_n 0, 1) := by decide +kernel
theorem d64_20 : decode (pm_code 64) 20 = .ok (.dup, 1) := by decide +kernel
theorem d64_21 : decode (pm_code 64) 21 = .ok (.getfield 18, 3) := by decide +kernel
theorem d64_24 : decode (pm_code 64) 24 = .ok (.iconst 1, 1) := by decide +kernel
theorem d64_25 : decode (pm_code 64) 25 = .ok (.iadd, 1) := by decide +kernel
theorem d64_26 : decode (pm_code 64) 26 = .ok (.putfield 18, 3) := by decide +kernel
theorem d64_29 : decode (pm_code 64) 29 = .ok (.return_, 1) := by decide +kernel
theorem d65_0 : decode (pm_code 65) 0 = .ok (.aload_n 0, 1) := by decide +kernel
theorem d65_1 : decode (pm_code 65) 1 = .ok (.getfield 18, 3) := by decide +kernel
theorem d65_4 : decode (pm_code 65) 4 = .ok (.bipush 100, 2) := by decide +kernel
theorem d65_6 : decode (pm_code 65) 6 = .ok (.if_icmp .le 7, 3) := by decide +kernel
theorem d65_9 : decode (pm_code 65) 9 = .ok (.iconst 1, 1) := by decide +kernel
theorem d65_10 : decode (pm_code 65) 10 = .ok (.goto 4, 3) := by decide +kernel
theorem d65_13 : decode (pm_code 65) 13 = .ok (.iconst 0, 1) := by decide +kernel
theorem d65_14 : decode (pm_code 65) 14 = .ok (.ireturn, 1) := by decide +kernel
theorem d66_0 : decode (pm_code 66) 0 = .ok (.aload_n 0, 1) := by decide +kernel
theorem d66_1 : decode (pm_code 66) 1 = .ok (.invokevirtual 22, 3) := by decide +kernel
theorem d66_4 : decode (pm_code 66) 4 = .ok (.ifCond .eq 6, 3) := by decide +kernel
theorem d66_7 : decode (pm_code 66) 7 = .ok (.bipush (-3), 2) := by decide +kernel
theorem d66_9 : decode (pm_code 66) 9 = .ok (.ireturn, 1) := by decide +kernel
theorem d66_10 : decode (pm_code 66) 10 = .ok (.iconst 0, 1) := by decide +kernel
theorem d66_11 : decode (pm_code 66) 11 = .ok (.istore_n 1, 1) := by decide +kernel
theorem d66_12 : decode (pm_code 66) 12 = .ok (.iload_n 1, 1) := by decide +kernel
theorem d66_13 : decode (pm_code 66) 13 = .ok (.aload_n 0, 1) := by decide +kernel
theorem d66_14 : decode (pm_code 66) 14 = .ok (.getfield 18, 3) := by decide +kernel
theorem d66_17 : decode (pm_code 66) 17 = .ok (.if_icmp .ge 21, 3) := by decide +kernel
theorem d66_20 : decode (pm_code 66) 20 = .ok (.aload_n 0, 1) := by decide +kernel
theorem d66_21 : decode (pm_code 66) 21 = .ok (.getfield 9, 3) := by decide +kernel
theorem d66_24 : decode (pm_code 66) 24 = .ok (.iload_n 1, 1) := by decide +kernel
theorem d66_25 : decode (pm_code 66) 25 = .ok (.aload_n 0, 1) := by decide +kernel
theorem d66_26 : decode (pm_code 66) 26 = .ok (.getfield 15, 3) := by decide +kernel
theorem d66_29 : decode (pm_code 66) 29 = .ok (.iload_n 1, 1) := by decide +kernel
theorem d66_30 : decode (pm_code 66) 30 = .ok (.caload, 1) := by decide +kernel
theorem d66_31 : decode (pm_code 66) 31 = .ok (.castore, 1) := by decide +kernel
theorem d66_32 : decode (pm_code 66) 32 = .ok (.iinc 1 1, 3) := by decide +kernel
theorem d66_35 : decode (pm_code 66) 35 = .ok (.goto (-23), 3) := by decide +kernel
theorem d66_38 : decode (pm_code 66) 38 = .ok (.aload_n 0, 1) := by decide +kernel
theorem d66_39 : decode (pm_code 66) 39 = .ok (.aload_n 0, 1) := by decide +kernel
theorem d66_40 : decode (pm_code 66) 40 = .ok (.getfield 18, 3) := by decide +kernel
theorem d66_43 : decode (pm_code 66) 43 = .ok (.putfield 26, 3) := by decide +kernel
theorem d66_46 : decode (pm_code 66) 46 = .ok (.aload_n 0, 1) := by decide +kernel
theorem d66_47 : decode (pm_code 66) 47 = .ok (.getfield 26, 3) := by decide +kernel
theorem d66_50 : decode (pm_code 66) 50 = .ok (.ireturn, 1) := by decide +kernel
theorem d67_0 : decode (pm_code 67) 0 = .ok (.aload_n 0, 1) := by decide +kernel
theorem d67_1 : decode (pm_code 67) 1 = .ok (.invokespecial 3, 3) := by decide +kernel
theorem d67_4 : decode (pm_code 67) 4 = .ok (.aload_n 0, 1) := by decide +kernel
theorem d67_5 : decode (pm_code 67) 5 = .ok (.bipush 60, 2) := by decide +kernel
theorem d67_7 : decode (pm_code 67) 7 = .ok (.newarray .int, 2) := by decide +kernel
theorem d67_9 : decode (pm_code 67) 9 = .ok (.putfield 9, 3) := by decide +kernel
theorem d67_12 : decode (pm_code 67) 12 = .ok (.aload_n 0, 1) := by decide +kernel
theorem d67_13 : decode (pm_code 67) 13 = .ok (.bipush 60, 2) := by decide +kernel
theorem d67_15 : decode (pm_code 67) 15 = .ok (.newarray .int, 2) := by decide +kernel
theorem d67_17 : decode (pm_code 67) 17 = .ok (.putfield 15, 3) := by decide +kernel
theorem d67_20 : decode (pm_code 67) 20 = .ok (.aload_n 0, 1) := by decide +kernel
theorem d67_21 : decode (pm_code 67) 21 = .ok (.bipush 60, 2) := by decide +kernel
theorem d67_23 : decode (pm_code 67) 23 = .ok (.newarray .int, 2) := by decide +kernel
theorem d67_25 : decode (pm_code 67) 25 = .ok (.putfield 18, 3) := by decide +kernel
theorem d67_28 : decode (pm_code 67) 28 = .ok (.aload_n 0, 1) := by decide +kernel
theorem d67_29 : decode (pm_code 67) 29 = .ok (.bipush 60, 2) := by decide +kernel
theorem d67_31 : decode (pm_code 67) 31 = .ok (.newarray .int, 2) := by decide +kernel
theorem d67_33 : decode (pm_code 67) 33 = .ok (.putfield 21, 3) := by decide +kernel
theorem d67_36 : decode (pm_code 67) 36 = .ok (.aload_n 0, 1) := by decide +kernel
theorem d67_37 : decode (pm_code 67) 37 = .ok (.bipush 60, 2) := by decide +kernel
theorem d67_39 : decode (pm_code 67) 39 = .ok (.newarray .int, 2) := by decide +kernel
theorem d67_41 : decode (pm_code 67) 41 = .ok (.putfield 24, 3) := by decide +kernel
theorem d67_44 : decode (pm_code 67) 44 = .ok (.aload_n 0, 1) := by decide +kernel
theorem d67_45 : decode (pm_code 67) 45 = .ok (.bipush 60, 2) := by decide +kernel
theorem d67_47 : decode (pm_code 67) 47 = .ok (.newarray .int, 2) := by decide +kernel
theorem d67_49 : decode (pm_code 67) 49 = .ok (.putfield 27, 3) := by decide +kernel
theorem d67_52 : decode (pm_code 67) 52 = .ok (.return_, 1) := by decide +kernel
theorem d68_0 : decode (pm_code 68) 0 = .ok (.aload_n 0, 1) := by decide +kernel
theorem d68_1 : decode (pm_code 68) 1 = .ok (.getfield 30, 3) := by decide +kernel
theorem d68_4 : decode (pm_code 68) 4 = .ok (.bipush 60, 2) := by decide +kernel
theorem d68_6 : decode (pm_code 68) 6 = .ok (.if_icmp .lt 5, 3) := by decide +kernel
theorem d68_9 : decode (pm_code 68) 9 = .ok (.iconst 0, 1) := by decide +kernel
theorem d68_10 : decode (pm_code 68) 10 = .ok (.ireturn, 1) := by decide +kernel
theorem d68_11 : decode (pm_code 68) 11 = .ok (.aload_n 0, 1) := by decide +kernel
theorem d68_12 : decode (pm_code 68) 12 = .ok (.getfield 30, 3) := by decide +kernel
theorem d68_15 : decode (pm_code 68) 15 = .ok (.istore_n 3, 1) := by decide +kernel
theorem d68_16 : decode (pm_code 68) 16 = .ok (.aload_n 0, 1) := by decide +kernel
theorem d68_17 : decode (pm_code 68) 17 = .ok (.dup, 1) := by decide +kernel
theorem d68_18 : decode (pm_code 68) 18 = .ok (.getfield 30, 3) := by decide +kernel
theorem d68_21 : decode (pm_code 68) 21 = .ok (.iconst 1, 1) := by decide +kernel
theorem d68_22 : decode (pm_code 68) 22 = .ok (.iadd, 1) := by decide +kernel
theorem d68_23 : decode (pm_code 68) 23 = .ok (.putfield 30, 3) := by decide +kernel
theorem d68_26 : decode (pm_code 68) 26 = .ok (.aload_n 0, 1) := by decide +kernel
theorem d68_27 : decode (pm_code 68) 27 = .ok (.getfield 9, 3) := by decide +kernel
theorem d68_30 : decode (pm_code 68) 30 = .ok (.iload_n 3, 1) := by decide +kernel
theorem d68_31 : decode (pm_code 68) 31 = .ok (.iload_n 1, 1) := by decide +kernel
theorem d68_32 : decode (pm_code 68) 32 = .ok (.iastore, 1) := by decide +kernel
theorem d68_33 : decode (pm_code 68) 33 = .ok (.aload_n 0, 1) := by decide +kernel
theorem d68_34 : decode (pm_code 68) 34 = .ok (.getfield 15, 3) := by decide +kernel
theorem d68_37 : decode (pm_code 68) 37 = .ok (.iload_n 3, 1) := by decide +kernel
theorem d68_38 : decode (pm_code 68) 38 = .ok (.iload_n 2, 1) := by decide +kernel
theorem d68_39 : decode (pm_code 68) 39 = .ok (.iastore, 1) := by decide +kernel
theorem d68_40 : decode (pm_code 68) 40 = .ok (.aload_n 0, 1) := by decide +kernel
theorem d68_41 : decode (pm_code 68) 41 = .ok (.getfield 18, 3) := by decide +kernel
theorem d68_44 : decode (pm_code 68) 44 = .ok (.iload_n 3, 1) := by decide +kernel
theorem d68_45 : decode (pm_code 68) 45 = .ok (.iconst 0, 1) := by decide +kernel
theorem d68_46 : decode (pm_code 68) 46 = .ok (.iastore, 1) := by decide +kernel
theorem d68_47 : decode (pm_code 68) 47 = .ok (.aload_n 0, 1) := by decide +kernel
theorem d68_48 : decode (pm_code 68) 48 = .ok (.getfield 21, 3) := by decide +kernel
theorem d68_51 : decode (pm_code 68) 51 = .ok (.iload_n 3, 1) := by decide +kernel
theorem d68_52 : decode (pm_code 68) 52 = .ok (.iconst 0, 1) := by decide +kernel
theorem d68_53 : decode (pm_code 68) 53 = .ok (.iastore, 1) := by decide +kernel
theorem d68_54 : decode (pm_code 68) 54 = .ok (.aload_n 0, 1) := by decide +kernel
theorem d68_55 : decode (pm_code 68) 55 = .ok (.getfield 24, 3) := by decide +kernel
theorem d68_58 : decode (pm_code 68) 58 = .ok (.iload_n 3, 1) := by decide +kernel
theorem d68_59 : decode (pm_code 68) 59 = .ok (.iconst 0, 1) := by decide +kernel
theorem d68_60 : decode (pm_code 68) 60 = .ok (.iastore, 1) := by decide +kernel
theorem d68_61 : decode (pm_code 68) 61 = .ok (.aload_n 0, 1) := by decide +kernel
theorem d68_62 : decode (pm_code 68) 62 = .ok (.getfield 27, 3) := by decide +kernel
theorem d68_65 : decode (pm_code 68) 65 = .ok (.iload_n 3, 1) := by decide +kernel
theorem d68_66 : decode (pm_code 68) 66 = .ok (.iconst 0, 1) := by decide +kernel
theorem d68_67 : decode (pm_code 68) 67 = .ok (.iastore, 1) := by decide +kernel
theorem d68_68 : decode (pm_code 68) 68 = .ok (.iload_n 3, 1) := by decide +kernel
theorem d68_69 : decode (pm_code 68) 69 = .ok (.ireturn, 1) := by decide +kernel
theorem d69_0 : decode (pm_code 69) 0 = .ok (.aload_n 0, 1) := by decide +kernel
theorem d69_1 : decode (pm_code 69) 1 = .ok (.getfield 18, 3) := by decide +kernel
theorem d69_4 : decode (pm_code 69) 4 = .ok (.iload_n 1, 1) := by decide +kernel
theorem d69_5 : decode (pm_code 69) 5 = .ok (.iload_n 2, 1) := by decide +kernel
theorem d69_6 : decode (pm_code 69) 6 = .ok (.iastore, 1) := by decide +kernel
theorem d69_7 : decode (pm_code 69) 7 = .ok (.aload_n 0, 1) := by decide +kernel
theorem d69_8 : decode (pm_code 69) 8 = .ok (.getfield 21, 3) := by decide +kernel
theorem d69_11 : decode (pm_code 69) 11 = .ok (.iload_n 1, 1) := by decide +kernel
theorem d69_12 : decode (pm_code 69) 12 = .ok (.iload_n 3, 1) := by decide +kernel
theorem d69_13 : decode (pm_code 69) 13 = .ok (.iastore, 1) := by decide +kernel
theorem d69_14 : decode (pm_code 69) 14 = .ok (.aload_n 0, 1) := by decide +kernel
theorem d69_15 : decode (pm_code 69) 15 = .ok (.getfield 24, 3) := by decide +kernel
theorem d69_18 : decode (pm_code 69) 18 = .ok (.iload_n 1, 1) := by decide +kernel
theorem d69_19 : decode (pm_code 69) 19 = .ok (.iload 4, 2) := by decide +kernel
theorem d69_21 : decode (pm_code 69) 21 = .ok (.iastore, 1) := by decide +kernel
theorem d69_22 : decode (pm_code 69) 22 = .ok (.aload_n 0, 1) := by decide +kernel
theorem d69_23 : decode (pm_code 69) 23 = .ok (.getfield 27, 3) := by decide +kernel
theorem d69_26 : decode (pm_code 69) 26 = .ok (.iload_n 1, 1) := by decide +kernel
theorem d69_27 : decode (pm_code 69) 27 = .ok (.iload 5, 2) := by decide +kernel
theorem d69_29 : decode (pm_code 69) 29 = .ok (.iastore, 1) := by decide +kernel
theorem d69_30 : decode (pm_code 69) 30 = .ok (.return_, 1) := by decide +kernel
theorem d70_0 : decode (pm_code 70) 0 = .ok (.aload_n 0, 1) := by decide +kernel
theorem d70_1 : decode (pm_code 70) 1 = .ok (.getfield 18, 3) := by decide +kernel
theorem d70_4 : decode (pm_code 70) 4 = .ok (.iload_n 1, 1) := by decide +kernel
theorem d70_5 : decode (pm_code 70) 5 = .ok (.iaload, 1) := by decide +kernel
theorem d70_6 : decode (pm_code 70) 6 = .ok (.iload_n 2, 1) := by decide +kernel
theorem d70_7 : decode (pm_code 70) 7 = .ok (.ishr, 1) := by decide +kernel
theorem d70_8 : decode (pm_code 70) 8 = .ok (.iconst 1, 1) := by decide +kernel
theorem d70_9 : decode (pm_code 70) 9 = .ok (.iand, 1) := by decide +kernel
theorem d70_10 : decode (pm_code 70) 10 = .ok (.iconst 1, 1) := by decide +kernel
theorem d70_11 : decode (pm_code 70) 11 = .ok (.if_icmp .ne 7, 3) := by decide +kernel
theorem d70_14 : decode (pm_code 70) 14 = .ok (.iconst 1, 1) := by decide +kernel
theorem d70_15 : decode (pm_code 70) 15 = .ok (.goto 4, 3) := by decide +kernel
theorem d70_18 : decode (pm_code 70) 18 = .ok (.iconst 0, 1) := by decide +kernel
theorem d70_19 : decode (pm_code 70) 19 = .ok (.ireturn, 1) := by decide +kernel
theorem d71_0 : decode (pm_code 71) 0 = .ok (.iload_n 2, 1) := by decide +kernel
theorem d71_1 : decode (pm_code 71) 1 = .ok (.ifCond .ne 12, 3) := by decide +kernel
theorem d71_4 : decode (pm_code 71) 4 = .ok (.aload_n 0, 1) := by decide +kernel
theorem d71_5 : decode (pm_code 71) 5 = .ok (.getfield 21, 3) := by decide +kernel
theorem d71_8 : decode (pm_code 71) 8 = .ok (.iload_n 1, 1) := by decide +kernel
theorem d71_9 : decode (pm_code 71) 9 = .ok (.iaload, 1) := by decide +kernel
theorem d71_10 : decode (pm_code 71) 10 = .ok (.goto 23, 3) := by decide +kernel
theorem d71_13 : decode (pm_code 71) 13 = .ok (.iload_n 2, 1) := by decide +kernel
theorem d71_14 : decode (pm_code 71) 14 = .ok (.iconst 1, 1) := by decide +kernel
theorem d71_15 : decode (pm_code 71) 15 = .ok (.if_icmp .ne 12, 3) := by decide +kernel
theorem d71_18 : decode (pm_code 71) 18 = .ok (.aload_n 0, 1) := by decide +kernel
theorem d71_19 : decode (pm_code 71) 19 = .ok (.getfield 24, 3) := by decide +kernel
theorem d71_22 : decode (pm_code 71) 22 = .ok (.iload_n 1, 1) := by decide +kernel
theorem d71_23 : decode (pm_code 71) 23 = .ok (.iaload, 1) := by decide +kernel
theorem d71_24 : decode (pm_code 71) 24 = .ok (.goto 9, 3) := by decide +kernel
theorem d71_27 : decode (pm_code 71) 27 = .ok (.aload_n 0, 1) := by decide +kernel
theorem d71_28 : decode (pm_code 71) 28 = .ok (.getfield 27, 3) := by decide +kernel
theorem d71_31 : decode (pm_code 71) 31 = .ok (.iload_n 1, 1) := by decide +kernel
theorem d71_32 : decode (pm_code 71) 32 = .ok (.iaload, 1) := by decide +kernel
theorem d71_33 : decode (pm_code 71) 33 = .ok (.ireturn, 1) := by decide +kernel
theorem d72_0 : decode (pm_code 72) 0 = .ok (.iload_n 2, 1) := by decide +kernel
theorem d72_1 : decode (pm_code 72) 1 = .ok (.istore_n 3, 1) := by decide +kernel
theorem d72_2 : decode (pm_code 72) 2 = .ok (.iload_n 3, 1) := by decide +kernel
theorem d72_3 : decode (pm_code 72) 3 = .ok (.iconst 3, 1) := by decide +kernel
theorem d72_4 : decode (pm_code 72) 4 = .ok (.if_icmp .ge 18, 3) := by decide +kernel
theorem d72_7 : decode (pm_code 72) 7 = .ok (.aload_n 0, 1) := by decide +kernel
theorem d72_8 : decode (pm_code 72) 8 = .ok (.iload_n 1, 1) := by decide +kernel
theorem d72_9 : decode (pm_code 72) 9 = .ok (.iload_n 3, 1) := by decide +kernel
theorem d72_10 : decode (pm_code 72) 10 = .ok (.invokevirtual 34, 3) := by decide +kernel
theorem d72_13 : decode (pm_code 72) 13 = .ok (.ifCond .ne 9, 3) := by decide +kernel
theorem d72_16 : decode (pm_code 72) 16 = .ok (.iinc 3 1, 3) := by decide +kernel
theorem d72_19 : decode (pm_code 72) 19 = .ok (.goto (-17), 3) := by decide +kernel
theorem d72_22 : decode (pm_code 72) 22 = .ok (.iload_n 3, 1) := by decide +kernel
theorem d72_23 : decode (pm_code 72) 23 = .ok (.ireturn, 1) := by decide +kernel
theorem d73_0 : decode (pm_code 73) 0 = .ok (.aload_n 0, 1) := by decide +kernel
theorem d73_1 : decode (pm_code 73) 1 = .ok (.invokespecial 3, 3) := by decide +kernel
theorem d73_4 : decode (pm_code 73) 4 = .ok (.aload_n 0, 1) := by decide +kernel
theorem d73_5 : decode (pm_code 73) 5 = .ok (.bipush 24, 2) := by decide +kernel
theorem d73_7 : decode (pm_code 73) 7 = .ok (.newarray .char, 2) := by decide +kernel
theorem d73_9 : decode (pm_code 73) 9 = .ok (.putfield 9, 3) := by decide +kernel
theorem d73_12 : decode (pm_code 73) 12 = .ok (.aload_n 0, 1) := by decide +kernel
theorem d73_13 : decode (pm_code 73) 13 = .ok (.bipush 24, 2) := by decide +kernel
theorem d73_15 : decode (pm_code 73) 15 = .ok (.newarray .char, 2) := by decide +kernel
theorem d73_17 : decode (pm_code 73) 17 = .ok (.putfield 15, 3) := by decide +kernel
theorem d73_20 : decode (pm_code 73) 20 = .ok (.aload_n 0, 1) := by decide +kernel
theorem d73_21 : decode (pm_code 73) 21 = .ok (.bipush 24, 2) := by decide +kernel
theorem d73_23 : decode (pm_code 73) 23 = .ok (.newarray .int, 2) := by decide +kernel
theorem d73_25 : decode (pm_code 73) 25 = .ok (.putfield 18, 3) := by decide +kernel
theorem d73_28 : decode (pm_code 73) 28 = .ok (.aload_n 0, 1) := by decide +kernel
theorem d73_29 : decode (pm_code 73) 29 = .ok (.aload_n 1, 1) := by decide +kernel
theorem d73_30 : decode (pm_code 73) 30 = .ok (.putfield 22, 3) := by decide +kernel
theorem d73_33 : decode (pm_code 73) 33 = .ok (.aload_n 0, 1) := by decide +kernel
theorem d73_34 : decode (pm_code 73) 34 = .ok (.aload_n 2, 1) := by decide +kernel
theorem d73_35 : decode (pm_code 73) 35 = .ok (.putfield 26, 3) := by decide +kernel
theorem d73_38 : decode (pm_code 73) 38 = .ok (.aload_n 0, 1) := by decide +kernel
theorem d73_39 : decode (pm_code 73) 39 = .ok (.aload_n 3, 1) := by decide +kernel
theorem d73_40 : decode (pm_code 73) 40 = .ok (.putfield 29, 3) := by decide +kernel
theorem d73_43 : decode (pm_code 73) 43 = .ok (.return_, 1) := by decide +kernel
