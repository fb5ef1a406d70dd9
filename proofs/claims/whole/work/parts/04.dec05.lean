/-! DECODE ROWS (by program) of methods 160 to 172. -/
theorem d160_0 : decode (pm_code 160) 0 = .ok (.bipush 6, 2) := by decide +kernel
theorem d160_2 : decode (pm_code 160) 2 = .ok (.aload_n 0, 1) := by decide +kernel
theorem d160_3 : decode (pm_code 160) 3 = .ok (.getfield 218, 3) := by decide +kernel
theorem d160_6 : decode (pm_code 160) 6 = .ok (.imul, 1) := by decide +kernel
theorem d160_7 : decode (pm_code 160) 7 = .ok (.istore 7, 2) := by decide +kernel
theorem d160_9 : decode (pm_code 160) 9 = .ok (.aload_n 0, 1) := by decide +kernel
theorem d160_10 : decode (pm_code 160) 10 = .ok (.getfield 84, 3) := by decide +kernel
theorem d160_13 : decode (pm_code 160) 13 = .ok (.iload 7, 2) := by decide +kernel
theorem d160_15 : decode (pm_code 160) 15 = .ok (.iload_n 1, 1) := by decide +kernel
theorem d160_16 : decode (pm_code 160) 16 = .ok (.iastore, 1) := by decide +kernel
theorem d160_17 : decode (pm_code 160) 17 = .ok (.aload_n 0, 1) := by decide +kernel
theorem d160_18 : decode (pm_code 160) 18 = .ok (.getfield 84, 3) := by decide +kernel
theorem d160_21 : decode (pm_code 160) 21 = .ok (.iload 7, 2) := by decide +kernel
theorem d160_23 : decode (pm_code 160) 23 = .ok (.iconst 1, 1) := by decide +kernel
theorem d160_24 : decode (pm_code 160) 24 = .ok (.iadd, 1) := by decide +kernel
theorem d160_25 : decode (pm_code 160) 25 = .ok (.iload_n 2, 1) := by decide +kernel
theorem d160_26 : decode (pm_code 160) 26 = .ok (.iastore, 1) := by decide +kernel
theorem d160_27 : decode (pm_code 160) 27 = .ok (.aload_n 0, 1) := by decide +kernel
theorem d160_28 : decode (pm_code 160) 28 = .ok (.getfield 84, 3) := by decide +kernel
theorem d160_31 : decode (pm_code 160) 31 = .ok (.iload 7, 2) := by decide +kernel
theorem d160_33 : decode (pm_code 160) 33 = .ok (.iconst 2, 1) := by decide +kernel
theorem d160_34 : decode (pm_code 160) 34 = .ok (.iadd, 1) := by decide +kernel
theorem d160_35 : decode (pm_code 160) 35 = .ok (.iload_n 3, 1) := by decide +kernel
theorem d160_36 : decode (pm_code 160) 36 = .ok (.iastore, 1) := by decide +kernel
theorem d160_37 : decode (pm_code 160) 37 = .ok (.aload_n 0, 1) := by decide +kernel
theorem d160_38 : decode (pm_code 160) 38 = .ok (.getfield 84, 3) := by decide +kernel
theorem d160_41 : decode (pm_code 160) 41 = .ok (.iload 7, 2) := by decide +kernel
theorem d160_43 : decode (pm_code 160) 43 = .ok (.iconst 3, 1) := by decide +kernel
theorem d160_44 : decode (pm_code 160) 44 = .ok (.iadd, 1) := by decide +kernel
theorem d160_45 : decode (pm_code 160) 45 = .ok (.iload 4, 2) := by decide +kernel
theorem d160_47 : decode (pm_code 160) 47 = .ok (.iastore, 1) := by decide +kernel
theorem d160_48 : decode (pm_code 160) 48 = .ok (.aload_n 0, 1) := by decide +kernel
theorem d160_49 : decode (pm_code 160) 49 = .ok (.getfield 84, 3) := by decide +kernel
theorem d160_52 : decode (pm_code 160) 52 = .ok (.iload 7, 2) := by decide +kernel
theorem d160_54 : decode (pm_code 160) 54 = .ok (.iconst 4, 1) := by decide +kernel
theorem d160_55 : decode (pm_code 160) 55 = .ok (.iadd, 1) := by decide +kernel
theorem d160_56 : decode (pm_code 160) 56 = .ok (.iload 5, 2) := by decide +kernel
theorem d160_58 : decode (pm_code 160) 58 = .ok (.iastore, 1) := by decide +kernel
theorem d160_59 : decode (pm_code 160) 59 = .ok (.aload_n 0, 1) := by decide +kernel
theorem d160_60 : decode (pm_code 160) 60 = .ok (.getfield 84, 3) := by decide +kernel
theorem d160_63 : decode (pm_code 160) 63 = .ok (.iload 7, 2) := by decide +kernel
theorem d160_65 : decode (pm_code 160) 65 = .ok (.iconst 5, 1) := by decide +kernel
theorem d160_66 : decode (pm_code 160) 66 = .ok (.iadd, 1) := by decide +kernel
theorem d160_67 : decode (pm_code 160) 67 = .ok (.iload 6, 2) := by decide +kernel
theorem d160_69 : decode (pm_code 160) 69 = .ok (.iastore, 1) := by decide +kernel
theorem d160_70 : decode (pm_code 160) 70 = .ok (.aload_n 0, 1) := by decide +kernel
theorem d160_71 : decode (pm_code 160) 71 = .ok (.dup, 1) := by decide +kernel
theorem d160_72 : decode (pm_code 160) 72 = .ok (.getfield 218, 3) := by decide +kernel
theorem d160_75 : decode (pm_code 160) 75 = .ok (.iconst 1, 1) := by decide +kernel
theorem d160_76 : decode (pm_code 160) 76 = .ok (.iadd, 1) := by decide +kernel
theorem d160_77 : decode (pm_code 160) 77 = .ok (.putfield 218, 3) := by decide +kernel
theorem d160_80 : decode (pm_code 160) 80 = .ok (.return_, 1) := by decide +kernel
theorem d161_0 : decode (pm_code 161) 0 = .ok (.aload_n 0, 1) := by decide +kernel
theorem d161_1 : decode (pm_code 161) 1 = .ok (.getfield 59, 3) := by decide +kernel
theorem d161_4 : decode (pm_code 161) 4 = .ok (.istore 7, 2) := by decide +kernel
theorem d161_6 : decode (pm_code 161) 6 = .ok (.aload_n 0, 1) := by decide +kernel
theorem d161_7 : decode (pm_code 161) 7 = .ok (.getfield 212, 3) := by decide +kernel
theorem d161_10 : decode (pm_code 161) 10 = .ok (.istore 8, 2) := by decide +kernel
theorem d161_12 : decode (pm_code 161) 12 = .ok (.aload_n 0, 1) := by decide +kernel
theorem d161_13 : decode (pm_code 161) 13 = .ok (.iconst 0, 1) := by decide +kernel
theorem d161_14 : decode (pm_code 161) 14 = .ok (.putfield 218, 3) := by decide +kernel
theorem d161_17 : decode (pm_code 161) 17 = .ok (.aload_n 0, 1) := by decide +kernel
theorem d161_18 : decode (pm_code 161) 18 = .ok (.iload_n 1, 1) := by decide +kernel
theorem d161_19 : decode (pm_code 161) 19 = .ok (.iload_n 2, 1) := by decide +kernel
theorem d161_20 : decode (pm_code 161) 20 = .ok (.iload_n 3, 1) := by decide +kernel
theorem d161_21 : decode (pm_code 161) 21 = .ok (.iload 4, 2) := by decide +kernel
theorem d161_23 : decode (pm_code 161) 23 = .ok (.iload 5, 2) := by decide +kernel
theorem d161_25 : decode (pm_code 161) 25 = .ok (.iload 6, 2) := by decide +kernel
theorem d161_27 : decode (pm_code 161) 27 = .ok (.invokevirtual 221, 3) := by decide +kernel
theorem d161_30 : decode (pm_code 161) 30 = .ok (.iconst 1, 1) := by decide +kernel
theorem d161_31 : decode (pm_code 161) 31 = .ok (.istore 9, 2) := by decide +kernel
theorem d161_33 : decode (pm_code 161) 33 = .ok (.aload_n 0, 1) := by decide +kernel
theorem d161_34 : decode (pm_code 161) 34 = .ok (.getfield 218, 3) := by decide +kernel
theorem d161_37 : decode (pm_code 161) 37 = .ok (.ifCond .le 88, 3) := by decide +kernel
theorem d161_40 : decode (pm_code 161) 40 = .ok (.iload 9, 2) := by decide +kernel
theorem d161_42 : decode (pm_code 161) 42 = .ok (.ifCond .eq 83, 3) := by decide +kernel
theorem d161_45 : decode (pm_code 161) 45 = .ok (.aload_n 0, 1) := by decide +kernel
theorem d161_46 : decode (pm_code 161) 46 = .ok (.dup, 1) := by decide +kernel
theorem d161_47 : decode (pm_code 161) 47 = .ok (.getfield 218, 3) := by decide +kernel
theorem d161_50 : decode (pm_code 161) 50 = .ok (.iconst 1, 1) := by decide +kernel
theorem d161_51 : decode (pm_code 161) 51 = .ok (.isub, 1) := by decide +kernel
theorem d161_52 : decode (pm_code 161) 52 = .ok (.putfield 218, 3) := by decide +kernel
theorem d161_55 : decode (pm_code 161) 55 = .ok (.bipush 6, 2) := by decide +kernel
theorem d161_57 : decode (pm_code 161) 57 = .ok (.aload_n 0, 1) := by decide +kernel
theorem d161_58 : decode (pm_code 161) 58 = .ok (.getfield 218, 3) := by decide +kernel
theorem d161_61 : decode (pm_code 161) 61 = .ok (.imul, 1) := by decide +kernel
theorem d161_62 : decode (pm_code 161) 62 = .ok (.istore 10, 2) := by decide +kernel
theorem d161_64 : decode (pm_code 161) 64 = .ok (.aload_n 0, 1) := by decide +kernel
theorem d161_65 : decode (pm_code 161) 65 = .ok (.aload_n 0, 1) := by decide +kernel
theorem d161_66 : decode (pm_code 161) 66 = .ok (.getfield 84, 3) := by decide +kernel
theorem d161_69 : decode (pm_code 161) 69 = .ok (.iload 10, 2) := by decide +kernel
theorem d161_71 : decode (pm_code 161) 71 = .ok (.iaload, 1) := by decide +kernel
theorem d161_72 : decode (pm_code 161) 72 = .ok (.aload_n 0, 1) := by decide +kernel
theorem d161_73 : decode (pm_code 161) 73 = .ok (.getfield 84, 3) := by decide +kernel
theorem d161_76 : decode (pm_code 161) 76 = .ok (.iload 10, 2) := by decide +kernel
theorem d161_78 : decode (pm_code 161) 78 = .ok (.iconst 1, 1) := by decide +kernel
theorem d161_79 : decode (pm_code 161) 79 = .ok (.iadd, 1) := by decide +kernel
theorem d161_80 : decode (pm_code 161) 80 = .ok (.iaload, 1) := by decide +kernel
theorem d161_81 : decode (pm_code 161) 81 = .ok (.aload_n 0, 1) := by decide +kernel
theorem d161_82 : decode (pm_code 161) 82 = .ok (.getfield 84, 3) := by decide +kernel
theorem d161_85 : decode (pm_code 161) 85 = .ok (.iload 10, 2) := by decide +kernel
theorem d161_87 : decode (pm_code 161) 87 = .ok (.iconst 2, 1) := by decide +kernel
theorem d161_88 : decode (pm_code 161) 88 = .ok (.iadd, 1) := by decide +kernel
theorem d161_89 : decode (pm_code 161) 89 = .ok (.iaload, 1) := by decide +kernel
theorem d161_90 : decode (pm_code 161) 90 = .ok (.aload_n 0, 1) := by decide +kernel
theorem d161_91 : decode (pm_code 161) 91 = .ok (.getfield 84, 3) := by decide +kernel
theorem d161_94 : decode (pm_code 161) 94 = .ok (.iload 10, 2) := by decide +kernel
theorem d161_96 : decode (pm_code 161) 96 = .ok (.iconst 3, 1) := by decide +kernel
theorem d161_97 : decode (pm_code 161) 97 = .ok (.iadd, 1) := by decide +kernel
theorem d161_98 : decode (pm_code 161) 98 = .ok (.iaload, 1) := by decide +kernel
theorem d161_99 : decode (pm_code 161) 99 = .ok (.aload_n 0, 1) := by decide +kernel
theorem d161_100 : decode (pm_code 161) 100 = .ok (.getfield 84, 3) := by decide +kernel
theorem d161_103 : decode (pm_code 161) 103 = .ok (.iload 10, 2) := by decide +kernel
theorem d161_105 : decode (pm_code 161) 105 = .ok (.iconst 4, 1) := by decide +kernel
theorem d161_106 : decode (pm_code 161) 106 = .ok (.iadd, 1) := by decide +kernel
theorem d161_107 : decode (pm_code 161) 107 = .ok (.iaload, 1) := by decide +kernel
theorem d161_108 : decode (pm_code 161) 108 = .ok (.aload_n 0, 1) := by decide +kernel
theorem d161_109 : decode (pm_code 161) 109 = .ok (.getfield 84, 3) := by decide +kernel
theorem d161_112 : decode (pm_code 161) 112 = .ok (.iload 10, 2) := by decide +kernel
theorem d161_114 : decode (pm_code 161) 114 = .ok (.iconst 5, 1) := by decide +kernel
theorem d161_115 : decode (pm_code 161) 115 = .ok (.iadd, 1) := by decide +kernel
theorem d161_116 : decode (pm_code 161) 116 = .ok (.iaload, 1) := by decide +kernel
theorem d161_117 : decode (pm_code 161) 117 = .ok (.invokevirtual 225, 3) := by decide +kernel
theorem d161_120 : decode (pm_code 161) 120 = .ok (.istore 9, 2) := by decide +kernel
theorem d161_122 : decode (pm_code 161) 122 = .ok (.goto (-89), 3) := by decide +kernel
theorem d161_125 : decode (pm_code 161) 125 = .ok (.aload_n 0, 1) := by decide +kernel
theorem d161_126 : decode (pm_code 161) 126 = .ok (.iload 7, 2) := by decide +kernel
theorem d161_128 : decode (pm_code 161) 128 = .ok (.putfield 59, 3) := by decide +kernel
theorem d161_131 : decode (pm_code 161) 131 = .ok (.aload_n 0, 1) := by decide +kernel
theorem d161_132 : decode (pm_code 161) 132 = .ok (.iload 8, 2) := by decide +kernel
theorem d161_134 : decode (pm_code 161) 134 = .ok (.putfield 212, 3) := by decide +kernel
theorem d161_137 : decode (pm_code 161) 137 = .ok (.iload 9, 2) := by decide +kernel
theorem d161_139 : decode (pm_code 161) 139 = .ok (.ireturn, 1) := by decide +kernel
theorem d162_0 : decode (pm_code 162) 0 = .ok (.aload_n 0, 1) := by decide +kernel
theorem d162_1 : decode (pm_code 162) 1 = .ok (.iload_n 1, 1) := by decide +kernel
theorem d162_2 : decode (pm_code 162) 2 = .ok (.iload_n 2, 1) := by decide +kernel
theorem d162_3 : decode (pm_code 162) 3 = .ok (.invokevirtual 192, 3) := by decide +kernel
theorem d162_6 : decode (pm_code 162) 6 = .ok (.istore 7, 2) := by decide +kernel
theorem d162_8 : decode (pm_code 162) 8 = .ok (.aload_n 0, 1) := by decide +kernel
theorem d162_9 : decode (pm_code 162) 9 = .ok (.iload_n 3, 1) := by decide +kernel
theorem d162_10 : decode (pm_code 162) 10 = .ok (.iload 4, 2) := by decide +kernel
theorem d162_12 : decode (pm_code 162) 12 = .ok (.invokevirtual 192, 3) := by decide +kernel
theorem d162_15 : decode (pm_code 162) 15 = .ok (.istore 8, 2) := by decide +kernel
theorem d162_17 : decode (pm_code 162) 17 = .ok (.iload 8, 2) := by decide +kernel
theorem d162_19 : decode (pm_code 162) 19 = .ok (.ifCond .eq 17, 3) := by decide +kernel
theorem d162_22 : decode (pm_code 162) 22 = .ok (.iload 7, 2) := by decide +kernel
theorem d162_24 : decode (pm_code 162) 24 = .ok (.bipush 16, 2) := by decide +kernel
theorem d162_26 : decode (pm_code 162) 26 = .ok (.if_icmp .lt 12, 3) := by decide +kernel
theorem d162_29 : decode (pm_code 162) 29 = .ok (.iload 7, 2) := by decide +kernel
theorem d162_31 : decode (pm_code 162) 31 = .ok (.iload 8, 2) := by decide +kernel
theorem d162_33 : decode (pm_code 162) 33 = .ok (.if_icmp .ne 5, 3) := by decide +kernel
theorem d162_36 : decode (pm_code 162) 36 = .ok (.iconst 1, 1) := by decide +kernel
theorem d162_37 : decode (pm_code 162) 37 = .ok (.ireturn, 1) := by decide +kernel
theorem d162_38 : decode (pm_code 162) 38 = .ok (.iload 7, 2) := by decide +kernel
theorem d162_40 : decode (pm_code 162) 40 = .ok (.bipush 16, 2) := by decide +kernel
theorem d162_42 : decode (pm_code 162) 42 = .ok (.if_icmp .lt 30, 3) := by decide +kernel
theorem d162_45 : decode (pm_code 162) 45 = .ok (.aload_n 0, 1) := by decide +kernel
theorem d162_46 : decode (pm_code 162) 46 = .ok (.aload_n 0, 1) := by decide +kernel
theorem d162_47 : decode (pm_code 162) 47 = .ok (.iload 7, 2) := by decide +kernel
theorem d162_49 : decode (pm_code 162) 49 = .ok (.bipush 16, 2) := by decide +kernel
theorem d162_51 : decode (pm_code 162) 51 = .ok (.isub, 1) := by decide +kernel
theorem d162_52 : decode (pm_code 162) 52 = .ok (.iload 5, 2) := by decide +kernel
theorem d162_54 : decode (pm_code 162) 54 = .ok (.iload 6, 2) := by decide +kernel
theorem d162_56 : decode (pm_code 162) 56 = .ok (.invokevirtual 229, 3) := by decide +kernel
theorem d162_59 : decode (pm_code 162) 59 = .ok (.iconst 0, 1) := by decide +kernel
theorem d162_60 : decode (pm_code 162) 60 = .ok (.iload_n 3, 1) := by decide +kernel
theorem d162_61 : decode (pm_code 162) 61 = .ok (.iload 4, 2) := by decide +kernel
theorem d162_63 : decode (pm_code 162) 63 = .ok (.iload 5, 2) := by decide +kernel
theorem d162_65 : decode (pm_code 162) 65 = .ok (.iload 6, 2) := by decide +kernel
theorem d162_67 : decode (pm_code 162) 67 = .ok (.invokevirtual 221, 3) := by decide +kernel
theorem d162_70 : decode (pm_code 162) 70 = .ok (.iconst 1, 1) := by decide +kernel
theorem d162_71 : decode (pm_code 162) 71 = .ok (.ireturn, 1) := by decide +kernel
theorem d162_72 : decode (pm_code 162) 72 = .ok (.iload 7, 2) := by decide +kernel
theorem d162_74 : decode (pm_code 162) 74 = .ok (.bipush 8, 2) := by decide +kernel
theorem d162_76 : decode (pm_code 162) 76 = .ok (.if_icmp .lt 97, 3) := by decide +kernel
theorem d162_79 : decode (pm_code 162) 79 = .ok (.iload 8, 2) := by decide +kernel
theorem d162_81 : decode (pm_code 162) 81 = .ok (.bipush 8, 2) := by decide +kernel
theorem d162_83 : decode (pm_code 162) 83 = .ok (.if_icmp .lt 90, 3) := by decide +kernel
theorem d162_86 : decode (pm_code 162) 86 = .ok (.iload 8, 2) := by decide +kernel
theorem d162_88 : decode (pm_code 162) 88 = .ok (.bipush 16, 2) := by decide +kernel
theorem d162_90 : decode (pm_code 162) 90 = .ok (.if_icmp .ge 83, 3) := by decide +kernel
theorem d162_93 : decode (pm_code 162) 93 = .ok (.iconst 0, 1) := by decide +kernel
theorem d162_94 : decode (pm_code 162) 94 = .ok (.istore 9, 2) := by decide +kernel
theorem d162_96 : decode (pm_code 162) 96 = .ok (.iload 9, 2) := by decide +kernel
theorem d162_98 : decode (pm_code 162) 98 = .ok (.iconst 3, 1) := by decide +kernel
theorem d162_99 : decode (pm_code 162) 99 = .ok (.if_icmp .ge 58, 3) := by decide +kernel
theorem d162_102 : decode (pm_code 162) 102 = .ok (.iload 8, 2) := by decide +kernel
theorem d162_104 : decode (pm_code 162) 104 = .ok (.iload 9, 2) := by decide +kernel
theorem d162_106 : decode (pm_code 162) 106 = .ok (.ishr, 1) := by decide +kernel
theorem d162_107 : decode (pm_code 162) 107 = .ok (.iconst 1, 1) := by decide +kernel
theorem d162_108 : decode (pm_code 162) 108 = .ok (.iand, 1) := by decide +kernel
theorem d162_109 : decode (pm_code 162) 109 = .ok (.iconst 1, 1) := by decide +kernel
theorem d162_110 : decode (pm_code 162) 110 = .ok (.if_icmp .ne 41, 3) := by decide +kernel
theorem d162_113 : decode (pm_code 162) 113 = .ok (.iload 7, 2) := by decide +kernel
theorem d162_115 : decode (pm_code 162) 115 = .ok (.iload 9, 2) := by decide +kernel
theorem d162_117 : decode (pm_code 162) 117 = .ok (.ishr, 1) := by decide +kernel
theorem d162_118 : decode (pm_code 162) 118 = .ok (.iconst 1, 1) := by decide +kernel
theorem d162_119 : decode (pm_code 162) 119 = .ok (.iand, 1) := by decide +kernel
theorem d162_120 : decode (pm_code 162) 120 = .ok (.iconst 1, 1) := by decide +kernel
theorem d162_121 : decode (pm_code 162) 121 = .ok (.if_icmp .ne 30, 3) := by decide +kernel
theorem d162_124 : decode (pm_code 162) 124 = .ok (.aload_n 0, 1) := by decide +kernel
theorem d162_125 : decode (pm_code 162) 125 = .ok (.iload_n 1, 1) := by decide +kernel
theorem d162_126 : decode (pm_code 162) 126 = .ok (.aload_n 0, 1) := by decide +kernel
theorem d162_127 : decode (pm_code 162) 127 = .ok (.iload_n 1, 1) := by decide +kernel
theorem d162_128 : decode (pm_code 162) 128 = .ok (.iload_n 2, 1) := by decide +kernel
theorem d162_129 : decode (pm_code 162) 129 = .ok (.iload 9, 2) := by decide +kernel
theorem d162_131 : decode (pm_code 162) 131 = .ok (.invokevirtual 232, 3) := by decide +kernel
theorem d162_134 : decode (pm_code 162) 134 = .ok (.iload_n 3, 1) := by decide +kernel
theorem d162_135 : decode (pm_code 162) 135 = .ok (.aload_n 0, 1) := by decide +kernel
theorem d162_136 : decode (pm_code 162) 136 = .ok (.iload_n 3, 1) := by decide +kernel
theorem d162_137 : decode (pm_code 162) 137 = .ok (.iload 4, 2) := by decide +kernel
theorem d162_139 : decode (pm_code 162) 139 = .ok (.iload 9, 2) := by decide +kernel
theorem d162_141 : decode (pm_code 162) 141 = .ok (.invokevirtual 232, 3) := by decide +kernel
theorem d162_144 : decode (pm_code 162) 144 = .ok (.iload 5, 2) := by decide +kernel
theorem d162_146 : decode (pm_code 162) 146 = .ok (.iload 6, 2) := by decide +kernel
theorem d162_148 : decode (pm_code 162) 148 = .ok (.invokevirtual 221, 3) := by decide +kernel
theorem d162_151 : decode (pm_code 162) 151 = .ok (.iinc 9 1, 3) := by decide +kernel
theorem d162_154 : decode (pm_code 162) 154 = .ok (.goto (-58), 3) := by decide +kernel
theorem d162_157 : decode (pm_code 162) 157 = .ok (.iload 7, 2) := by decide +kernel
theorem d162_159 : decode (pm_code 162) 159 = .ok (.iload 8, 2) := by decide +kernel
theorem d162_161 : decode (pm_code 162) 161 = .ok (.iand, 1) := by decide +kernel
theorem d162_162 : decode (pm_code 162) 162 = .ok (.iload 8, 2) := by decide +kernel
theorem d162_164 : decode (pm_code 162) 164 = .ok (.if_icmp .ne 7, 3) := by decide +kernel
theorem d162_167 : decode (pm_code 162) 167 = .ok (.iconst 1, 1) := by decide +kernel
theorem d162_168 : decode (pm_code 162) 168 = .ok (.goto 4, 3) := by decide +kernel
theorem d162_171 : decode (pm_code 162) 171 = .ok (.iconst 0, 1) := by decide +kernel
theorem d162_172 : decode (pm_code 162) 172 = .ok (.ireturn, 1) := by decide +kernel
theorem d162_173 : decode (pm_code 162) 173 = .ok (.iload 7, 2) := by decide +kernel
theorem d162_175 : decode (pm_code 162) 175 = .ok (.iload 8, 2) := by decide +kernel
theorem d162_177 : decode (pm_code 162) 177 = .ok (.if_icmp .ne 8, 3) := by decide +kernel
theorem d162_180 : decode (pm_code 162) 180 = .ok (.iload 7, 2) := by decide +kernel
theorem d162_182 : decode (pm_code 162) 182 = .ok (.ifCond .ne 5, 3) := by decide +kernel
theorem d162_185 : decode (pm_code 162) 185 = .ok (.iconst 0, 1) := by decide +kernel
theorem d162_186 : decode (pm_code 162) 186 = .ok (.ireturn, 1) := by decide +kernel
theorem d162_187 : decode (pm_code 162) 187 = .ok (.aload_n 0, 1) := by decide +kernel
theorem d162_188 : decode (pm_code 162) 188 = .ok (.iload_n 1, 1) := by decide +kernel
theorem d162_189 : decode (pm_code 162) 189 = .ok (.iload_n 2, 1) := by decide +kernel
theorem d162_190 : decode (pm_code 162) 190 = .ok (.iconst 1, 1) := by decide +kernel
theorem d162_191 : decode (pm_code 162) 191 = .ok (.iadd, 1) := by decide +kernel
theorem d162_192 : decode (pm_code 162) 192 = .ok (.invokevirtual 199, 3) := by decide +kernel
theorem d162_195 : decode (pm_code 162) 195 = .ok (.istore 9, 2) := by decide +kernel
theorem d162_197 : decode (pm_code 162) 197 = .ok (.aload_n 0, 1) := by decide +kernel
theorem d162_198 : decode (pm_code 162) 198 = .ok (.iload_n 3, 1) := by decide +kernel
theorem d162_199 : decode (pm_code 162) 199 = .ok (.iload 4, 2) := by decide +kernel
theorem d162_201 : decode (pm_code 162) 201 = .ok (.iconst 1, 1) := by decide +kernel
theorem d162_202 : decode (pm_code 162) 202 = .ok (.iadd, 1) := by decide +kernel
theorem d162_203 : decode (pm_code 162) 203 = .ok (.invokevirtual 199, 3) := by decide +kernel
theorem d162_206 : decode (pm_code 162) 206 = .ok (.istore 10, 2) := by decide +kernel
theorem d162_208 : decode (pm_code 162) 208 = .ok (.iload 7, 2) := by decide +kernel
theorem d162_210 : decode (pm_code 162) 210 = .ok (.iconst 1, 1) := by decide +kernel
theorem d162_211 : decode (pm_code 162) 211 = .ok (.if_icmp .ne 36, 3) := by decide +kernel
theorem d162_214 : decode (pm_code 162) 214 = .ok (.aload_n 0, 1) := by decide +kernel
theorem d162_215 : decode (pm_code 162) 215 = .ok (.iload_n 3, 1) := by decide +kernel
theorem d162_216 : decode (pm_code 162) 216 = .ok (.iload 4, 2) := by decide +kernel
theorem d162_218 : decode (pm_code 162) 218 = .ok (.iconst 1, 1) := by decide +kernel
theorem d162_219 : decode (pm_code 162) 219 = .ok (.iadd, 1) := by decide +kernel
theorem d162_220 : decode (pm_code 162) 220 = .ok (.iload_n 1, 1) := by decide +kernel
theorem d162_221 : decode (pm_code 162) 221 = .ok (.iload_n 2, 1) := by decide +kernel
theorem d162_222 : decode (pm_code 162) 222 = .ok (.iconst 1, 1) := by decide +kernel
theorem d162_223 : decode (pm_code 162) 223 = .ok (.iadd, 1) := by decide +kernel
theorem d162_224 : decode (pm_code 162) 224 = .ok (.iload 5, 2) := by decide +kernel
theorem d162_226 : decode (pm_code 162) 226 = .ok (.iload 6, 2) := by decide +kernel
theorem d162_228 : decode (pm_code 162) 228 = .ok (.invokevirtual 221, 3) := by decide +kernel
theorem d162_231 : decode (pm_code 162) 231 = .ok (.aload_n 0, 1) := by decide +kernel
theorem d162_232 : decode (pm_code 162) 232 = .ok (.iload_n 1, 1) := by decide +kernel
theorem d162_233 : decode (pm_code 162) 233 = .ok (.iload 9, 2) := by decide +kernel
theorem d162_235 : decode (pm_code 162) 235 = .ok (.iload_n 3, 1) := by decide +kernel
theorem d162_236 : decode (pm_code 162) 236 = .ok (.iload 10, 2) := by decide +kernel
theorem d162_238 : decode (pm_code 162) 238 = .ok (.iload 5, 2) := by decide +kernel
theorem d162_240 : decode (pm_code 162) 240 = .ok (.iload 6, 2) := by decide +kernel
theorem d162_242 : decode (pm_code 162) 242 = .ok (.invokevirtual 221, 3) := by decide +kernel
theorem d162_245 : decode (pm_code 162) 245 = .ok (.iconst 1, 1) := by decide +kernel
theorem d162_246 : decode (pm_code 162) 246 = .ok (.ireturn, 1) := by decide +kernel
theorem d162_247 : decode (pm_code 162) 247 = .ok (.aload_n 0, 1) := by decide +kernel
theorem d162_248 : decode (pm_code 162) 248 = .ok (.iload_n 1, 1) := by decide +kernel
theorem d162_249 : decode (pm_code 162) 249 = .ok (.iload_n 2, 1) := by decide +kernel
theorem d162_250 : decode (pm_code 162) 250 = .ok (.iconst 1, 1) := by decide +kernel
theorem d162_251 : decode (pm_code 162) 251 = .ok (.iadd, 1) := by decide +kernel
theorem d162_252 : decode (pm_code 162) 252 = .ok (.iload_n 3, 1) := by decide +kernel
theorem d162_253 : decode (pm_code 162) 253 = .ok (.iload 4, 2) := by decide +kernel
theorem d162_255 : decode (pm_code 162) 255 = .ok (.iconst 1, 1) := by decide +kernel
theorem d162_256 : decode (pm_code 162) 256 = .ok (.iadd, 1) := by decide +kernel
theorem d162_257 : decode (pm_code 162) 257 = .ok (.invokevirtual 235, 3) := by decide +kernel
theorem d162_260 : decode (pm_code 162) 260 = .ok (.ifCond .ne 5, 3) := by decide +kernel
theorem d162_263 : decode (pm_code 162) 263 = .ok (.iconst 0, 1) := by decide +kernel
theorem d162_264 : decode (pm_code 162) 264 = .ok (.ireturn, 1) := by decide +kernel
theorem d162_265 : decode (pm_code 162) 265 = .ok (.aload_n 0, 1) := by decide +kernel
theorem d162_266 : decode (pm_code 162) 266 = .ok (.invokevirtual 205, 3) := by decide +kernel
theorem d162_269 : decode (pm_code 162) 269 = .ok (.istore 11, 2) := by decide +kernel
theorem d162_271 : decode (pm_code 162) 271 = .ok (.aload_n 0, 1) := by decide +kernel
theorem d162_272 : decode (pm_code 162) 272 = .ok (.iload_n 1, 1) := by decide +kernel
theorem d162_273 : decode (pm_code 162) 273 = .ok (.iload_n 2, 1) := by decide +kernel
theorem d162_274 : decode (pm_code 162) 274 = .ok (.iconst 1, 1) := by decide +kernel
theorem d162_275 : decode (pm_code 162) 275 = .ok (.iadd, 1) := by decide +kernel
theorem d162_276 : decode (pm_code 162) 276 = .ok (.iload 11, 2) := by decide +kernel
theorem d162_278 : decode (pm_code 162) 278 = .ok (.iconst 0, 1) := by decide +kernel
theorem d162_279 : decode (pm_code 162) 279 = .ok (.invokevirtual 209, 3) := by decide +kernel
theorem d162_282 : decode (pm_code 162) 282 = .ok (.aload_n 0, 1) := by decide +kernel
theorem d162_283 : decode (pm_code 162) 283 = .ok (.iload_n 1, 1) := by decide +kernel
theorem d162_284 : decode (pm_code 162) 284 = .ok (.iload 9, 2) := by decide +kernel
theorem d162_286 : decode (pm_code 162) 286 = .ok (.iload_n 3, 1) := by decide +kernel
theorem d162_287 : decode (pm_code 162) 287 = .ok (.iload 10, 2) := by decide +kernel
theorem d162_289 : decode (pm_code 162) 289 = .ok (.aload_n 0, 1) := by decide +kernel
theorem d162_290 : decode (pm_code 162) 290 = .ok (.iload 5, 2) := by decide +kernel
theorem d162_292 : decode (pm_code 162) 292 = .ok (.iload 6, 2) := by decide +kernel
theorem d162_294 : decode (pm_code 162) 294 = .ok (.iload 11, 2) := by decide +kernel
theorem d162_296 : decode (pm_code 162) 296 = .ok (.invokevirtual 238, 3) := by decide +kernel
theorem d162_299 : decode (pm_code 162) 299 = .ok (.iload 6, 2) := by decide +kernel
theorem d162_301 : decode (pm_code 162) 301 = .ok (.iconst 1, 1) := by decide +kernel
theorem d162_302 : decode (pm_code 162) 302 = .ok (.iadd, 1) := by decide +kernel
theorem d162_303 : decode (pm_code 162) 303 = .ok (.invokevirtual 221, 3) := by decide +kernel
theorem d162_306 : decode (pm_code 162) 306 = .ok (.iconst 1, 1) := by decide +kernel
theorem d162_307 : decode (pm_code 162) 307 = .ok (.ireturn, 1) := by decide +kernel
theorem d163_0 : decode (pm_code 163) 0 = .ok (.bipush 7, 2) := by decide +kernel
theorem d163_2 : decode (pm_code 163) 2 = .ok (.aload_n 0, 1) := by decide +kernel
theorem d163_3 : decode (pm_code 163) 3 = .ok (.getfield 241, 3) := by decide +kernel
theorem d163_6 : decode (pm_code 163) 6 = .ok (.imul, 1) := by decide +kernel
theorem d163_7 : decode (pm_code 163) 7 = .ok (.istore 8, 2) := by decide +kernel
theorem d163_9 : decode (pm_code 163) 9 = .ok (.aload_n 0, 1) := by decide +kernel
theorem d163_10 : decode (pm_code 163) 10 = .ok (.getfield 87, 3) := by decide +kernel
theorem d163_13 : decode (pm_code 163) 13 = .ok (.iload 8, 2) := by decide +kernel
theorem d163_15 : decode (pm_code 163) 15 = .ok (.iload_n 1, 1) := by decide +kernel
theorem d163_16 : decode (pm_code 163) 16 = .ok (.iastore, 1) := by decide +kernel
theorem d163_17 : decode (pm_code 163) 17 = .ok (.aload_n 0, 1) := by decide +kernel
theorem d163_18 : decode (pm_code 163) 18 = .ok (.getfield 87, 3) := by decide +kernel
theorem d163_21 : decode (pm_code 163) 21 = .ok (.iload 8, 2) := by decide +kernel
theorem d163_23 : decode (pm_code 163) 23 = .ok (.iconst 1, 1) := by decide +kernel
theorem d163_24 : decode (pm_code 163) 24 = .ok (.iadd, 1) := by decide +kernel
theorem d163_25 : decode (pm_code 163) 25 = .ok (.iload_n 2, 1) := by decide +kernel
theorem d163_26 : decode (pm_code 163) 26 = .ok (.iastore, 1) := by decide +kernel
theorem d163_27 : decode (pm_code 163) 27 = .ok (.aload_n 0, 1) := by decide +kernel
theorem d163_28 : decode (pm_code 163) 28 = .ok (.getfield 87, 3) := by decide +kernel
theorem d163_31 : decode (pm_code 163) 31 = .ok (.iload 8, 2) := by decide +kernel
theorem d163_33 : decode (pm_code 163) 33 = .ok (.iconst 2, 1) := by decide +kernel
theorem d163_34 : decode (pm_code 163) 34 = .ok (.iadd, 1) := by decide +kernel
theorem d163_35 : decode (pm_code 163) 35 = .ok (.iload_n 3, 1) := by decide +kernel
theorem d163_36 : decode (pm_code 163) 36 = .ok (.iastore, 1) := by decide +kernel
theorem d163_37 : decode (pm_code 163) 37 = .ok (.aload_n 0, 1) := by decide +kernel
theorem d163_38 : decode (pm_code 163) 38 = .ok (.getfield 87, 3) := by decide +kernel
theorem d163_41 : decode (pm_code 163) 41 = .ok (.iload 8, 2) := by decide +kernel
theorem d163_43 : decode (pm_code 163) 43 = .ok (.iconst 3, 1) := by decide +kernel
theorem d163_44 : decode (pm_code 163) 44 = .ok (.iadd, 1) := by decide +kernel
theorem d163_45 : decode (pm_code 163) 45 = .ok (.iload 4, 2) := by decide +kernel
theorem d163_47 : decode (pm_code 163) 47 = .ok (.iastore, 1) := by decide +kernel
theorem d163_48 : decode (pm_code 163) 48 = .ok (.aload_n 0, 1) := by decide +kernel
theorem d163_49 : decode (pm_code 163) 49 = .ok (.getfield 87, 3) := by decide +kernel
theorem d163_52 : decode (pm_code 163) 52 = .ok (.iload 8, 2) := by decide +kernel
theorem d163_54 : decode (pm_code 163) 54 = .ok (.iconst 4, 1) := by decide +kernel
theorem d163_55 : decode (pm_code 163) 55 = .ok (.iadd, 1) := by decide +kernel
theorem d163_56 : decode (pm_code 163) 56 = .ok (.iload 5, 2) := by decide +kernel
theorem d163_58 : decode (pm_code 163) 58 = .ok (.iastore, 1) := by decide +kernel
theorem d163_59 : decode (pm_code 163) 59 = .ok (.aload_n 0, 1) := by decide +kernel
theorem d163_60 : decode (pm_code 163) 60 = .ok (.getfield 87, 3) := by decide +kernel
theorem d163_63 : decode (pm_code 163) 63 = .ok (.iload 8, 2) := by decide +kernel
theorem d163_65 : decode (pm_code 163) 65 = .ok (.iconst 5, 1) := by decide +kernel
theorem d163_66 : decode (pm_code 163) 66 = .ok (.iadd, 1) := by decide +kernel
theorem d163_67 : decode (pm_code 163) 67 = .ok (.iload 6, 2) := by decide +kernel
theorem d163_69 : decode (pm_code 163) 69 = .ok (.iastore, 1) := by decide +kernel
theorem d163_70 : decode (pm_code 163) 70 = .ok (.aload_n 0, 1) := by decide +kernel
theorem d163_71 : decode (pm_code 163) 71 = .ok (.getfield 87, 3) := by decide +kernel
theorem d163_74 : decode (pm_code 163) 74 = .ok (.iload 8, 2) := by decide +kernel
theorem d163_76 : decode (pm_code 163) 76 = .ok (.bipush 6, 2) := by decide +kernel
theorem d163_78 : decode (pm_code 163) 78 = .ok (.iadd, 1) := by decide +kernel
theorem d163_79 : decode (pm_code 163) 79 = .ok (.iload 7, 2) := by decide +kernel
theorem d163_81 : decode (pm_code 163) 81 = .ok (.iastore, 1) := by decide +kernel
theorem d163_82 : decode (pm_code 163) 82 = .ok (.aload_n 0, 1) := by decide +kernel
theorem d163_83 : decode (pm_code 163) 83 = .ok (.getfield 90, 3) := by decide +kernel
theorem d163_86 : decode (pm_code 163) 86 = .ok (.aload_n 0, 1) := by decide +kernel
theorem d163_87 : decode (pm_code 163) 87 = .ok (.getfield 241, 3) := by decide +kernel
theorem d163_90 : decode (pm_code 163) 90 = .ok (.iconst (-1), 1) := by decide +kernel
theorem d163_91 : decode (pm_code 163) 91 = .ok (.iastore, 1) := by decide +kernel
theorem d163_92 : decode (pm_code 163) 92 = .ok (.aload_n 0, 1) := by decide +kernel
theorem d163_93 : decode (pm_code 163) 93 = .ok (.getfield 96, 3) := by decide +kernel
theorem d163_96 : decode (pm_code 163) 96 = .ok (.aload_n 0, 1) := by decide +kernel
theorem d163_97 : decode (pm_code 163) 97 = .ok (.getfield 241, 3) := by decide +kernel
theorem d163_100 : decode (pm_code 163) 100 = .ok (.iconst 0, 1) := by decide +kernel
theorem d163_101 : decode (pm_code 163) 101 = .ok (.iastore, 1) := by decide +kernel
theorem d163_102 : decode (pm_code 163) 102 = .ok (.aload_n 0, 1) := by decide +kernel
theorem d163_103 : decode (pm_code 163) 103 = .ok (.dup, 1) := by decide +kernel
theorem d163_104 : decode (pm_code 163) 104 = .ok (.getfield 241, 3) := by decide +kernel
theorem d163_107 : decode (pm_code 163) 107 = .ok (.iconst 1, 1) := by decide +kernel
theorem d163_108 : decode (pm_code 163) 108 = .ok (.iadd, 1) := by decide +kernel
theorem d163_109 : decode (pm_code 163) 109 = .ok (.putfield 241, 3) := by decide +kernel
theorem d163_112 : decode (pm_code 163) 112 = .ok (.aload_n 0, 1) := by decide +kernel
theorem d163_113 : decode (pm_code 163) 113 = .ok (.getfield 241, 3) := by decide +kernel
theorem d163_116 : decode (pm_code 163) 116 = .ok (.iconst 1, 1) := by decide +kernel
theorem d163_117 : decode (pm_code 163) 117 = .ok (.isub, 1) := by decide +kernel
theorem d163_118 : decode (pm_code 163) 118 = .ok (.ireturn, 1) := by decide +kernel
theorem d164_0 : decode (pm_code 164) 0 = .ok (.aload_n 0, 1) := by decide +kernel
theorem d164_1 : decode (pm_code 164) 1 = .ok (.getfield 96, 3) := by decide +kernel
theorem d164_4 : decode (pm_code 164) 4 = .ok (.iload_n 1, 1) := by decide +kernel
theorem d164_5 : decode (pm_code 164) 5 = .ok (.iconst 1, 1) := by decide +kernel
theorem d164_6 : decode (pm_code 164) 6 = .ok (.iastore, 1) := by decide +kernel
theorem d164_7 : decode (pm_code 164) 7 = .ok (.aload_n 0, 1) := by decide +kernel
theorem d164_8 : decode (pm_code 164) 8 = .ok (.getfield 99, 3) := by decide +kernel
theorem d164_11 : decode (pm_code 164) 11 = .ok (.iload_n 1, 1) := by decide +kernel
theorem d164_12 : decode (pm_code 164) 12 = .ok (.iload_n 2, 1) := by decide +kernel
theorem d164_13 : decode (pm_code 164) 13 = .ok (.iastore, 1) := by decide +kernel
theorem d164_14 : decode (pm_code 164) 14 = .ok (.aload_n 0, 1) := by decide +kernel
theorem d164_15 : decode (pm_code 164) 15 = .ok (.getfield 102, 3) := by decide +kernel
theorem d164_18 : decode (pm_code 164) 18 = .ok (.iload_n 1, 1) := by decide +kernel
theorem d164_19 : decode (pm_code 164) 19 = .ok (.iload_n 3, 1) := by decide +kernel
theorem d164_20 : decode (pm_code 164) 20 = .ok (.iastore, 1) := by decide +kernel
theorem d164_21 : decode (pm_code 164) 21 = .ok (.return_, 1) := by decide +kernel
theorem d165_0 : decode (pm_code 165) 0 = .ok (.aload_n 0, 1) := by decide +kernel
theorem d165_1 : decode (pm_code 165) 1 = .ok (.invokevirtual 205, 3) := by decide +kernel
theorem d165_4 : decode (pm_code 165) 4 = .ok (.istore_n 1, 1) := by decide +kernel
theorem d165_5 : decode (pm_code 165) 5 = .ok (.aload_n 0, 1) := by decide +kernel
theorem d165_6 : decode (pm_code 165) 6 = .ok (.getfield 63, 3) := by decide +kernel
theorem d165_9 : decode (pm_code 165) 9 = .ok (.bipush 17, 2) := by decide +kernel
theorem d165_11 : decode (pm_code 165) 11 = .ok (.iload_n 1, 1) := by decide +kernel
theorem d165_12 : decode (pm_code 165) 12 = .ok (.imul, 1) := by decide +kernel
theorem d165_13 : decode (pm_code 165) 13 = .ok (.iconst 0, 1) := by decide +kernel
theorem d165_14 : decode (pm_code 165) 14 = .ok (.iastore, 1) := by decide +kernel
theorem d165_15 : decode (pm_code 165) 15 = .ok (.iload_n 1, 1) := by decide +kernel
theorem d165_16 : decode (pm_code 165) 16 = .ok (.ireturn, 1) := by decide +kernel
theorem d166_0 : decode (pm_code 166) 0 = .ok (.bipush 7, 2) := by decide +kernel
theorem d166_2 : decode (pm_code 166) 2 = .ok (.iload_n 1, 1) := by decide +kernel
theorem d166_3 : decode (pm_code 166) 3 = .ok (.imul, 1) := by decide +kernel
theorem d166_4 : decode (pm_code 166) 4 = .ok (.istore_n 2, 1) := by decide +kernel
theorem d166_5 : decode (pm_code 166) 5 = .ok (.aload_n 0, 1) := by decide +kernel
theorem d166_6 : decode (pm_code 166) 6 = .ok (.getfield 87, 3) := by decide +kernel
theorem d166_9 : decode (pm_code 166) 9 = .ok (.iload_n 2, 1) := by decide +kernel
theorem d166_10 : decode (pm_code 166) 10 = .ok (.iaload, 1) := by decide +kernel
theorem d166_11 : decode (pm_code 166) 11 = .ok (.istore_n 3, 1) := by decide +kernel
theorem d166_12 : decode (pm_code 166) 12 = .ok (.aload_n 0, 1) := by decide +kernel
theorem d166_13 : decode (pm_code 166) 13 = .ok (.getfield 87, 3) := by decide +kernel
theorem d166_16 : decode (pm_code 166) 16 = .ok (.iload_n 2, 1) := by decide +kernel
theorem d166_17 : decode (pm_code 166) 17 = .ok (.iconst 1, 1) := by decide +kernel
theorem d166_18 : decode (pm_code 166) 18 = .ok (.iadd, 1) := by decide +kernel
theorem d166_19 : decode (pm_code 166) 19 = .ok (.iaload, 1) := by decide +kernel
theorem d166_20 : decode (pm_code 166) 20 = .ok (.istore 4, 2) := by decide +kernel
theorem d166_22 : decode (pm_code 166) 22 = .ok (.aload_n 0, 1) := by decide +kernel
theorem d166_23 : decode (pm_code 166) 23 = .ok (.getfield 87, 3) := by decide +kernel
theorem d166_26 : decode (pm_code 166) 26 = .ok (.iload_n 2, 1) := by decide +kernel
theorem d166_27 : decode (pm_code 166) 27 = .ok (.iconst 2, 1) := by decide +kernel
theorem d166_28 : decode (pm_code 166) 28 = .ok (.iadd, 1) := by decide +kernel
theorem d166_29 : decode (pm_code 166) 29 = .ok (.iaload, 1) := by decide +kernel
theorem d166_30 : decode (pm_code 166) 30 = .ok (.istore 5, 2) := by decide +kernel
theorem d166_32 : decode (pm_code 166) 32 = .ok (.aload_n 0, 1) := by decide +kernel
theorem d166_33 : decode (pm_code 166) 33 = .ok (.getfield 87, 3) := by decide +kernel
theorem d166_36 : decode (pm_code 166) 36 = .ok (.iload_n 2, 1) := by decide +kernel
theorem d166_37 : decode (pm_code 166) 37 = .ok (.iconst 3, 1) := by decide +kernel
theorem d166_38 : decode (pm_code 166) 38 = .ok (.iadd, 1) := by decide +kernel
theorem d166_39 : decode (pm_code 166) 39 = .ok (.iaload, 1) := by decide +kernel
theorem d166_40 : decode (pm_code 166) 40 = .ok (.istore 6, 2) := by decide +kernel
theorem d166_42 : decode (pm_code 166) 42 = .ok (.aload_n 0, 1) := by decide +kernel
theorem d166_43 : decode (pm_code 166) 43 = .ok (.getfield 87, 3) := by decide +kernel
theorem d166_46 : decode (pm_code 166) 46 = .ok (.iload_n 2, 1) := by decide +kernel
theorem d166_47 : decode (pm_code 166) 47 = .ok (.iconst 4, 1) := by decide +kernel
theorem d166_48 : decode (pm_code 166) 48 = .ok (.iadd, 1) := by decide +kernel
theorem d166_49 : decode (pm_code 166) 49 = .ok (.iaload, 1) := by decide +kernel
theorem d166_50 : decode (pm_code 166) 50 = .ok (.istore 7, 2) := by decide +kernel
theorem d166_52 : decode (pm_code 166) 52 = .ok (.aload_n 0, 1) := by decide +kernel
theorem d166_53 : decode (pm_code 166) 53 = .ok (.getfield 87, 3) := by decide +kernel
theorem d166_56 : decode (pm_code 166) 56 = .ok (.iload_n 2, 1) := by decide +kernel
theorem d166_57 : decode (pm_code 166) 57 = .ok (.iconst 5, 1) := by decide +kernel
theorem d166_58 : decode (pm_code 166) 58 = .ok (.iadd, 1) := by decide +kernel
theorem d166_59 : decode (pm_code 166) 59 = .ok (.iaload, 1) := by decide +kernel
theorem d166_60 : decode (pm_code 166) 60 = .ok (.istore 8, 2) := by decide +kernel
theorem d166_62 : decode (pm_code 166) 62 = .ok (.aload_n 0, 1) := by decide +kernel
theorem d166_63 : decode (pm_code 166) 63 = .ok (.getfield 87, 3) := by decide +kernel
theorem d166_66 : decode (pm_code 166) 66 = .ok (.iload_n 2, 1) := by decide +kernel
theorem d166_67 : decode (pm_code 166) 67 = .ok (.bipush 6, 2) := by decide +kernel
theorem d166_69 : decode (pm_code 166) 69 = .ok (.iadd, 1) := by decide +kernel
theorem d166_70 : decode (pm_code 166) 70 = .ok (.iaload, 1) := by decide +kernel
theorem d166_71 : decode (pm_code 166) 71 = .ok (.istore 9, 2) := by decide +kernel
theorem d166_73 : decode (pm_code 166) 73 = .ok (.iload_n 3, 1) := by decide +kernel
theorem d166_74 : decode (pm_code 166) 74 = .ok (.iconst 2, 1) := by decide +kernel
theorem d166_75 : decode (pm_code 166) 75 = .ok (.if_icmp .eq 22, 3) := by decide +kernel
theorem d166_78 : decode (pm_code 166) 78 = .ok (.aload_n 0, 1) := by decide +kernel
theorem d166_79 : decode (pm_code 166) 79 = .ok (.iload 4, 2) := by decide +kernel
theorem d166_81 : decode (pm_code 166) 81 = .ok (.iload 5, 2) := by decide +kernel
theorem d166_83 : decode (pm_code 166) 83 = .ok (.iload 6, 2) := by decide +kernel
theorem d166_85 : decode (pm_code 166) 85 = .ok (.iload 7, 2) := by decide +kernel
theorem d166_87 : decode (pm_code 166) 87 = .ok (.iload 8, 2) := by decide +kernel
theorem d166_89 : decode (pm_code 166) 89 = .ok (.iload 9, 2) := by decide +kernel
theorem d166_91 : decode (pm_code 166) 91 = .ok (.invokevirtual 244, 3) := by decide +kernel
theorem d166_94 : decode (pm_code 166) 94 = .ok (.ifCond .eq 7, 3) := by decide +kernel
theorem d166_97 : decode (pm_code 166) 97 = .ok (.iconst 1, 1) := by decide +kernel
theorem d166_98 : decode (pm_code 166) 98 = .ok (.goto 4, 3) := by decide +kernel
theorem d166_101 : decode (pm_code 166) 101 = .ok (.iconst 0, 1) := by decide +kernel
theorem d166_102 : decode (pm_code 166) 102 = .ok (.istore 10, 2) := by decide +kernel
theorem d166_104 : decode (pm_code 166) 104 = .ok (.iload 10, 2) := by decide +kernel
theorem d166_106 : decode (pm_code 166) 106 = .ok (.ifCond .ne 22, 3) := by decide +kernel
theorem d166_109 : decode (pm_code 166) 109 = .ok (.aload_n 0, 1) := by decide +kernel
theorem d166_110 : decode (pm_code 166) 110 = .ok (.iload 6, 2) := by decide +kernel
theorem d166_112 : decode (pm_code 166) 112 = .ok (.iload 7, 2) := by decide +kernel
theorem d166_114 : decode (pm_code 166) 114 = .ok (.iload 4, 2) := by decide +kernel
theorem d166_116 : decode (pm_code 166) 116 = .ok (.iload 5, 2) := by decide +kernel
theorem d166_118 : decode (pm_code 166) 118 = .ok (.iload 8, 2) := by decide +kernel
theorem d166_120 : decode (pm_code 166) 120 = .ok (.iload 9, 2) := by decide +kernel
theorem d166_122 : decode (pm_code 166) 122 = .ok (.invokevirtual 244, 3) := by decide +kernel
theorem d166_125 : decode (pm_code 166) 125 = .ok (.ifCond .eq 59, 3) := by decide +kernel
theorem d166_128 : decode (pm_code 166) 128 = .ok (.iload_n 3, 1) := by decide +kernel
theorem d166_129 : decode (pm_code 166) 129 = .ok (.ifCond .ne 8, 3) := by decide +kernel
theorem d166_132 : decode (pm_code 166) 132 = .ok (.iload 10, 2) := by decide +kernel
theorem d166_134 : decode (pm_code 166) 134 = .ok (.ifCond .ne 13, 3) := by decide +kernel
theorem d166_137 : decode (pm_code 166) 137 = .ok (.iload_n 3, 1) := by decide +kernel
theorem d166_138 : decode (pm_code 166) 138 = .ok (.iconst 1, 1) := by decide +kernel
theorem d166_139 : decode (pm_code 166) 139 = .ok (.if_icmp .ne 12, 3) := by decide +kernel
theorem d166_142 : decode (pm_code 166) 142 = .ok (.iload 10, 2) := by decide +kernel
theorem d166_144 : decode (pm_code 166) 144 = .ok (.ifCond .ne 7, 3) := by decide +kernel
theorem d166_147 : decode (pm_code 166) 147 = .ok (.iconst 1, 1) := by decide +kernel
theorem d166_148 : decode (pm_code 166) 148 = .ok (.goto 4, 3) := by decide +kernel
theorem d166_151 : decode (pm_code 166) 151 = .ok (.iconst 0, 1) := by decide +kernel
theorem d166_152 : decode (pm_code 166) 152 = .ok (.istore 11, 2) := by decide +kernel
theorem d166_154 : decode (pm_code 166) 154 = .ok (.aload_n 0, 1) := by decide +kernel
theorem d166_155 : decode (pm_code 166) 155 = .ok (.iload_n 1, 1) := by decide +kernel
theorem d166_156 : decode (pm_code 166) 156 = .ok (.iload 11, 2) := by decide +kernel
theorem d166_158 : decode (pm_code 166) 158 = .ok (.ifCond .eq 8, 3) := by decide +kernel
theorem d166_161 : decode (pm_code 166) 161 = .ok (.iload 6, 2) := by decide +kernel
theorem d166_163 : decode (pm_code 166) 163 = .ok (.goto 5, 3) := by decide +kernel
theorem d166_166 : decode (pm_code 166) 166 = .ok (.iload 4, 2) := by decide +kernel
theorem d166_168 : decode (pm_code 166) 168 = .ok (.iload 11, 2) := by decide +kernel
theorem d166_170 : decode (pm_code 166) 170 = .ok (.ifCond .eq 8, 3) := by decide +kernel
theorem d166_173 : decode (pm_code 166) 173 = .ok (.iload 7, 2) := by decide +kernel
theorem d166_175 : decode (pm_code 166) 175 = .ok (.goto 5, 3) := by decide +kernel
theorem d166_178 : decode (pm_code 166) 178 = .ok (.iload 5, 2) := by decide +kernel
theorem d166_180 : decode (pm_code 166) 180 = .ok (.invokevirtual 247, 3) := by decide +kernel
theorem d166_183 : decode (pm_code 166) 183 = .ok (.return_, 1) := by decide +kernel
theorem d166_184 : decode (pm_code 166) 184 = .ok (.aload_n 0, 1) := by decide +kernel
theorem d166_185 : decode (pm_code 166) 185 = .ok (.iload 4, 2) := by decide +kernel
theorem d166_187 : decode (pm_code 166) 187 = .ok (.iload 5, 2) := by decide +kernel
theorem d166_189 : decode (pm_code 166) 189 = .ok (.invokevirtual 192, 3) := by decide +kernel
theorem d166_192 : decode (pm_code 166) 192 = .ok (.istore 11, 2) := by decide +kernel
theorem d166_194 : decode (pm_code 166) 194 = .ok (.aload_n 0, 1) := by decide +kernel
theorem d166_195 : decode (pm_code 166) 195 = .ok (.iload 6, 2) := by decide +kernel
theorem d166_197 : decode (pm_code 166) 197 = .ok (.iload 7, 2) := by decide +kernel
theorem d166_199 : decode (pm_code 166) 199 = .ok (.invokevirtual 192, 3) := by decide +kernel
theorem d166_202 : decode (pm_code 166) 202 = .ok (.istore 12, 2) := by decide +kernel
theorem d166_204 : decode (pm_code 166) 204 = .ok (.iload 11, 2) := by decide +kernel
theorem d166_206 : decode (pm_code 166) 206 = .ok (.bipush 16, 2) := by decide +kernel
theorem d166_208 : decode (pm_code 166) 208 = .ok (.if_icmp .ge 10, 3) := by decide +kernel
theorem d166_211 : decode (pm_code 166) 211 = .ok (.iload 12, 2) := by decide +kernel
theorem d166_213 : decode (pm_code 166) 213 = .ok (.bipush 16, 2) := by decide +kernel
theorem d166_215 : decode (pm_code 166) 215 = .ok (.if_icmp .lt 126, 3) := by decide +kernel
theorem d166_218 : decode (pm_code 166) 218 = .ok (.iload_n 3, 1) := by decide +kernel
theorem d166_219 : decode (pm_code 166) 219 = .ok (.iconst 1, 1) := by decide +kernel
theorem d166_220 : decode (pm_code 166) 220 = .ok (.if_icmp .ne 4, 3) := by decide +kernel
theorem d166_223 : decode (pm_code 166) 223 = .ok (.return_, 1) := by decide +kernel
theorem d166_224 : decode (pm_code 166) 224 = .ok (.aload_n 0, 1) := by decide +kernel
theorem d166_225 : decode (pm_code 166) 225 = .ok (.getfield 87, 3) := by decide +kernel
theorem d166_228 : decode (pm_code 166) 228 = .ok (.iload_n 2, 1) := by decide +kernel
theorem d166_229 : decode (pm_code 166) 229 = .ok (.iconst 1, 1) := by decide +kernel
theorem d166_230 : decode (pm_code 166) 230 = .ok (.iadd, 1) := by decide +kernel
theorem d166_231 : decode (pm_code 166) 231 = .ok (.iload 11, 2) := by decide +kernel
theorem d166_233 : decode (pm_code 166) 233 = .ok (.bipush 16, 2) := by decide +kernel
theorem d166_235 : decode (pm_code 166) 235 = .ok (.if_icmp .lt 19, 3) := by decide +kernel
theorem d166_238 : decode (pm_code 166) 238 = .ok (.aload_n 0, 1) := by decide +kernel
theorem d166_239 : decode (pm_code 166) 239 = .ok (.iload 11, 2) := by decide +kernel
theorem d166_241 : decode (pm_code 166) 241 = .ok (.bipush 16, 2) := by decide +kernel
theorem d166_243 : decode (pm_code 166) 243 = .ok (.isub, 1) := by decide +kernel
theorem d166_244 : decode (pm_code 166) 244 = .ok (.iload 8, 2) := by decide +kernel
theorem d166_246 : decode (pm_code 166) 246 = .ok (.iload 9, 2) := by decide +kernel
theorem d166_248 : decode (pm_code 166) 248 = .ok (.invokevirtual 229, 3) := by decide +kernel
theorem d166_251 : decode (pm_code 166) 251 = .ok (.goto 5, 3) := by decide +kernel
theorem d166_254 : decode (pm_code 166) 254 = .ok (.iload 4, 2) := by decide +kernel
theorem d166_256 : decode (pm_code 166) 256 = .ok (.iastore, 1) := by decide +kernel
theorem d166_257 : decode (pm_code 166) 257 = .ok (.aload_n 0, 1) := by decide +kernel
theorem d166_258 : decode (pm_code 166) 258 = .ok (.getfield 87, 3) := by decide +kernel
theorem d166_261 : decode (pm_code 166) 261 = .ok (.iload_n 2, 1) := by decide +kernel
theorem d166_262 : decode (pm_code 166) 262 = .ok (.iconst 2, 1) := by decide +kernel
theorem d166_263 : decode (pm_code 166) 263 = .ok (.iadd, 1) := by decide +kernel
theorem d166_264 : decode (pm_code 166) 264 = .ok (.iload 11, 2) := by decide +kernel
theorem d166_266 : decode (pm_code 166) 266 = .ok (.bipush 16, 2) := by decide +kernel
theorem d166_268 : decode (pm_code 166) 268 = .ok (.if_icmp .lt 7, 3) := by decide +kernel
theorem d166_271 : decode (pm_code 166) 271 = .ok (.iconst 0, 1) := by decide +kernel
theorem d166_272 : decode (pm_code 166) 272 = .ok (.goto 5, 3) := by decide +kernel
theorem d166_275 : decode (pm_code 166) 275 = .ok (.iload 5, 2) := by decide +kernel
theorem d166_277 : decode (pm_code 166) 277 = .ok (.iastore, 1) := by decide +kernel
theorem d166_278 : decode (pm_code 166) 278 = .ok (.aload_n 0, 1) := by decide +kernel
theorem d166_279 : decode (pm_code 166) 279 = .ok (.getfield 87, 3) := by decide +kernel
theorem d166_282 : decode (pm_code 166) 282 = .ok (.iload_n 2, 1) := by decide +kernel
theorem d166_283 : decode (pm_code 166) 283 = .ok (.iconst 3, 1) := by decide +kernel
theorem d166_284 : decode (pm_code 166) 284 = .ok (.iadd, 1) := by decide +kernel
theorem d166_285 : decode (pm_code 166) 285 = .ok (.iload 11, 2) := by decide +kernel
theorem d166_287 : decode (pm_code 166) 287 = .ok (.bipush 16, 2) := by decide +kernel
theorem d166_289 : decode (pm_code 166) 289 = .ok (.if_icmp .lt 8, 3) := by decide +kernel
theorem d166_292 : decode (pm_code 166) 292 = .ok (.iload 6, 2) := by decide +kernel
theorem d166_294 : decode (pm_code 166) 294 = .ok (.goto 16, 3) := by decide +kernel
theorem d166_297 : decode (pm_code 166) 297 = .ok (.aload_n 0, 1) := by decide +kernel
theorem d166_298 : decode (pm_code 166) 298 = .ok (.iload 12, 2) := by decide +kernel
theorem d166_300 : decode (pm_code 166) 300 = .ok (.bipush 16, 2) := by decide +kernel
theorem d166_302 : decode (pm_code 166) 302 = .ok (.isub, 1) := by decide +kernel
theorem d166_303 : decode (pm_code 166) 303 = .ok (.iload 8, 2) := by decide +kernel
theorem d166_305 : decode (pm_code 166) 305 = .ok (.iload 9, 2) := by decide +kernel
theorem d166_307 : decode (pm_code 166) 307 = .ok (.invokevirtual 229, 3) := by decide +kernel
theorem d166_310 : decode (pm_code 166) 310 = .ok (.iastore, 1) := by decide +kernel
theorem d166_311 : decode (pm_code 166) 311 = .ok (.aload_n 0, 1) := by decide +kernel
theorem d166_312 : decode (pm_code 166) 312 = .ok (.getfield 87, 3) := by decide +kernel
theorem d166_315 : decode (pm_code 166) 315 = .ok (.iload_n 2, 1) := by decide +kernel
theorem d166_316 : decode (pm_code 166) 316 = .ok (.iconst 4, 1) := by decide +kernel
theorem d166_317 : decode (pm_code 166) 317 = .ok (.iadd, 1) := by decide +kernel
theorem d166_318 : decode (pm_code 166) 318 = .ok (.iload 11, 2) := by decide +kernel
theorem d166_320 : decode (pm_code 166) 320 = .ok (.bipush 16, 2) := by decide +kernel
theorem d166_322 : decode (pm_code 166) 322 = .ok (.if_icmp .lt 8, 3) := by decide +kernel
theorem d166_325 : decode (pm_code 166) 325 = .ok (.iload 7, 2) := by decide +kernel
theorem d166_327 : decode (pm_code 166) 327 = .ok (.goto 4, 3) := by decide +kernel
theorem d166_330 : decode (pm_code 166) 330 = .ok (.iconst 0, 1) := by decide +kernel
theorem d166_331 : decode (pm_code 166) 331 = .ok (.iastore, 1) := by decide +kernel
theorem d166_332 : decode (pm_code 166) 332 = .ok (.aload_n 0, 1) := by decide +kernel
theorem d166_333 : decode (pm_code 166) 333 = .ok (.getfield 90, 3) := by decide +kernel
theorem d166_336 : decode (pm_code 166) 336 = .ok (.iload_n 1, 1) := by decide +kernel
theorem d166_337 : decode (pm_code 166) 337 = .ok (.bipush (-2), 2) := by decide +kernel
theorem d166_339 : decode (pm_code 166) 339 = .ok (.iastore, 1) := by decide +kernel
theorem d166_340 : decode (pm_code 166) 340 = .ok (.return_, 1) := by decide +kernel
theorem d166_341 : decode (pm_code 166) 341 = .ok (.aload_n 0, 1) := by decide +kernel
theorem d166_342 : decode (pm_code 166) 342 = .ok (.getfield 93, 3) := by decide +kernel
theorem d166_345 : decode (pm_code 166) 345 = .ok (.iload_n 1, 1) := by decide +kernel
theorem d166_346 : decode (pm_code 166) 346 = .ok (.aload_n 0, 1) := by decide +kernel
theorem d166_347 : decode (pm_code 166) 347 = .ok (.getfield 241, 3) := by decide +kernel
theorem d166_350 : decode (pm_code 166) 350 = .ok (.iastore, 1) := by decide +kernel
theorem d166_351 : decode (pm_code 166) 351 = .ok (.iload 11, 2) := by decide +kernel
theorem d166_353 : decode (pm_code 166) 353 = .ok (.bipush 8, 2) := by decide +kernel
theorem d166_355 : decode (pm_code 166) 355 = .ok (.if_icmp .lt 35, 3) := by decide +kernel
theorem d166_358 : decode (pm_code 166) 358 = .ok (.iload 12, 2) := by decide +kernel
theorem d166_360 : decode (pm_code 166) 360 = .ok (.bipush 8, 2) := by decide +kernel
theorem d166_362 : decode (pm_code 166) 362 = .ok (.if_icmp .lt 28, 3) := by decide +kernel
theorem d166_365 : decode (pm_code 166) 365 = .ok (.aload_n 0, 1) := by decide +kernel
theorem d166_366 : decode (pm_code 166) 366 = .ok (.iload_n 1, 1) := by decide +kernel
theorem d166_367 : decode (pm_code 166) 367 = .ok (.iload_n 3, 1) := by decide +kernel
theorem d166_368 : decode (pm_code 166) 368 = .ok (.ifCond .ne 11, 3) := by decide +kernel
theorem d166_371 : decode (pm_code 166) 371 = .ok (.iload 11, 2) := by decide +kernel
theorem d166_373 : decode (pm_code 166) 373 = .ok (.iload 12, 2) := by decide +kernel
theorem d166_375 : decode (pm_code 166) 375 = .ok (.iand, 1) := by decide +kernel
theorem d166_376 : decode (pm_code 166) 376 = .ok (.goto 8, 3) := by decide +kernel
theorem d166_379 : decode (pm_code 166) 379 = .ok (.iload 11, 2) := by decide +kernel
theorem d166_381 : decode (pm_code 166) 381 = .ok (.iload 12, 2) := by decide +kernel
theorem d166_383 : decode (pm_code 166) 383 = .ok (.ior, 1) := by decide +kernel
theorem d166_384 : decode (pm_code 166) 384 = .ok (.invokevirtual 251, 3) := by decide +kernel
theorem d166_387 : decode (pm_code 166) 387 = .ok (.goto 201, 3) := by decide +kernel
theorem d166_390 : decode (pm_code 166) 390 = .ok (.iload 11, 2) := by decide +kernel
theorem d166_392 : decode (pm_code 166) 392 = .ok (.iconst 1, 1) := by decide +kernel
theorem d166_393 : decode (pm_code 166) 393 = .ok (.if_icmp .ne 77, 3) := by decide +kernel
theorem d166_396 : decode (pm_code 166) 396 = .ok (.iload 12, 2) := by decide +kernel
theorem d166_398 : decode (pm_code 166) 398 = .ok (.iconst 1, 1) := by decide +kernel
theorem d166_399 : decode (pm_code 166) 399 = .ok (.if_icmp .ne 71, 3) := by decide +kernel
theorem d166_402 : decode (pm_code 166) 402 = .ok (.aload_n 0, 1) := by decide +kernel
theorem d166_403 : decode (pm_code 166) 403 = .ok (.getfield 90, 3) := by decide +kernel
theorem d166_406 : decode (pm_code 166) 406 = .ok (.iload_n 1, 1) := by decide +kernel
theorem d166_407 : decode (pm_code 166) 407 = .ok (.iconst 1, 1) := by decide +kernel
theorem d166_408 : decode (pm_code 166) 408 = .ok (.iastore, 1) := by decide +kernel
theorem d166_409 : decode (pm_code 166) 409 = .ok (.aload_n 0, 1) := by decide +kernel
theorem d166_410 : decode (pm_code 166) 410 = .ok (.iconst 1, 1) := by decide +kernel
theorem d166_411 : decode (pm_code 166) 411 = .ok (.iload_n 3, 1) := by decide +kernel
theorem d166_412 : decode (pm_code 166) 412 = .ok (.isub, 1) := by decide +kernel
theorem d166_413 : decode (pm_code 166) 413 = .ok (.iload 4, 2) := by decide +kernel
theorem d166_415 : decode (pm_code 166) 415 = .ok (.iload 5, 2) := by decide +kernel
theorem d166_417 : decode (pm_code 166) 417 = .ok (.iconst 1, 1) := by decide +kernel
theorem d166_418 : decode (pm_code 166) 418 = .ok (.iadd, 1) := by decide +kernel
theorem d166_419 : decode (pm_code 166) 419 = .ok (.iload 6, 2) := by decide +kernel
theorem d166_421 : decode (pm_code 166) 421 = .ok (.iload 7, 2) := by decide +kernel
theorem d166_423 : decode (pm_code 166) 423 = .ok (.iconst 1, 1) := by decide +kernel
theorem d166_424 : decode (pm_code 166) 424 = .ok (.iadd, 1) := by decide +kernel
theorem d166_425 : decode (pm_code 166) 425 = .ok (.iload 8, 2) := by decide +kernel
theorem d166_427 : decode (pm_code 166) 427 = .ok (.iload 9, 2) := by decide +kernel
theorem d166_429 : decode (pm_code 166) 429 = .ok (.invokevirtual 255, 3) := by decide +kernel
theorem d166_432 : decode (pm_code 166) 432 = .ok (.pop, 1) := by decide +kernel
theorem d166_433 : decode (pm_code 166) 433 = .ok (.aload_n 0, 1) := by decide +kernel
theorem d166_434 : decode (pm_code 166) 434 = .ok (.iload_n 3, 1) := by decide +kernel
theorem d166_435 : decode (pm_code 166) 435 = .ok (.iload 4, 2) := by decide +kernel
theorem d166_437 : decode (pm_code 166) 437 = .ok (.aload_n 0, 1) := by decide +kernel
theorem d166_438 : decode (pm_code 166) 438 = .ok (.iload 4, 2) := by decide +kernel
theorem d166_440 : decode (pm_code 166) 440 = .ok (.iload 5, 2) := by decide +kernel
theorem d166_442 : decode (pm_code 166) 442 = .ok (.iconst 1, 1) := by decide +kernel
theorem d166_443 : decode (pm_code 166) 443 = .ok (.iadd, 1) := by decide +kernel
theorem d166_444 : decode (pm_code 166) 444 = .ok (.invokevirtual 199, 3) := by decide +kernel
theorem d166_447 : decode (pm_code 166) 447 = .ok (.iload 6, 2) := by decide +kernel
theorem d166_449 : decode (pm_code 166) 449 = .ok (.aload_n 0, 1) := by decide +kernel
theorem d166_450 : decode (pm_code 166) 450 = .ok (.iload 6, 2) := by decide +kernel
theorem d166_452 : decode (pm_code 166) 452 = .ok (.iload 7, 2) := by decide +kernel
theorem d166_454 : decode (pm_code 166) 454 = .ok (.iconst 1, 1) := by decide +kernel
theorem d166_455 : decode (pm_code 166) 455 = .ok (.iadd, 1) := by decide +kernel
theorem d166_456 : decode (pm_code 166) 456 = .ok (.invokevirtual 199, 3) := by decide +kernel
theorem d166_459 : decode (pm_code 166) 459 = .ok (.iload 8, 2) := by decide +kernel
theorem d166_461 : decode (pm_code 166) 461 = .ok (.iload 9, 2) := by decide +kernel
theorem d166_463 : decode (pm_code 166) 463 = .ok (.invokevirtual 255, 3) := by decide +kernel
theorem d166_466 : decode (pm_code 166) 466 = .ok (.pop, 1) := by decide +kernel
theorem d166_467 : decode (pm_code 166) 467 = .ok (.goto 121, 3) := by decide +kernel
theorem d166_470 : decode (pm_code 166) 470 = .ok (.iload 11, 2) := by decide +kernel
theorem d166_472 : decode (pm_code 166) 472 = .ok (.iconst 2, 1) := by decide +kernel
theorem d166_473 : decode (pm_code 166) 473 = .ok (.if_icmp .ne 101, 3) := by decide +kernel
theorem d166_476 : decode (pm_code 166) 476 = .ok (.iload 12, 2) := by decide +kernel
theorem d166_478 : decode (pm_code 166) 478 = .ok (.iconst 2, 1) := by decide +kernel
theorem d166_479 : decode (pm_code 166) 479 = .ok (.if_icmp .ne 95, 3) := by decide +kernel
theorem d166_482 : decode (pm_code 166) 482 = .ok (.aload_n 0, 1) := by decide +kernel
theorem d166_483 : decode (pm_code 166) 483 = .ok (.iload 4, 2) := by decide +kernel
theorem d166_485 : decode (pm_code 166) 485 = .ok (.iload 5, 2) := by decide +kernel
theorem d166_487 : decode (pm_code 166) 487 = .ok (.iconst 1, 1) := by decide +kernel
theorem d166_488 : decode (pm_code 166) 488 = .ok (.iadd, 1) := by decide +kernel
theorem d166_489 : decode (pm_code 166) 489 = .ok (.iload 6, 2) := by decide +kernel
theorem d166_491 : decode (pm_code 166) 491 = .ok (.iload 7, 2) := by decide +kernel
theorem d166_493 : decode (pm_code 166) 493 = .ok (.iconst 1, 1) := by decide +kernel
theorem d166_494 : decode (pm_code 166) 494 = .ok (.iadd, 1) := by decide +kernel
theorem d166_495 : decode (pm_code 166) 495 = .ok (.invokevirtual 235, 3) := by decide +kernel
theorem d166_498 : decode (pm_code 166) 498 = .ok (.ifCond .eq 76, 3) := by decide +kernel
theorem d166_501 : decode (pm_code 166) 501 = .ok (.aload_n 0, 1) := by decide +kernel
theorem d166_502 : decode (pm_code 166) 502 = .ok (.getfield 90, 3) := by decide +kernel
theorem d166_505 : decode (pm_code 166) 505 = .ok (.iload_n 1, 1) := by decide +kernel
theorem d166_506 : decode (pm_code 166) 506 = .ok (.iconst 2, 1) := by decide +kernel
theorem d166_507 : decode (pm_code 166) 507 = .ok (.iastore, 1) := by decide +kernel
theorem d166_508 : decode (pm_code 166) 508 = .ok (.aload_n 0, 1) := by decide +kernel
theorem d166_509 : decode (pm_code 166) 509 = .ok (.invokevirtual 205, 3) := by decide +kernel
theorem d166_512 : decode (pm_code 166) 512 = .ok (.istore 13, 2) := by decide +kernel
theorem d166_514 : decode (pm_code 166) 514 = .ok (.aload_n 0, 1) := by decide +kernel
theorem d166_515 : decode (pm_code 166) 515 = .ok (.iload 4, 2) := by decide +kernel
theorem d166_517 : decode (pm_code 166) 517 = .ok (.iload 5, 2) := by decide +kernel
theorem d166_519 : decode (pm_code 166) 519 = .ok (.iconst 1, 1) := by decide +kernel
theorem d166_520 : decode (pm_code 166) 520 = .ok (.iadd, 1) := by decide +kernel
theorem d166_521 : decode (pm_code 166) 521 = .ok (.iload 13, 2) := by decide +kernel
theorem d166_523 : decode (pm_code 166) 523 = .ok (.iconst 0, 1) := by decide +kernel
theorem d166_524 : decode (pm_code 166) 524 = .ok (.invokevirtual 209, 3) := by decide +kernel
theorem d166_527 : decode (pm_code 166) 527 = .ok (.aload_n 0, 1) := by decide +kernel
theorem d166_528 : decode (pm_code 166) 528 = .ok (.iload_n 3, 1) := by decide +kernel
theorem d166_529 : decode (pm_code 166) 529 = .ok (.iload 4, 2) := by decide +kernel
theorem d166_531 : decode (pm_code 166) 531 = .ok (.aload_n 0, 1) := by decide +kernel
theorem d166_532 : decode (pm_code 166) 532 = .ok (.iload 4, 2) := by decide +kernel
theorem d166_534 : decode (pm_code 166) 534 = .ok (.iload 5, 2) := by decide +kernel
theorem d166_536 : decode (pm_code 166) 536 = .ok (.iconst 1, 1) := by decide +kernel
theorem d166_537 : decode (pm_code 166) 537 = .ok (.iadd, 1) := by decide +kernel
theorem d166_538 : decode (pm_code 166) 538 = .ok (.invokevirtual 199, 3) := by decide +kernel
theorem d166_541 : decode (pm_code 166) 541 = .ok (.iload 6, 2) := by decide +kernel
theorem d166_543 : decode (pm_code 166) 543 = .ok (.aload_n 0, 1) := by decide +kernel
theorem d166_544 : decode (pm_code 166) 544 = .ok (.iload 6, 2) := by decide +kernel
theorem d166_546 : decode (pm_code 166) 546 = .ok (.iload 7, 2) := by decide +kernel
theorem d166_548 : decode (pm_code 166) 548 = .ok (.iconst 1, 1) := by decide +kernel
theorem d166_549 : decode (pm_code 166) 549 = .ok (.iadd, 1) := by decide +kernel
theorem d166_550 : decode (pm_code 166) 550 = .ok (.invokevirtual 199, 3) := by decide +kernel
theorem d166_553 : decode (pm_code 166) 553 = .ok (.aload_n 0, 1) := by decide +kernel
theorem d166_554 : decode (pm_code 166) 554 = .ok (.iload 8, 2) := by decide +kernel
theorem d166_556 : decode (pm_code 166) 556 = .ok (.iload 9, 2) := by decide +kernel
theorem d166_558 : decode (pm_code 166) 558 = .ok (.iload 13, 2) := by decide +kernel
theorem d166_560 : decode (pm_code 166) 560 = .ok (.invokevirtual 238, 3) := by decide +kernel
theorem d166_563 : decode (pm_code 166) 563 = .ok (.iload 9, 2) := by decide +kernel
theorem d166_565 : decode (pm_code 166) 565 = .ok (.iconst 1, 1) := by decide +kernel
theorem d166_566 : decode (pm_code 166) 566 = .ok (.iadd, 1) := by decide +kernel
theorem d166_567 : decode (pm_code 166) 567 = .ok (.invokevirtual 255, 3) := by decide +kernel
theorem d166_570 : decode (pm_code 166) 570 = .ok (.pop, 1) := by decide +kernel
theorem d166_571 : decode (pm_code 166) 571 = .ok (.goto 17, 3) := by decide +kernel
theorem d166_574 : decode (pm_code 166) 574 = .ok (.iload_n 3, 1) := by decide +kernel
theorem d166_575 : decode (pm_code 166) 575 = .ok (.ifCond .ne 13, 3) := by decide +kernel
theorem d166_578 : decode (pm_code 166) 578 = .ok (.aload_n 0, 1) := by decide +kernel
theorem d166_579 : decode (pm_code 166) 579 = .ok (.iload_n 1, 1) := by decide +kernel
theorem d166_580 : decode (pm_code 166) 580 = .ok (.aload_n 0, 1) := by decide +kernel
theorem d166_581 : decode (pm_code 166) 581 = .ok (.invokevirtual 259, 3) := by decide +kernel
theorem d166_584 : decode (pm_code 166) 584 = .ok (.iconst 0, 1) := by decide +kernel
theorem d166_585 : decode (pm_code 166) 585 = .ok (.invokevirtual 247, 3) := by decide +kernel
theorem d166_588 : decode (pm_code 166) 588 = .ok (.return_, 1) := by decide +kernel
theorem d167_0 : decode (pm_code 167) 0 = .ok (.bipush 7, 2) := by decide +kernel
theorem d167_2 : decode (pm_code 167) 2 = .ok (.iload_n 1, 1) := by decide +kernel
theorem d167_3 : decode (pm_code 167) 3 = .ok (.imul, 1) := by decide +kernel
theorem d167_4 : decode (pm_code 167) 4 = .ok (.istore_n 3, 1) := by decide +kernel
theorem d167_5 : decode (pm_code 167) 5 = .ok (.aload_n 0, 1) := by decide +kernel
theorem d167_6 : decode (pm_code 167) 6 = .ok (.getfield 90, 3) := by decide +kernel
theorem d167_9 : decode (pm_code 167) 9 = .ok (.iload_n 1, 1) := by decide +kernel
theorem d167_10 : decode (pm_code 167) 10 = .ok (.iload_n 2, 1) := by decide +kernel
theorem d167_11 : decode (pm_code 167) 11 = .ok (.iastore, 1) := by decide +kernel
theorem d167_12 : decode (pm_code 167) 12 = .ok (.iconst 0, 1) := by decide +kernel
theorem d167_13 : decode (pm_code 167) 13 = .ok (.istore 4, 2) := by decide +kernel
theorem d167_15 : decode (pm_code 167) 15 = .ok (.iload 4, 2) := by decide +kernel
theorem d167_17 : decode (pm_code 167) 17 = .ok (.iconst 3, 1) := by decide +kernel
theorem d167_18 : decode (pm_code 167) 18 = .ok (.if_icmp .ge 279, 3) := by decide +kernel
theorem d167_21 : decode (pm_code 167) 21 = .ok (.aload_n 0, 1) := by decide +kernel
theorem d167_22 : decode (pm_code 167) 22 = .ok (.aload_n 0, 1) := by decide +kernel
theorem d167_23 : decode (pm_code 167) 23 = .ok (.getfield 87, 3) := by decide +kernel
theorem d167_26 : decode (pm_code 167) 26 = .ok (.iload_n 3, 1) := by decide +kernel
theorem d167_27 : decode (pm_code 167) 27 = .ok (.iconst 1, 1) := by decide +kernel
theorem d167_28 : decode (pm_code 167) 28 = .ok (.iadd, 1) := by decide +kernel
theorem d167_29 : decode (pm_code 167) 29 = .ok (.iaload, 1) := by decide +kernel
theorem d167_30 : decode (pm_code 167) 30 = .ok (.aload_n 0, 1) := by decide +kernel
theorem d167_31 : decode (pm_code 167) 31 = .ok (.getfield 87, 3) := by decide +kernel
theorem d167_34 : decode (pm_code 167) 34 = .ok (.iload_n 3, 1) := by decide +kernel
theorem d167_35 : decode (pm_code 167) 35 = .ok (.iconst 2, 1) := by decide +kernel
theorem d167_36 : decode (pm_code 167) 36 = .ok (.iadd, 1) := by decide +kernel
theorem d167_37 : decode (pm_code 167) 37 = .ok (.iaload, 1) := by decide +kernel
theorem d167_38 : decode (pm_code 167) 38 = .ok (.invokevirtual 192, 3) := by decide +kernel
theorem d167_41 : decode (pm_code 167) 41 = .ok (.iload 4, 2) := by decide +kernel
theorem d167_43 : decode (pm_code 167) 43 = .ok (.ishr, 1) := by decide +kernel
theorem d167_44 : decode (pm_code 167) 44 = .ok (.iconst 1, 1) := by decide +kernel
theorem d167_45 : decode (pm_code 167) 45 = .ok (.iand, 1) := by decide +kernel
theorem d167_46 : decode (pm_code 167) 46 = .ok (.iconst 1, 1) := by decide +kernel
theorem d167_47 : decode (pm_code 167) 47 = .ok (.if_icmp .ne 7, 3) := by decide +kernel
theorem d167_50 : decode (pm_code 167) 50 = .ok (.iconst 1, 1) := by decide +kernel
theorem d167_51 : decode (pm_code 167) 51 = .ok (.goto 4, 3) := by decide +kernel
theorem d167_54 : decode (pm_code 167) 54 = .ok (.iconst 0, 1) := by decide +kernel
theorem d167_55 : decode (pm_code 167) 55 = .ok (.istore 5, 2) := by decide +kernel
theorem d167_57 : decode (pm_code 167) 57 = .ok (.aload_n 0, 1) := by decide +kernel
theorem d167_58 : decode (pm_code 167) 58 = .ok (.aload_n 0, 1) := by decide +kernel
theorem d167_59 : decode (pm_code 167) 59 = .ok (.getfield 87, 3) := by decide +kernel
theorem d167_62 : decode (pm_code 167) 62 = .ok (.iload_n 3, 1) := by decide +kernel
theorem d167_63 : decode (pm_code 167) 63 = .ok (.iconst 3, 1) := by decide +kernel
theorem d167_64 : decode (pm_code 167) 64 = .ok (.iadd, 1) := by decide +kernel
theorem d167_65 : decode (pm_code 167) 65 = .ok (.iaload, 1) := by decide +kernel
theorem d167_66 : decode (pm_code 167) 66 = .ok (.aload_n 0, 1) := by decide +kernel
theorem d167_67 : decode (pm_code 167) 67 = .ok (.getfield 87, 3) := by decide +kernel
theorem d167_70 : decode (pm_code 167) 70 = .ok (.iload_n 3, 1) := by decide +kernel
theorem d167_71 : decode (pm_code 167) 71 = .ok (.iconst 4, 1) := by decide +kernel
theorem d167_72 : decode (pm_code 167) 72 = .ok (.iadd, 1) := by decide +kernel
theorem d167_73 : decode (pm_code 167) 73 = .ok (.iaload, 1) := by decide +kernel
theorem d167_74 : decode (pm_code 167) 74 = .ok (.invokevirtual 192, 3) := by decide +kernel
theorem d167_77 : decode (pm_code 167) 77 = .ok (.iload 4, 2) := by decide +kernel
theorem d167_79 : decode (pm_code 167) 79 = .ok (.ishr, 1) := by decide +kernel
theorem d167_80 : decode (pm_code 167) 80 = .ok (.iconst 1, 1) := by decide +kernel
theorem d167_81 : decode (pm_code 167) 81 = .ok (.iand, 1) := by decide +kernel
theorem d167_82 : decode (pm_code 167) 82 = .ok (.iconst 1, 1) := by decide +kernel
theorem d167_83 : decode (pm_code 167) 83 = .ok (.if_icmp .ne 7, 3) := by decide +kernel
theorem d167_86 : decode (pm_code 167) 86 = .ok (.iconst 1, 1) := by decide +kernel
theorem d167_87 : decode (pm_code 167) 87 = .ok (.goto 4, 3) := by decide +kernel
theorem d167_90 : decode (pm_code 167) 90 = .ok (.iconst 0, 1) := by decide +kernel
theorem d167_91 : decode (pm_code 167) 91 = .ok (.istore 6, 2) := by decide +kernel
theorem d167_93 : decode (pm_code 167) 93 = .ok (.iload 5, 2) := by decide +kernel
theorem d167_95 : decode (pm_code 167) 95 = .ok (.ifCond .eq 28, 3) := by decide +kernel
theorem d167_98 : decode (pm_code 167) 98 = .ok (.aload_n 0, 1) := by decide +kernel
theorem d167_99 : decode (pm_code 167) 99 = .ok (.aload_n 0, 1) := by decide +kernel
theorem d167_100 : decode (pm_code 167) 100 = .ok (.getfield 87, 3) := by decide +kernel
theorem d167_103 : decode (pm_code 167) 103 = .ok (.iload_n 3, 1) := by decide +kernel
theorem d167_104 : decode (pm_code 167) 104 = .ok (.iconst 1, 1) := by decide +kernel
theorem d167_105 : decode (pm_code 167) 105 = .ok (.iadd, 1) := by decide +kernel
theorem d167_106 : decode (pm_code 167) 106 = .ok (.iaload, 1) := by decide +kernel
theorem d167_107 : decode (pm_code 167) 107 = .ok (.aload_n 0, 1) := by decide +kernel
theorem d167_108 : decode (pm_code 167) 108 = .ok (.getfield 87, 3) := by decide +kernel
theorem d167_111 : decode (pm_code 167) 111 = .ok (.iload_n 3, 1) := by decide +kernel
theorem d167_112 : decode (pm_code 167) 112 = .ok (.iconst 2, 1) := by decide +kernel
theorem d167_113 : decode (pm_code 167) 113 = .ok (.iadd, 1) := by decide +kernel
theorem d167_114 : decode (pm_code 167) 114 = .ok (.iaload, 1) := by decide +kernel
theorem d167_115 : decode (pm_code 167) 115 = .ok (.iload 4, 2) := by decide +kernel
theorem d167_117 : decode (pm_code 167) 117 = .ok (.invokevirtual 232, 3) := by decide +kernel
theorem d167_120 : decode (pm_code 167) 120 = .ok (.goto 4, 3) := by decide +kernel
theorem d167_123 : decode (pm_code 167) 123 = .ok (.iconst 0, 1) := by decide +kernel
theorem d167_124 : decode (pm_code 167) 124 = .ok (.istore 7, 2) := by decide +kernel
theorem d167_126 : decode (pm_code 167) 126 = .ok (.iload 6, 2) := by decide +kernel
theorem d167_128 : decode (pm_code 167) 128 = .ok (.ifCond .eq 28, 3) := by decide +kernel
theorem d167_131 : decode (pm_code 167) 131 = .ok (.aload_n 0, 1) := by decide +kernel
theorem d167_132 : decode (pm_code 167) 132 = .ok (.aload_n 0, 1) := by decide +kernel
theorem d167_133 : decode (pm_code 167) 133 = .ok (.getfield 87, 3) := by decide +kernel
theorem d167_136 : decode (pm_code 167) 136 = .ok (.iload_n 3, 1) := by decide +kernel
theorem d167_137 : decode (pm_code 167) 137 = .ok (.iconst 3, 1) := by decide +kernel
theorem d167_138 : decode (pm_code 167) 138 = .ok (.iadd, 1) := by decide +kernel
theorem d167_139 : decode (pm_code 167) 139 = .ok (.iaload, 1) := by decide +kernel
theorem d167_140 : decode (pm_code 167) 140 = .ok (.aload_n 0, 1) := by decide +kernel
theorem d167_141 : decode (pm_code 167) 141 = .ok (.getfield 87, 3) := by decide +kernel
theorem d167_144 : decode (pm_code 167) 144 = .ok (.iload_n 3, 1) := by decide +kernel
theorem d167_145 : decode (pm_code 167) 145 = .ok (.iconst 4, 1) := by decide +kernel
theorem d167_146 : decode (pm_code 167) 146 = .ok (.iadd, 1) := by decide +kernel
theorem d167_147 : decode (pm_code 167) 147 = .ok (.iaload, 1) := by decide +kernel
theorem d167_148 : decode (pm_code 167) 148 = .ok (.iload 4, 2) := by decide +kernel
theorem d167_150 : decode (pm_code 167) 150 = .ok (.invokevirtual 232, 3) := by decide +kernel
theorem d167_153 : decode (pm_code 167) 153 = .ok (.goto 4, 3) := by decide +kernel
theorem d167_156 : decode (pm_code 167) 156 = .ok (.iconst 0, 1) := by decide +kernel
theorem d167_157 : decode (pm_code 167) 157 = .ok (.istore 8, 2) := by decide +kernel
theorem d167_159 : decode (pm_code 167) 159 = .ok (.iload_n 2, 1) := by decide +kernel
theorem d167_160 : decode (pm_code 167) 160 = .ok (.iload 4, 2) := by decide +kernel
theorem d167_162 : decode (pm_code 167) 162 = .ok (.ishr, 1) := by decide +kernel
theorem d167_163 : decode (pm_code 167) 163 = .ok (.iconst 1, 1) := by decide +kernel
theorem d167_164 : decode (pm_code 167) 164 = .ok (.iand, 1) := by decide +kernel
theorem d167_165 : decode (pm_code 167) 165 = .ok (.iconst 1, 1) := by decide +kernel
theorem d167_166 : decode (pm_code 167) 166 = .ok (.if_icmp .ne 125, 3) := by decide +kernel
theorem d167_169 : decode (pm_code 167) 169 = .ok (.iload 5, 2) := by decide +kernel
theorem d167_171 : decode (pm_code 167) 171 = .ok (.ifCond .eq 14, 3) := by decide +kernel
theorem d167_174 : decode (pm_code 167) 174 = .ok (.aload_n 0, 1) := by decide +kernel
theorem d167_175 : decode (pm_code 167) 175 = .ok (.getfield 87, 3) := by decide +kernel
theorem d167_178 : decode (pm_code 167) 178 = .ok (.iload_n 3, 1) := by decide +kernel
theorem d167_179 : decode (pm_code 167) 179 = .ok (.iconst 1, 1) := by decide +kernel
theorem d167_180 : decode (pm_code 167) 180 = .ok (.iadd, 1) := by decide +kernel
theorem d167_181 : decode (pm_code 167) 181 = .ok (.iaload, 1) := by decide +kernel
theorem d167_182 : decode (pm_code 167) 182 = .ok (.goto 11, 3) := by decide +kernel
theorem d167_185 : decode (pm_code 167) 185 = .ok (.aload_n 0, 1) := by decide +kernel
theorem d167_186 : decode (pm_code 167) 186 = .ok (.getfield 87, 3) := by decide +kernel
theorem d167_189 : decode (pm_code 167) 189 = .ok (.iload_n 3, 1) := by decide +kernel
theorem d167_190 : decode (pm_code 167) 190 = .ok (.iconst 3, 1) := by decide +kernel
theorem d167_191 : decode (pm_code 167) 191 = .ok (.iadd, 1) := by decide +kernel
theorem d167_192 : decode (pm_code 167) 192 = .ok (.iaload, 1) := by decide +kernel
theorem d167_193 : decode (pm_code 167) 193 = .ok (.istore 9, 2) := by decide +kernel
theorem d167_195 : decode (pm_code 167) 195 = .ok (.iload 6, 2) := by decide +kernel
theorem d167_197 : decode (pm_code 167) 197 = .ok (.ifCond .eq 14, 3) := by decide +kernel
theorem d167_200 : decode (pm_code 167) 200 = .ok (.aload_n 0, 1) := by decide +kernel
theorem d167_201 : decode (pm_code 167) 201 = .ok (.getfield 87, 3) := by decide +kernel
theorem d167_204 : decode (pm_code 167) 204 = .ok (.iload_n 3, 1) := by decide +kernel
theorem d167_205 : decode (pm_code 167) 205 = .ok (.iconst 3, 1) := by decide +kernel
theorem d167_206 : decode (pm_code 167) 206 = .ok (.iadd, 1) := by decide +kernel
theorem d167_207 : decode (pm_code 167) 207 = .ok (.iaload, 1) := by decide +kernel
theorem d167_208 : decode (pm_code 167) 208 = .ok (.goto 11, 3) := by decide +kernel
theorem d167_211 : decode (pm_code 167) 211 = .ok (.aload_n 0, 1) := by decide +kernel
theorem d167_212 : decode (pm_code 167) 212 = .ok (.getfield 87, 3) := by decide +kernel
theorem d167_215 : decode (pm_code 167) 215 = .ok (.iload_n 3, 1) := by decide +kernel
theorem d167_216 : decode (pm_code 167) 216 = .ok (.iconst 1, 1) := by decide +kernel
theorem d167_217 : decode (pm_code 167) 217 = .ok (.iadd, 1) := by decide +kernel
theorem d167_218 : decode (pm_code 167) 218 = .ok (.iaload, 1) := by decide +kernel
theorem d167_219 : decode (pm_code 167) 219 = .ok (.istore 10, 2) := by decide +kernel
theorem d167_221 : decode (pm_code 167) 221 = .ok (.aload_n 0, 1) := by decide +kernel
theorem d167_222 : decode (pm_code 167) 222 = .ok (.iload 5, 2) := by decide +kernel
theorem d167_224 : decode (pm_code 167) 224 = .ok (.ifCond .eq 17, 3) := by decide +kernel
theorem d167_227 : decode (pm_code 167) 227 = .ok (.iload 6, 2) := by decide +kernel
theorem d167_229 : decode (pm_code 167) 229 = .ok (.ifCond .eq 12, 3) := by decide +kernel
theorem d167_232 : decode (pm_code 167) 232 = .ok (.aload_n 0, 1) := by decide +kernel
theorem d167_233 : decode (pm_code 167) 233 = .ok (.getfield 87, 3) := by decide +kernel
theorem d167_236 : decode (pm_code 167) 236 = .ok (.iload_n 3, 1) := by decide +kernel
theorem d167_237 : decode (pm_code 167) 237 = .ok (.iaload, 1) := by decide +kernel
theorem d167_238 : decode (pm_code 167) 238 = .ok (.goto 4, 3) := by decide +kernel
theorem d167_241 : decode (pm_code 167) 241 = .ok (.iconst 2, 1) := by decide +kernel
theorem d167_242 : decode (pm_code 167) 242 = .ok (.iload 9, 2) := by decide +kernel
theorem d167_244 : decode (pm_code 167) 244 = .ok (.iload 5, 2) := by decide +kernel
theorem d167_246 : decode (pm_code 167) 246 = .ok (.ifCond .eq 8, 3) := by decide +kernel
theorem d167_249 : decode (pm_code 167) 249 = .ok (.iload 7, 2) := by decide +kernel
theorem d167_251 : decode (pm_code 167) 251 = .ok (.goto 5, 3) := by decide +kernel
theorem d167_254 : decode (pm_code 167) 254 = .ok (.iload 8, 2) := by decide +kernel
theorem d167_256 : decode (pm_code 167) 256 = .ok (.iload 10, 2) := by decide +kernel
theorem d167_258 : decode (pm_code 167) 258 = .ok (.iload 6, 2) := by decide +kernel
theorem d167_260 : decode (pm_code 167) 260 = .ok (.ifCond .eq 8, 3) := by decide +kernel
theorem d167_263 : decode (pm_code 167) 263 = .ok (.iload 8, 2) := by decide +kernel
theorem d167_265 : decode (pm_code 167) 265 = .ok (.goto 5, 3) := by decide +kernel
theorem d167_268 : decode (pm_code 167) 268 = .ok (.iload 7, 2) := by decide +kernel
theorem d167_270 : decode (pm_code 167) 270 = .ok (.aload_n 0, 1) := by decide +kernel
theorem d167_271 : decode (pm_code 167) 271 = .ok (.getfield 87, 3) := by decide +kernel
theorem d167_274 : decode (pm_code 167) 274 = .ok (.iload_n 3, 1) := by decide +kernel
theorem d167_275 : decode (pm_code 167) 275 = .ok (.iconst 5, 1) := by decide +kernel
theorem d167_276 : decode (pm_code 167) 276 = .ok (.iadd, 1) := by decide +kernel
theorem d167_277 : decode (pm_code 167) 277 = .ok (.iaload, 1) := by decide +kernel
theorem d167_278 : decode (pm_code 167) 278 = .ok (.aload_n 0, 1) := by decide +kernel
theorem d167_279 : decode (pm_code 167) 279 = .ok (.getfield 87, 3) := by decide +kernel
theorem d167_282 : decode (pm_code 167) 282 = .ok (.iload_n 3, 1) := by decide +kernel
theorem d167_283 : decode (pm_code 167) 283 = .ok (.bipush 6, 2) := by decide +kernel
theorem d167_285 : decode (pm_code 167) 285 = .ok (.iadd, 1) := by decide +kernel
theorem d167_286 : decode (pm_code 167) 286 = .ok (.iaload, 1) := by decide +kernel
theorem d167_287 : decode (pm_code 167) 287 = .ok (.invokevirtual 255, 3) := by decide +kernel
theorem d167_290 : decode (pm_code 167) 290 = .ok (.pop, 1) := by decide +kernel
theorem d167_291 : decode (pm_code 167) 291 = .ok (.iinc 4 1, 3) := by decide +kernel
theorem d167_294 : decode (pm_code 167) 294 = .ok (.goto (-279), 3) := by decide +kernel
theorem d167_297 : decode (pm_code 167) 297 = .ok (.return_, 1) := by decide +kernel
theorem d168_0 : decode (pm_code 168) 0 = .ok (.aload_n 0, 1) := by decide +kernel
theorem d168_1 : decode (pm_code 168) 1 = .ok (.getfield 93, 3) := by decide +kernel
theorem d168_4 : decode (pm_code 168) 4 = .ok (.iload_n 1, 1) := by decide +kernel
theorem d168_5 : decode (pm_code 168) 5 = .ok (.iaload, 1) := by decide +kernel
theorem d168_6 : decode (pm_code 168) 6 = .ok (.istore_n 2, 1) := by decide +kernel
theorem d168_7 : decode (pm_code 168) 7 = .ok (.aload_n 0, 1) := by decide +kernel
theorem d168_8 : decode (pm_code 168) 8 = .ok (.getfield 90, 3) := by decide +kernel
theorem d168_11 : decode (pm_code 168) 11 = .ok (.iload_n 1, 1) := by decide +kernel
theorem d168_12 : decode (pm_code 168) 12 = .ok (.iaload, 1) := by decide +kernel
theorem d168_13 : decode (pm_code 168) 13 = .ok (.iconst 1, 1) := by decide +kernel
theorem d168_14 : decode (pm_code 168) 14 = .ok (.if_icmp .ne 7, 3) := by decide +kernel
theorem d168_17 : decode (pm_code 168) 17 = .ok (.iconst 2, 1) := by decide +kernel
theorem d168_18 : decode (pm_code 168) 18 = .ok (.goto 29, 3) := by decide +kernel
theorem d168_21 : decode (pm_code 168) 21 = .ok (.aload_n 0, 1) := by decide +kernel
theorem d168_22 : decode (pm_code 168) 22 = .ok (.getfield 90, 3) := by decide +kernel
theorem d168_25 : decode (pm_code 168) 25 = .ok (.iload_n 1, 1) := by decide +kernel
theorem d168_26 : decode (pm_code 168) 26 = .ok (.iaload, 1) := by decide +kernel
theorem d168_27 : decode (pm_code 168) 27 = .ok (.iconst 2, 1) := by decide +kernel
theorem d168_28 : decode (pm_code 168) 28 = .ok (.if_icmp .ne 7, 3) := by decide +kernel
theorem d168_31 : decode (pm_code 168) 31 = .ok (.iconst 1, 1) := by decide +kernel
theorem d168_32 : decode (pm_code 168) 32 = .ok (.goto 15, 3) := by decide +kernel
theorem d168_35 : decode (pm_code 168) 35 = .ok (.aload_n 0, 1) := by decide +kernel
theorem d168_36 : decode (pm_code 168) 36 = .ok (.getfield 90, 3) := by decide +kernel
theorem d168_39 : decode (pm_code 168) 39 = .ok (.iload_n 1, 1) := by decide +kernel
theorem d168_40 : decode (pm_code 168) 40 = .ok (.iaload, 1) := by decide +kernel
theorem d168_41 : decode (pm_code 168) 41 = .ok (.bipush 8, 2) := by decide +kernel
theorem d168_43 : decode (pm_code 168) 43 = .ok (.isub, 1) := by decide +kernel
theorem d168_44 : decode (pm_code 168) 44 = .ok (.invokestatic 196, 3) := by decide +kernel
theorem d168_47 : decode (pm_code 168) 47 = .ok (.istore_n 3, 1) := by decide +kernel
theorem d168_48 : decode (pm_code 168) 48 = .ok (.iconst 0, 1) := by decide +kernel
theorem d168_49 : decode (pm_code 168) 49 = .ok (.istore 4, 2) := by decide +kernel
theorem d168_51 : decode (pm_code 168) 51 = .ok (.iconst 0, 1) := by decide +kernel
theorem d168_52 : decode (pm_code 168) 52 = .ok (.istore 5, 2) := by decide +kernel
theorem d168_54 : decode (pm_code 168) 54 = .ok (.aload_n 0, 1) := by decide +kernel
theorem d168_55 : decode (pm_code 168) 55 = .ok (.getfield 90, 3) := by decide +kernel
theorem d168_58 : decode (pm_code 168) 58 = .ok (.iload_n 1, 1) := by decide +kernel
theorem d168_59 : decode (pm_code 168) 59 = .ok (.iaload, 1) := by decide +kernel
theorem d168_60 : decode (pm_code 168) 60 = .ok (.iconst 2, 1) := by decide +kernel
theorem d168_61 : decode (pm_code 168) 61 = .ok (.if_icmp .ne 50, 3) := by decide +kernel
theorem d168_64 : decode (pm_code 168) 64 = .ok (.iconst 1, 1) := by decide +kernel
theorem d168_65 : decode (pm_code 168) 65 = .ok (.aload_n 0, 1) := by decide +kernel
theorem d168_66 : decode (pm_code 168) 66 = .ok (.aload_n 0, 1) := by decide +kernel
theorem d168_67 : decode (pm_code 168) 67 = .ok (.getfield 87, 3) := by decide +kernel
theorem d168_70 : decode (pm_code 168) 70 = .ok (.bipush 7, 2) := by decide +kernel
theorem d168_72 : decode (pm_code 168) 72 = .ok (.iload_n 1, 1) := by decide +kernel
theorem d168_73 : decode (pm_code 168) 73 = .ok (.imul, 1) := by decide +kernel
theorem d168_74 : decode (pm_code 168) 74 = .ok (.iconst 1, 1) := by decide +kernel
theorem d168_75 : decode (pm_code 168) 75 = .ok (.iadd, 1) := by decide +kernel
theorem d168_76 : decode (pm_code 168) 76 = .ok (.iaload, 1) := by decide +kernel
theorem d168_77 : decode (pm_code 168) 77 = .ok (.aload_n 0, 1) := by decide +kernel
theorem d168_78 : decode (pm_code 168) 78 = .ok (.getfield 87, 3) := by decide +kernel
theorem d168_81 : decode (pm_code 168) 81 = .ok (.bipush 7, 2) := by decide +kernel
theorem d168_83 : decode (pm_code 168) 83 = .ok (.iload_n 1, 1) := by decide +kernel
theorem d168_84 : decode (pm_code 168) 84 = .ok (.imul, 1) := by decide +kernel
theorem d168_85 : decode (pm_code 168) 85 = .ok (.iconst 2, 1) := by decide +kernel
theorem d168_86 : decode (pm_code 168) 86 = .ok (.iadd, 1) := by decide +kernel
theorem d168_87 : decode (pm_code 168) 87 = .ok (.iaload, 1) := by decide +kernel
theorem d168_88 : decode (pm_code 168) 88 = .ok (.iconst 1, 1) := by decide +kernel
theorem d168_89 : decode (pm_code 168) 89 = .ok (.iadd, 1) := by decide +kernel
theorem d168_90 : decode (pm_code 168) 90 = .ok (.invokevirtual 199, 3) := by decide +kernel
theorem d168_93 : decode (pm_code 168) 93 = .ok (.iadd, 1) := by decide +kernel
theorem d168_94 : decode (pm_code 168) 94 = .ok (.aload_n 0, 1) := by decide +kernel
theorem d168_95 : decode (pm_code 168) 95 = .ok (.getfield 87, 3) := by decide +kernel
theorem d168_98 : decode (pm_code 168) 98 = .ok (.bipush 7, 2) := by decide +kernel
theorem d168_100 : decode (pm_code 168) 100 = .ok (.iload_n 1, 1) := by decide +kernel
theorem d168_101 : decode (pm_code 168) 101 = .ok (.imul, 1) := by decide +kernel
theorem d168_102 : decode (pm_code 168) 102 = .ok (.iconst 2, 1) := by decide +kernel
theorem d168_103 : decode (pm_code 168) 103 = .ok (.iadd, 1) := by decide +kernel
theorem d168_104 : decode (pm_code 168) 104 = .ok (.iaload, 1) := by decide +kernel
theorem d168_105 : decode (pm_code 168) 105 = .ok (.isub, 1) := by decide +kernel
theorem d168_106 : decode (pm_code 168) 106 = .ok (.iconst 1, 1) := by decide +kernel
theorem d168_107 : decode (pm_code 168) 107 = .ok (.isub, 1) := by decide +kernel
theorem d168_108 : decode (pm_code 168) 108 = .ok (.goto 4, 3) := by decide +kernel
theorem d168_111 : decode (pm_code 168) 111 = .ok (.iconst 1, 1) := by decide +kernel
theorem d168_112 : decode (pm_code 168) 112 = .ok (.istore 6, 2) := by decide +kernel
theorem d168_114 : decode (pm_code 168) 114 = .ok (.iconst 0, 1) := by decide +kernel
theorem d168_115 : decode (pm_code 168) 115 = .ok (.istore 7, 2) := by decide +kernel
theorem d168_117 : decode (pm_code 168) 117 = .ok (.iload 7, 2) := by decide +kernel
theorem d168_119 : decode (pm_code 168) 119 = .ok (.iload_n 3, 1) := by decide +kernel
theorem d168_120 : decode (pm_code 168) 120 = .ok (.if_icmp .ge 112, 3) := by decide +kernel
theorem d168_123 : decode (pm_code 168) 123 = .ok (.iload 4, 2) := by decide +kernel
theorem d168_125 : decode (pm_code 168) 125 = .ok (.ifCond .ne 15, 3) := by decide +kernel
theorem d168_128 : decode (pm_code 168) 128 = .ok (.aload_n 0, 1) := by decide +kernel
theorem d168_129 : decode (pm_code 168) 129 = .ok (.getfield 96, 3) := by decide +kernel
theorem d168_132 : decode (pm_code 168) 132 = .ok (.iload_n 2, 1) := by decide +kernel
theorem d168_133 : decode (pm_code 168) 133 = .ok (.iload 7, 2) := by decide +kernel
theorem d168_135 : decode (pm_code 168) 135 = .ok (.iadd, 1) := by decide +kernel
theorem d168_136 : decode (pm_code 168) 136 = .ok (.iaload, 1) := by decide +kernel
theorem d168_137 : decode (pm_code 168) 137 = .ok (.ifCond .ne 7, 3) := by decide +kernel
theorem d168_140 : decode (pm_code 168) 140 = .ok (.iconst 1, 1) := by decide +kernel
theorem d168_141 : decode (pm_code 168) 141 = .ok (.goto 4, 3) := by decide +kernel
theorem d168_144 : decode (pm_code 168) 144 = .ok (.iconst 0, 1) := by decide +kernel
theorem d168_145 : decode (pm_code 168) 145 = .ok (.istore 4, 2) := by decide +kernel
theorem d168_147 : decode (pm_code 168) 147 = .ok (.iload 5, 2) := by decide +kernel
theorem d168_149 : decode (pm_code 168) 149 = .ok (.ifCond .ne 16, 3) := by decide +kernel
theorem d168_152 : decode (pm_code 168) 152 = .ok (.aload_n 0, 1) := by decide +kernel
theorem d168_153 : decode (pm_code 168) 153 = .ok (.getfield 96, 3) := by decide +kernel
theorem d168_156 : decode (pm_code 168) 156 = .ok (.iload_n 2, 1) := by decide +kernel
theorem d168_157 : decode (pm_code 168) 157 = .ok (.iload 7, 2) := by decide +kernel
theorem d168_159 : decode (pm_code 168) 159 = .ok (.iadd, 1) := by decide +kernel
theorem d168_160 : decode (pm_code 168) 160 = .ok (.iaload, 1) := by decide +kernel
theorem d168_161 : decode (pm_code 168) 161 = .ok (.iconst 2, 1) := by decide +kernel
theorem d168_162 : decode (pm_code 168) 162 = .ok (.if_icmp .ne 7, 3) := by decide +kernel
theorem d168_165 : decode (pm_code 168) 165 = .ok (.iconst 1, 1) := by decide +kernel
theorem d168_166 : decode (pm_code 168) 166 = .ok (.goto 4, 3) := by decide +kernel
theorem d168_169 : decode (pm_code 168) 169 = .ok (.iconst 0, 1) := by decide +kernel
theorem d168_170 : decode (pm_code 168) 170 = .ok (.istore 5, 2) := by decide +kernel
theorem d168_172 : decode (pm_code 168) 172 = .ok (.iload 6, 2) := by decide +kernel
theorem d168_174 : decode (pm_code 168) 174 = .ok (.aload_n 0, 1) := by decide +kernel
theorem d168_175 : decode (pm_code 168) 175 = .ok (.getfield 96, 3) := by decide +kernel
theorem d168_178 : decode (pm_code 168) 178 = .ok (.iload_n 2, 1) := by decide +kernel
theorem d168_179 : decode (pm_code 168) 179 = .ok (.iload 7, 2) := by decide +kernel
theorem d168_181 : decode (pm_code 168) 181 = .ok (.iadd, 1) := by decide +kernel
theorem d168_182 : decode (pm_code 168) 182 = .ok (.iaload, 1) := by decide +kernel
theorem d168_183 : decode (pm_code 168) 183 = .ok (.iconst 1, 1) := by decide +kernel
theorem d168_184 : decode (pm_code 168) 184 = .ok (.if_icmp .ne 38, 3) := by decide +kernel
theorem d168_187 : decode (pm_code 168) 187 = .ok (.aload_n 0, 1) := by decide +kernel
theorem d168_188 : decode (pm_code 168) 188 = .ok (.aload_n 0, 1) := by decide +kernel
theorem d168_189 : decode (pm_code 168) 189 = .ok (.getfield 99, 3) := by decide +kernel
theorem d168_192 : decode (pm_code 168) 192 = .ok (.iload_n 2, 1) := by decide +kernel
theorem d168_193 : decode (pm_code 168) 193 = .ok (.iload 7, 2) := by decide +kernel
theorem d168_195 : decode (pm_code 168) 195 = .ok (.iadd, 1) := by decide +kernel
theorem d168_196 : decode (pm_code 168) 196 = .ok (.iaload, 1) := by decide +kernel
theorem d168_197 : decode (pm_code 168) 197 = .ok (.aload_n 0, 1) := by decide +kernel
theorem d168_198 : decode (pm_code 168) 198 = .ok (.getfield 102, 3) := by decide +kernel
theorem d168_201 : decode (pm_code 168) 201 = .ok (.iload_n 2, 1) := by decide +kernel
theorem d168_202 : decode (pm_code 168) 202 = .ok (.iload 7, 2) := by decide +kernel
theorem d168_204 : decode (pm_code 168) 204 = .ok (.iadd, 1) := by decide +kernel
theorem d168_205 : decode (pm_code 168) 205 = .ok (.iaload, 1) := by decide +kernel
theorem d168_206 : decode (pm_code 168) 206 = .ok (.invokevirtual 199, 3) := by decide +kernel
theorem d168_209 : decode (pm_code 168) 209 = .ok (.aload_n 0, 1) := by decide +kernel
theorem d168_210 : decode (pm_code 168) 210 = .ok (.getfield 102, 3) := by decide +kernel
theorem d168_213 : decode (pm_code 168) 213 = .ok (.iload_n 2, 1) := by decide +kernel
theorem d168_214 : decode (pm_code 168) 214 = .ok (.iload 7, 2) := by decide +kernel
theorem d168_216 : decode (pm_code 168) 216 = .ok (.iadd, 1) := by decide +kernel
theorem d168_217 : decode (pm_code 168) 217 = .ok (.iaload, 1) := by decide +kernel
theorem d168_218 : decode (pm_code 168) 218 = .ok (.isub, 1) := by decide +kernel
theorem d168_219 : decode (pm_code 168) 219 = .ok (.goto 4, 3) := by decide +kernel
theorem d168_222 : decode (pm_code 168) 222 = .ok (.iconst 0, 1) := by decide +kernel
theorem d168_223 : decode (pm_code 168) 223 = .ok (.iadd, 1) := by decide +kernel
theorem d168_224 : decode (pm_code 168) 224 = .ok (.istore 6, 2) := by decide +kernel
theorem d168_226 : decode (pm_code 168) 226 = .ok (.iinc 7 1, 3) := by decide +kernel
theorem d168_229 : decode (pm_code 168) 229 = .ok (.goto (-112), 3) := by decide +kernel
theorem d168_232 : decode (pm_code 168) 232 = .ok (.iload 4, 2) := by decide +kernel
theorem d168_234 : decode (pm_code 168) 234 = .ok (.ifCond .eq 26, 3) := by decide +kernel
theorem d168_237 : decode (pm_code 168) 237 = .ok (.aload_n 0, 1) := by decide +kernel
theorem d168_238 : decode (pm_code 168) 238 = .ok (.getfield 87, 3) := by decide +kernel
theorem d168_241 : decode (pm_code 168) 241 = .ok (.bipush 7, 2) := by decide +kernel
theorem d168_243 : decode (pm_code 168) 243 = .ok (.iload_n 1, 1) := by decide +kernel
theorem d168_244 : decode (pm_code 168) 244 = .ok (.imul, 1) := by decide +kernel
theorem d168_245 : decode (pm_code 168) 245 = .ok (.iaload, 1) := by decide +kernel
theorem d168_246 : decode (pm_code 168) 246 = .ok (.ifCond .ne 13, 3) := by decide +kernel
theorem d168_249 : decode (pm_code 168) 249 = .ok (.aload_n 0, 1) := by decide +kernel
theorem d168_250 : decode (pm_code 168) 250 = .ok (.iload_n 1, 1) := by decide +kernel
theorem d168_251 : decode (pm_code 168) 251 = .ok (.aload_n 0, 1) := by decide +kernel
theorem d168_252 : decode (pm_code 168) 252 = .ok (.invokevirtual 259, 3) := by decide +kernel
theorem d168_255 : decode (pm_code 168) 255 = .ok (.iconst 0, 1) := by decide +kernel
theorem d168_256 : decode (pm_code 168) 256 = .ok (.invokevirtual 247, 3) := by decide +kernel
theorem d168_259 : decode (pm_code 168) 259 = .ok (.return_, 1) := by decide +kernel
theorem d168_260 : decode (pm_code 168) 260 = .ok (.iload 5, 2) := by decide +kernel
theorem d168_262 : decode (pm_code 168) 262 = .ok (.ifCond .ne 10, 3) := by decide +kernel
theorem d168_265 : decode (pm_code 168) 265 = .ok (.iload 6, 2) := by decide +kernel
theorem d168_267 : decode (pm_code 168) 267 = .ok (.bipush 16, 2) := by decide +kernel
theorem d168_269 : decode (pm_code 168) 269 = .ok (.if_icmp .le 11, 3) := by decide +kernel
theorem d168_272 : decode (pm_code 168) 272 = .ok (.aload_n 0, 1) := by decide +kernel
theorem d168_273 : decode (pm_code 168) 273 = .ok (.getfield 96, 3) := by decide +kernel
theorem d168_276 : decode (pm_code 168) 276 = .ok (.iload_n 1, 1) := by decide +kernel
theorem d168_277 : decode (pm_code 168) 277 = .ok (.iconst 2, 1) := by decide +kernel
theorem d168_278 : decode (pm_code 168) 278 = .ok (.iastore, 1) := by decide +kernel
theorem d168_279 : decode (pm_code 168) 279 = .ok (.return_, 1) := by decide +kernel
theorem d168_280 : decode (pm_code 168) 280 = .ok (.aload_n 0, 1) := by decide +kernel
theorem d168_281 : decode (pm_code 168) 281 = .ok (.invokevirtual 205, 3) := by decide +kernel
theorem d168_284 : decode (pm_code 168) 284 = .ok (.istore 7, 2) := by decide +kernel
theorem d168_286 : decode (pm_code 168) 286 = .ok (.aload_n 0, 1) := by decide +kernel
theorem d168_287 : decode (pm_code 168) 287 = .ok (.getfield 63, 3) := by decide +kernel
theorem d168_290 : decode (pm_code 168) 290 = .ok (.bipush 17, 2) := by decide +kernel
theorem d168_292 : decode (pm_code 168) 292 = .ok (.iload 7, 2) := by decide +kernel
theorem d168_294 : decode (pm_code 168) 294 = .ok (.imul, 1) := by decide +kernel
theorem d168_295 : decode (pm_code 168) 295 = .ok (.aload_n 0, 1) := by decide +kernel
theorem d168_296 : decode (pm_code 168) 296 = .ok (.getfield 90, 3) := by decide +kernel
theorem d168_299 : decode (pm_code 168) 299 = .ok (.iload_n 1, 1) := by decide +kernel
theorem d168_300 : decode (pm_code 168) 300 = .ok (.iaload, 1) := by decide +kernel
theorem d168_301 : decode (pm_code 168) 301 = .ok (.iastore, 1) := by decide +kernel
theorem d168_302 : decode (pm_code 168) 302 = .ok (.iconst 1, 1) := by decide +kernel
theorem d168_303 : decode (pm_code 168) 303 = .ok (.istore 8, 2) := by decide +kernel
theorem d168_305 : decode (pm_code 168) 305 = .ok (.aload_n 0, 1) := by decide +kernel
theorem d168_306 : decode (pm_code 168) 306 = .ok (.getfield 90, 3) := by decide +kernel
theorem d168_309 : decode (pm_code 168) 309 = .ok (.iload_n 1, 1) := by decide +kernel
theorem d168_310 : decode (pm_code 168) 310 = .ok (.iaload, 1) := by decide +kernel
theorem d168_311 : decode (pm_code 168) 311 = .ok (.iconst 2, 1) := by decide +kernel
theorem d168_312 : decode (pm_code 168) 312 = .ok (.if_icmp .ne 43, 3) := by decide +kernel
theorem d168_315 : decode (pm_code 168) 315 = .ok (.aload_n 0, 1) := by decide +kernel
theorem d168_316 : decode (pm_code 168) 316 = .ok (.aload_n 0, 1) := by decide +kernel
theorem d168_317 : decode (pm_code 168) 317 = .ok (.getfield 87, 3) := by decide +kernel
theorem d168_320 : decode (pm_code 168) 320 = .ok (.bipush 7, 2) := by decide +kernel
theorem d168_322 : decode (pm_code 168) 322 = .ok (.iload_n 1, 1) := by decide +kernel
theorem d168_323 : decode (pm_code 168) 323 = .ok (.imul, 1) := by decide +kernel
theorem d168_324 : decode (pm_code 168) 324 = .ok (.iconst 1, 1) := by decide +kernel
theorem d168_325 : decode (pm_code 168) 325 = .ok (.iadd, 1) := by decide +kernel
theorem d168_326 : decode (pm_code 168) 326 = .ok (.iaload, 1) := by decide +kernel
theorem d168_327 : decode (pm_code 168) 327 = .ok (.aload_n 0, 1) := by decide +kernel
theorem d168_328 : decode (pm_code 168) 328 = .ok (.getfield 87, 3) := by decide +kernel
theorem d168_331 : decode (pm_code 168) 331 = .ok (.bipush 7, 2) := by decide +kernel
theorem d168_333 : decode (pm_code 168) 333 = .ok (.iload_n 1, 1) := by decide +kernel
theorem d168_334 : decode (pm_code 168) 334 = .ok (.imul, 1) := by decide +kernel
theorem d168_335 : decode (pm_code 168) 335 = .ok (.iconst 2, 1) := by decide +kernel
theorem d168_336 : decode (pm_code 168) 336 = .ok (.iadd, 1) := by decide +kernel
theorem d168_337 : decode (pm_code 168) 337 = .ok (.iaload, 1) := by decide +kernel
theorem d168_338 : decode (pm_code 168) 338 = .ok (.iconst 1, 1) := by decide +kernel
theorem d168_339 : decode (pm_code 168) 339 = .ok (.iadd, 1) := by decide +kernel
theorem d168_340 : decode (pm_code 168) 340 = .ok (.iload 7, 2) := by decide +kernel
theorem d168_342 : decode (pm_code 168) 342 = .ok (.iconst 1, 1) := by decide +kernel
theorem d168_343 : decode (pm_code 168) 343 = .ok (.invokevirtual 209, 3) := by decide +kernel
theorem d168_346 : decode (pm_code 168) 346 = .ok (.aload_n 0, 1) := by decide +kernel
theorem d168_347 : decode (pm_code 168) 347 = .ok (.iload 7, 2) := by decide +kernel
theorem d168_349 : decode (pm_code 168) 349 = .ok (.iconst 1, 1) := by decide +kernel
theorem d168_350 : decode (pm_code 168) 350 = .ok (.invokevirtual 199, 3) := by decide +kernel
theorem d168_353 : decode (pm_code 168) 353 = .ok (.istore 8, 2) := by decide +kernel
theorem d168_355 : decode (pm_code 168) 355 = .ok (.iconst 0, 1) := by decide +kernel
theorem d168_356 : decode (pm_code 168) 356 = .ok (.istore 9, 2) := by decide +kernel
theorem d168_358 : decode (pm_code 168) 358 = .ok (.iload 9, 2) := by decide +kernel
theorem d168_360 : decode (pm_code 168) 360 = .ok (.iload_n 3, 1) := by decide +kernel
theorem d168_361 : decode (pm_code 168) 361 = .ok (.if_icmp .ge 45, 3) := by decide +kernel
theorem d168_364 : decode (pm_code 168) 364 = .ok (.aload_n 0, 1) := by decide +kernel
theorem d168_365 : decode (pm_code 168) 365 = .ok (.aload_n 0, 1) := by decide +kernel
theorem d168_366 : decode (pm_code 168) 366 = .ok (.getfield 99, 3) := by decide +kernel
theorem d168_369 : decode (pm_code 168) 369 = .ok (.iload_n 2, 1) := by decide +kernel
theorem d168_370 : decode (pm_code 168) 370 = .ok (.iload 9, 2) := by decide +kernel
theorem d168_372 : decode (pm_code 168) 372 = .ok (.iadd, 1) := by decide +kernel
theorem d168_373 : decode (pm_code 168) 373 = .ok (.iaload, 1) := by decide +kernel
theorem d168_374 : decode (pm_code 168) 374 = .ok (.aload_n 0, 1) := by decide +kernel
theorem d168_375 : decode (pm_code 168) 375 = .ok (.getfield 102, 3) := by decide +kernel
theorem d168_378 : decode (pm_code 168) 378 = .ok (.iload_n 2, 1) := by decide +kernel
theorem d168_379 : decode (pm_code 168) 379 = .ok (.iload 9, 2) := by decide +kernel
theorem d168_381 : decode (pm_code 168) 381 = .ok (.iadd, 1) := by decide +kernel
theorem d168_382 : decode (pm_code 168) 382 = .ok (.iaload, 1) := by decide +kernel
theorem d168_383 : decode (pm_code 168) 383 = .ok (.iload 7, 2) := by decide +kernel
theorem d168_385 : decode (pm_code 168) 385 = .ok (.iload 8, 2) := by decide +kernel
theorem d168_387 : decode (pm_code 168) 387 = .ok (.invokevirtual 209, 3) := by decide +kernel
theorem d168_390 : decode (pm_code 168) 390 = .ok (.aload_n 0, 1) := by decide +kernel
theorem d168_391 : decode (pm_code 168) 391 = .ok (.iload 7, 2) := by decide +kernel
theorem d168_393 : decode (pm_code 168) 393 = .ok (.iload 8, 2) := by decide +kernel
theorem d168_395 : decode (pm_code 168) 395 = .ok (.invokevirtual 199, 3) := by decide +kernel
theorem d168_398 : decode (pm_code 168) 398 = .ok (.istore 8, 2) := by decide +kernel
theorem d168_400 : decode (pm_code 168) 400 = .ok (.iinc 9 1, 3) := by decide +kernel
theorem d168_403 : decode (pm_code 168) 403 = .ok (.goto (-45), 3) := by decide +kernel
theorem d168_406 : decode (pm_code 168) 406 = .ok (.aload_n 0, 1) := by decide +kernel
theorem d168_407 : decode (pm_code 168) 407 = .ok (.iload_n 1, 1) := by decide +kernel
theorem d168_408 : decode (pm_code 168) 408 = .ok (.iload 7, 2) := by decide +kernel
theorem d168_410 : decode (pm_code 168) 410 = .ok (.iconst 0, 1) := by decide +kernel
theorem d168_411 : decode (pm_code 168) 411 = .ok (.invokevirtual 247, 3) := by decide +kernel
theorem d168_414 : decode (pm_code 168) 414 = .ok (.return_, 1) := by decide +kernel
theorem d169_0 : decode (pm_code 169) 0 = .ok (.aload_n 0, 1) := by decide +kernel
theorem d169_1 : decode (pm_code 169) 1 = .ok (.iconst 0, 1) := by decide +kernel
theorem d169_2 : decode (pm_code 169) 2 = .ok (.putfield 241, 3) := by decide +kernel
theorem d169_5 : decode (pm_code 169) 5 = .ok (.aload_n 0, 1) := by decide +kernel
theorem d169_6 : decode (pm_code 169) 6 = .ok (.iload_n 1, 1) := by decide +kernel
theorem d169_7 : decode (pm_code 169) 7 = .ok (.iload_n 2, 1) := by decide +kernel
theorem d169_8 : decode (pm_code 169) 8 = .ok (.iconst 0, 1) := by decide +kernel
theorem d169_9 : decode (pm_code 169) 9 = .ok (.iload_n 3, 1) := by decide +kernel
theorem d169_10 : decode (pm_code 169) 10 = .ok (.iconst 0, 1) := by decide +kernel
theorem d169_11 : decode (pm_code 169) 11 = .ok (.iload 4, 2) := by decide +kernel
theorem d169_13 : decode (pm_code 169) 13 = .ok (.iload 5, 2) := by decide +kernel
theorem d169_15 : decode (pm_code 169) 15 = .ok (.invokevirtual 255, 3) := by decide +kernel
theorem d169_18 : decode (pm_code 169) 18 = .ok (.istore 6, 2) := by decide +kernel
theorem d169_20 : decode (pm_code 169) 20 = .ok (.iconst 0, 1) := by decide +kernel
theorem d169_21 : decode (pm_code 169) 21 = .ok (.istore 7, 2) := by decide +kernel
theorem d169_23 : decode (pm_code 169) 23 = .ok (.iload 7, 2) := by decide +kernel
theorem d169_25 : decode (pm_code 169) 25 = .ok (.aload_n 0, 1) := by decide +kernel
theorem d169_26 : decode (pm_code 169) 26 = .ok (.getfield 241, 3) := by decide +kernel
theorem d169_29 : decode (pm_code 169) 29 = .ok (.if_icmp .ge 44, 3) := by decide +kernel
theorem d169_32 : decode (pm_code 169) 32 = .ok (.aload_n 0, 1) := by decide +kernel
theorem d169_33 : decode (pm_code 169) 33 = .ok (.iload 7, 2) := by decide +kernel
theorem d169_35 : decode (pm_code 169) 35 = .ok (.invokevirtual 262, 3) := by decide +kernel
theorem d169_38 : decode (pm_code 169) 38 = .ok (.aload_n 0, 1) := by decide +kernel
theorem d169_39 : decode (pm_code 169) 39 = .ok (.getfield 90, 3) := by decide +kernel
theorem d169_42 : decode (pm_code 169) 42 = .ok (.iload 7, 2) := by decide +kernel
theorem d169_44 : decode (pm_code 169) 44 = .ok (.iaload, 1) := by decide +kernel
theorem d169_45 : decode (pm_code 169) 45 = .ok (.bipush (-2), 2) := by decide +kernel
theorem d169_47 : decode (pm_code 169) 47 = .ok (.if_icmp .ne 20, 3) := by decide +kernel
theorem d169_50 : decode (pm_code 169) 50 = .ok (.aload_n 0, 1) := by decide +kernel
theorem d169_51 : decode (pm_code 169) 51 = .ok (.getfield 90, 3) := by decide +kernel
theorem d169_54 : decode (pm_code 169) 54 = .ok (.iload 7, 2) := by decide +kernel
theorem d169_56 : decode (pm_code 169) 56 = .ok (.iconst (-1), 1) := by decide +kernel
theorem d169_57 : decode (pm_code 169) 57 = .ok (.iastore, 1) := by decide +kernel
theorem d169_58 : decode (pm_code 169) 58 = .ok (.aload_n 0, 1) := by decide +kernel
theorem d169_59 : decode (pm_code 169) 59 = .ok (.iload 7, 2) := by decide +kernel
theorem d169_61 : decode (pm_code 169) 61 = .ok (.invokevirtual 262, 3) := by decide +kernel
theorem d169_64 : decode (pm_code 169) 64 = .ok (.goto (-26), 3) := by decide +kernel
theorem d169_67 : decode (pm_code 169) 67 = .ok (.iinc 7 1, 3) := by decide +kernel
theorem d169_70 : decode (pm_code 169) 70 = .ok (.goto (-47), 3) := by decide +kernel
theorem d169_73 : decode (pm_code 169) 73 = .ok (.aload_n 0, 1) := by decide +kernel
theorem d169_74 : decode (pm_code 169) 74 = .ok (.getfield 241, 3) := by decide +kernel
theorem d169_77 : decode (pm_code 169) 77 = .ok (.iconst 1, 1) := by decide +kernel
theorem d169_78 : decode (pm_code 169) 78 = .ok (.isub, 1) := by decide +kernel
theorem d169_79 : decode (pm_code 169) 79 = .ok (.istore 7, 2) := by decide +kernel
theorem d169_81 : decode (pm_code 169) 81 = .ok (.iload 7, 2) := by decide +kernel
theorem d169_83 : decode (pm_code 169) 83 = .ok (.ifCond .lt 25, 3) := by decide +kernel
theorem d169_86 : decode (pm_code 169) 86 = .ok (.aload_n 0, 1) := by decide +kernel
theorem d169_87 : decode (pm_code 169) 87 = .ok (.getfield 90, 3) := by decide +kernel
theorem d169_90 : decode (pm_code 169) 90 = .ok (.iload 7, 2) := by decide +kernel
theorem d169_92 : decode (pm_code 169) 92 = .ok (.iaload, 1) := by decide +kernel
theorem d169_93 : decode (pm_code 169) 93 = .ok (.ifCond .lt 9, 3) := by decide +kernel
theorem d169_96 : decode (pm_code 169) 96 = .ok (.aload_n 0, 1) := by decide +kernel
theorem d169_97 : decode (pm_code 169) 97 = .ok (.iload 7, 2) := by decide +kernel
theorem d169_99 : decode (pm_code 169) 99 = .ok (.invokevirtual 266, 3) := by decide +kernel
theorem d169_102 : decode (pm_code 169) 102 = .ok (.iinc 7 (-1), 3) := by decide +kernel
theorem d169_105 : decode (pm_code 169) 105 = .ok (.goto (-24), 3) := by decide +kernel
theorem d169_108 : decode (pm_code 169) 108 = .ok (.aload_n 0, 1) := by decide +kernel
theorem d169_109 : decode (pm_code 169) 109 = .ok (.getfield 96, 3) := by decide +kernel
theorem d169_112 : decode (pm_code 169) 112 = .ok (.iload 6, 2) := by decide +kernel
theorem d169_114 : decode (pm_code 169) 114 = .ok (.iaload, 1) := by decide +kernel
theorem d169_115 : decode (pm_code 169) 115 = .ok (.ireturn, 1) := by decide +kernel
theorem d170_0 : decode (pm_code 170) 0 = .ok (.iload_n 1, 1) := by decide +kernel
theorem d170_1 : decode (pm_code 170) 1 = .ok (.ifCond .lt 12, 3) := by decide +kernel
theorem d170_4 : decode (pm_code 170) 4 = .ok (.iload_n 1, 1) := by decide +kernel
theorem d170_5 : decode (pm_code 170) 5 = .ok (.iconst 3, 1) := by decide +kernel
theorem d170_6 : decode (pm_code 170) 6 = .ok (.if_icmp .gt 7, 3) := by decide +kernel
theorem d170_9 : decode (pm_code 170) 9 = .ok (.iconst 1, 1) := by decide +kernel
theorem d170_10 : decode (pm_code 170) 10 = .ok (.goto 4, 3) := by decide +kernel
theorem d170_13 : decode (pm_code 170) 13 = .ok (.iconst 0, 1) := by decide +kernel
theorem d170_14 : decode (pm_code 170) 14 = .ok (.ireturn, 1) := by decide +kernel
theorem d171_0 : decode (pm_code 171) 0 = .ok (.aload_n 0, 1) := by decide +kernel
theorem d171_1 : decode (pm_code 171) 1 = .ok (.iload_n 1, 1) := by decide +kernel
theorem d171_2 : decode (pm_code 171) 2 = .ok (.invokevirtual 269, 3) := by decide +kernel
theorem d171_5 : decode (pm_code 171) 5 = .ok (.ifCond .eq 16, 3) := by decide +kernel
theorem d171_8 : decode (pm_code 171) 8 = .ok (.aload_n 0, 1) := by decide +kernel
theorem d171_9 : decode (pm_code 171) 9 = .ok (.getfield 55, 3) := by decide +kernel
theorem d171_12 : decode (pm_code 171) 12 = .ok (.iload_n 1, 1) := by decide +kernel
theorem d171_13 : decode (pm_code 171) 13 = .ok (.baload, 1) := by decide +kernel
theorem d171_14 : decode (pm_code 171) 14 = .ok (.ifCond .eq 7, 3) := by decide +kernel
theorem d171_17 : decode (pm_code 171) 17 = .ok (.iconst 1, 1) := by decide +kernel
theorem d171_18 : decode (pm_code 171) 18 = .ok (.goto 4, 3) := by decide +kernel
theorem d171_21 : decode (pm_code 171) 21 = .ok (.iconst 0, 1) := by decide +kernel
theorem d171_22 : decode (pm_code 171) 22 = .ok (.ireturn, 1) := by decide +kernel
theorem d172_0 : decode (pm_code 172) 0 = .ok (.aload_n 0, 1) := by decide +kernel
theorem d172_1 : decode (pm_code 172) 1 = .ok (.sipush 132, 3) := by decide +kernel
theorem d172_4 : decode (pm_code 172) 4 = .ok (.putfield 59, 3) := by decide +kernel
theorem d172_7 : decode (pm_code 172) 7 = .ok (.aload_n 0, 1) := by decide +kernel
theorem d172_8 : decode (pm_code 172) 8 = .ok (.iconst 0, 1) := by decide +kernel
theorem d172_9 : decode (pm_code 172) 9 = .ok (.putfield 212, 3) := by decide +kernel
theorem d172_12 : decode (pm_code 172) 12 = .ok (.return_, 1) := by decide +kernel
