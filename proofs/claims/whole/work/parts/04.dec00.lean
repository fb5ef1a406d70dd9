/-! DECODE ROWS (by program) of methods 0 to 43. -/
theorem d0_0 : decode (pm_code 0) 0 = .ok (.aload_n 0, 1) := by decide +kernel
theorem d0_1 : decode (pm_code 0) 1 = .ok (.invokespecial 1, 3) := by decide +kernel
theorem d0_4 : decode (pm_code 0) 4 = .ok (.aload_n 0, 1) := by decide +kernel
theorem d0_5 : decode (pm_code 0) 5 = .ok (.bipush 60, 2) := by decide +kernel
theorem d0_7 : decode (pm_code 0) 7 = .ok (.newarray .char, 2) := by decide +kernel
theorem d0_9 : decode (pm_code 0) 9 = .ok (.putfield 9, 3) := by decide +kernel
theorem d0_12 : decode (pm_code 0) 12 = .ok (.aload_n 0, 1) := by decide +kernel
theorem d0_13 : decode (pm_code 0) 13 = .ok (.iconst 4, 1) := by decide +kernel
theorem d0_14 : decode (pm_code 0) 14 = .ok (.anewarray 13, 3) := by decide +kernel
theorem d0_17 : decode (pm_code 0) 17 = .ok (.putfield 15, 3) := by decide +kernel
theorem d0_20 : decode (pm_code 0) 20 = .ok (.aload_n 0, 1) := by decide +kernel
theorem d0_21 : decode (pm_code 0) 21 = .ok (.new 13, 3) := by decide +kernel
theorem d0_24 : decode (pm_code 0) 24 = .ok (.dup, 1) := by decide +kernel
theorem d0_25 : decode (pm_code 0) 25 = .ok (.invokespecial 19, 3) := by decide +kernel
theorem d0_28 : decode (pm_code 0) 28 = .ok (.putfield 20, 3) := by decide +kernel
theorem d0_31 : decode (pm_code 0) 31 = .ok (.aload_n 0, 1) := by decide +kernel
theorem d0_32 : decode (pm_code 0) 32 = .ok (.new 24, 3) := by decide +kernel
theorem d0_35 : decode (pm_code 0) 35 = .ok (.dup, 1) := by decide +kernel
theorem d0_36 : decode (pm_code 0) 36 = .ok (.invokespecial 26, 3) := by decide +kernel
theorem d0_39 : decode (pm_code 0) 39 = .ok (.putfield 27, 3) := by decide +kernel
theorem d0_42 : decode (pm_code 0) 42 = .ok (.aload_n 0, 1) := by decide +kernel
theorem d0_43 : decode (pm_code 0) 43 = .ok (.new 31, 3) := by decide +kernel
theorem d0_46 : decode (pm_code 0) 46 = .ok (.dup, 1) := by decide +kernel
theorem d0_47 : decode (pm_code 0) 47 = .ok (.invokespecial 33, 3) := by decide +kernel
theorem d0_50 : decode (pm_code 0) 50 = .ok (.putfield 34, 3) := by decide +kernel
theorem d0_53 : decode (pm_code 0) 53 = .ok (.aload_n 0, 1) := by decide +kernel
theorem d0_54 : decode (pm_code 0) 54 = .ok (.new 38, 3) := by decide +kernel
theorem d0_57 : decode (pm_code 0) 57 = .ok (.dup, 1) := by decide +kernel
theorem d0_58 : decode (pm_code 0) 58 = .ok (.invokespecial 40, 3) := by decide +kernel
theorem d0_61 : decode (pm_code 0) 61 = .ok (.putfield 41, 3) := by decide +kernel
theorem d0_64 : decode (pm_code 0) 64 = .ok (.aload_n 0, 1) := by decide +kernel
theorem d0_65 : decode (pm_code 0) 65 = .ok (.new 38, 3) := by decide +kernel
theorem d0_68 : decode (pm_code 0) 68 = .ok (.dup, 1) := by decide +kernel
theorem d0_69 : decode (pm_code 0) 69 = .ok (.invokespecial 40, 3) := by decide +kernel
theorem d0_72 : decode (pm_code 0) 72 = .ok (.putfield 45, 3) := by decide +kernel
theorem d0_75 : decode (pm_code 0) 75 = .ok (.aload_n 0, 1) := by decide +kernel
theorem d0_76 : decode (pm_code 0) 76 = .ok (.iconst (-1), 1) := by decide +kernel
theorem d0_77 : decode (pm_code 0) 77 = .ok (.putfield 48, 3) := by decide +kernel
theorem d0_80 : decode (pm_code 0) 80 = .ok (.iconst 0, 1) := by decide +kernel
theorem d0_81 : decode (pm_code 0) 81 = .ok (.istore_n 1, 1) := by decide +kernel
theorem d0_82 : decode (pm_code 0) 82 = .ok (.iload_n 1, 1) := by decide +kernel
theorem d0_83 : decode (pm_code 0) 83 = .ok (.iconst 4, 1) := by decide +kernel
theorem d0_84 : decode (pm_code 0) 84 = .ok (.if_icmp .ge 22, 3) := by decide +kernel
theorem d0_87 : decode (pm_code 0) 87 = .ok (.aload_n 0, 1) := by decide +kernel
theorem d0_88 : decode (pm_code 0) 88 = .ok (.getfield 15, 3) := by decide +kernel
theorem d0_91 : decode (pm_code 0) 91 = .ok (.iload_n 1, 1) := by decide +kernel
theorem d0_92 : decode (pm_code 0) 92 = .ok (.new 13, 3) := by decide +kernel
theorem d0_95 : decode (pm_code 0) 95 = .ok (.dup, 1) := by decide +kernel
theorem d0_96 : decode (pm_code 0) 96 = .ok (.invokespecial 19, 3) := by decide +kernel
theorem d0_99 : decode (pm_code 0) 99 = .ok (.aastore, 1) := by decide +kernel
theorem d0_100 : decode (pm_code 0) 100 = .ok (.iinc 1 1, 3) := by decide +kernel
theorem d0_103 : decode (pm_code 0) 103 = .ok (.goto (-21), 3) := by decide +kernel
theorem d0_106 : decode (pm_code 0) 106 = .ok (.aload_n 0, 1) := by decide +kernel
theorem d0_107 : decode (pm_code 0) 107 = .ok (.new 52, 3) := by decide +kernel
theorem d0_110 : decode (pm_code 0) 110 = .ok (.dup, 1) := by decide +kernel
theorem d0_111 : decode (pm_code 0) 111 = .ok (.aload_n 0, 1) := by decide +kernel
theorem d0_112 : decode (pm_code 0) 112 = .ok (.getfield 27, 3) := by decide +kernel
theorem d0_115 : decode (pm_code 0) 115 = .ok (.aload_n 0, 1) := by decide +kernel
theorem d0_116 : decode (pm_code 0) 116 = .ok (.getfield 9, 3) := by decide +kernel
theorem d0_119 : decode (pm_code 0) 119 = .ok (.aload_n 0, 1) := by decide +kernel
theorem d0_120 : decode (pm_code 0) 120 = .ok (.getfield 45, 3) := by decide +kernel
theorem d0_123 : decode (pm_code 0) 123 = .ok (.invokespecial 54, 3) := by decide +kernel
theorem d0_126 : decode (pm_code 0) 126 = .ok (.putfield 57, 3) := by decide +kernel
theorem d0_129 : decode (pm_code 0) 129 = .ok (.aload_n 0, 1) := by decide +kernel
theorem d0_130 : decode (pm_code 0) 130 = .ok (.new 61, 3) := by decide +kernel
theorem d0_133 : decode (pm_code 0) 133 = .ok (.dup, 1) := by decide +kernel
theorem d0_134 : decode (pm_code 0) 134 = .ok (.aload_n 0, 1) := by decide +kernel
theorem d0_135 : decode (pm_code 0) 135 = .ok (.getfield 27, 3) := by decide +kernel
theorem d0_138 : decode (pm_code 0) 138 = .ok (.aload_n 0, 1) := by decide +kernel
theorem d0_139 : decode (pm_code 0) 139 = .ok (.getfield 41, 3) := by decide +kernel
theorem d0_142 : decode (pm_code 0) 142 = .ok (.invokespecial 63, 3) := by decide +kernel
theorem d0_145 : decode (pm_code 0) 145 = .ok (.putfield 66, 3) := by decide +kernel
theorem d0_148 : decode (pm_code 0) 148 = .ok (.aload_n 0, 1) := by decide +kernel
theorem d0_149 : decode (pm_code 0) 149 = .ok (.new 70, 3) := by decide +kernel
theorem d0_152 : decode (pm_code 0) 152 = .ok (.dup, 1) := by decide +kernel
theorem d0_153 : decode (pm_code 0) 153 = .ok (.aload_n 0, 1) := by decide +kernel
theorem d0_154 : decode (pm_code 0) 154 = .ok (.getfield 41, 3) := by decide +kernel
theorem d0_157 : decode (pm_code 0) 157 = .ok (.invokespecial 72, 3) := by decide +kernel
theorem d0_160 : decode (pm_code 0) 160 = .ok (.putfield 75, 3) := by decide +kernel
theorem d0_163 : decode (pm_code 0) 163 = .ok (.return_, 1) := by decide +kernel
theorem d1_0 : decode (pm_code 1) 0 = .ok (.iload_n 1, 1) := by decide +kernel
theorem d1_1 : decode (pm_code 1) 1 = .ok (.bipush 32, 2) := by decide +kernel
theorem d1_3 : decode (pm_code 1) 3 = .ok (.if_icmp .lt 18, 3) := by decide +kernel
theorem d1_6 : decode (pm_code 1) 6 = .ok (.iload_n 1, 1) := by decide +kernel
theorem d1_7 : decode (pm_code 1) 7 = .ok (.bipush 126, 2) := by decide +kernel
theorem d1_9 : decode (pm_code 1) 9 = .ok (.if_icmp .gt 12, 3) := by decide +kernel
theorem d1_12 : decode (pm_code 1) 12 = .ok (.aload_n 0, 1) := by decide +kernel
theorem d1_13 : decode (pm_code 1) 13 = .ok (.getfield 79, 3) := by decide +kernel
theorem d1_16 : decode (pm_code 1) 16 = .ok (.bipush 60, 2) := by decide +kernel
theorem d1_18 : decode (pm_code 1) 18 = .ok (.if_icmp .lt 5, 3) := by decide +kernel
theorem d1_21 : decode (pm_code 1) 21 = .ok (.iconst 0, 1) := by decide +kernel
theorem d1_22 : decode (pm_code 1) 22 = .ok (.ireturn, 1) := by decide +kernel
theorem d1_23 : decode (pm_code 1) 23 = .ok (.aload_n 0, 1) := by decide +kernel
theorem d1_24 : decode (pm_code 1) 24 = .ok (.getfield 9, 3) := by decide +kernel
theorem d1_27 : decode (pm_code 1) 27 = .ok (.aload_n 0, 1) := by decide +kernel
theorem d1_28 : decode (pm_code 1) 28 = .ok (.getfield 79, 3) := by decide +kernel
theorem d1_31 : decode (pm_code 1) 31 = .ok (.iload_n 1, 1) := by decide +kernel
theorem d1_32 : decode (pm_code 1) 32 = .ok (.castore, 1) := by decide +kernel
theorem d1_33 : decode (pm_code 1) 33 = .ok (.aload_n 0, 1) := by decide +kernel
theorem d1_34 : decode (pm_code 1) 34 = .ok (.dup, 1) := by decide +kernel
theorem d1_35 : decode (pm_code 1) 35 = .ok (.getfield 79, 3) := by decide +kernel
theorem d1_38 : decode (pm_code 1) 38 = .ok (.iconst 1, 1) := by decide +kernel
theorem d1_39 : decode (pm_code 1) 39 = .ok (.iadd, 1) := by decide +kernel
theorem d1_40 : decode (pm_code 1) 40 = .ok (.putfield 79, 3) := by decide +kernel
theorem d1_43 : decode (pm_code 1) 43 = .ok (.iconst 1, 1) := by decide +kernel
theorem d1_44 : decode (pm_code 1) 44 = .ok (.ireturn, 1) := by decide +kernel
theorem d2_0 : decode (pm_code 2) 0 = .ok (.iload_n 1, 1) := by decide +kernel
theorem d2_1 : decode (pm_code 2) 1 = .ok (.invokestatic 82, 3) := by decide +kernel
theorem d2_4 : decode (pm_code 2) 4 = .ok (.ifCond .ne 6, 3) := by decide +kernel
theorem d2_7 : decode (pm_code 2) 7 = .ok (.bipush (-2), 2) := by decide +kernel
theorem d2_9 : decode (pm_code 2) 9 = .ok (.ireturn, 1) := by decide +kernel
theorem d2_10 : decode (pm_code 2) 10 = .ok (.aload_n 0, 1) := by decide +kernel
theorem d2_11 : decode (pm_code 2) 11 = .ok (.getfield 27, 3) := by decide +kernel
theorem d2_14 : decode (pm_code 2) 14 = .ok (.invokevirtual 86, 3) := by decide +kernel
theorem d2_17 : decode (pm_code 2) 17 = .ok (.aload_n 0, 1) := by decide +kernel
theorem d2_18 : decode (pm_code 2) 18 = .ok (.getfield 57, 3) := by decide +kernel
theorem d2_21 : decode (pm_code 2) 21 = .ok (.aload_n 0, 1) := by decide +kernel
theorem d2_22 : decode (pm_code 2) 22 = .ok (.getfield 79, 3) := by decide +kernel
theorem d2_25 : decode (pm_code 2) 25 = .ok (.invokevirtual 89, 3) := by decide +kernel
theorem d2_28 : decode (pm_code 2) 28 = .ok (.istore_n 2, 1) := by decide +kernel
theorem d2_29 : decode (pm_code 2) 29 = .ok (.aload_n 0, 1) := by decide +kernel
theorem d2_30 : decode (pm_code 2) 30 = .ok (.iconst 0, 1) := by decide +kernel
theorem d2_31 : decode (pm_code 2) 31 = .ok (.putfield 79, 3) := by decide +kernel
theorem d2_34 : decode (pm_code 2) 34 = .ok (.aload_n 0, 1) := by decide +kernel
theorem d2_35 : decode (pm_code 2) 35 = .ok (.getfield 57, 3) := by decide +kernel
theorem d2_38 : decode (pm_code 2) 38 = .ok (.getfield 93, 3) := by decide +kernel
theorem d2_41 : decode (pm_code 2) 41 = .ok (.iconst (-1), 1) := by decide +kernel
theorem d2_42 : decode (pm_code 2) 42 = .ok (.if_icmp .eq 11, 3) := by decide +kernel
theorem d2_45 : decode (pm_code 2) 45 = .ok (.aload_n 0, 1) := by decide +kernel
theorem d2_46 : decode (pm_code 2) 46 = .ok (.getfield 57, 3) := by decide +kernel
theorem d2_49 : decode (pm_code 2) 49 = .ok (.getfield 93, 3) := by decide +kernel
theorem d2_52 : decode (pm_code 2) 52 = .ok (.ireturn, 1) := by decide +kernel
theorem d2_53 : decode (pm_code 2) 53 = .ok (.aload_n 0, 1) := by decide +kernel
theorem d2_54 : decode (pm_code 2) 54 = .ok (.getfield 57, 3) := by decide +kernel
theorem d2_57 : decode (pm_code 2) 57 = .ok (.getfield 96, 3) := by decide +kernel
theorem d2_60 : decode (pm_code 2) 60 = .ok (.ifCond .eq 13, 3) := by decide +kernel
theorem d2_63 : decode (pm_code 2) 63 = .ok (.aload_n 0, 1) := by decide +kernel
theorem d2_64 : decode (pm_code 2) 64 = .ok (.getfield 57, 3) := by decide +kernel
theorem d2_67 : decode (pm_code 2) 67 = .ok (.getfield 100, 3) := by decide +kernel
theorem d2_70 : decode (pm_code 2) 70 = .ok (.ifCond .eq 6, 3) := by decide +kernel
theorem d2_73 : decode (pm_code 2) 73 = .ok (.bipush (-2), 2) := by decide +kernel
theorem d2_75 : decode (pm_code 2) 75 = .ok (.ireturn, 1) := by decide +kernel
theorem d2_76 : decode (pm_code 2) 76 = .ok (.aload_n 0, 1) := by decide +kernel
theorem d2_77 : decode (pm_code 2) 77 = .ok (.getfield 27, 3) := by decide +kernel
theorem d2_80 : decode (pm_code 2) 80 = .ok (.iload_n 2, 1) := by decide +kernel
theorem d2_81 : decode (pm_code 2) 81 = .ok (.aload_n 0, 1) := by decide +kernel
theorem d2_82 : decode (pm_code 2) 82 = .ok (.getfield 15, 3) := by decide +kernel
theorem d2_85 : decode (pm_code 2) 85 = .ok (.iload_n 1, 1) := by decide +kernel
theorem d2_86 : decode (pm_code 2) 86 = .ok (.aaload, 1) := by decide +kernel
theorem d2_87 : decode (pm_code 2) 87 = .ok (.invokevirtual 103, 3) := by decide +kernel
theorem d2_90 : decode (pm_code 2) 90 = .ok (.iconst (-1), 1) := by decide +kernel
theorem d2_91 : decode (pm_code 2) 91 = .ok (.ireturn, 1) := by decide +kernel
theorem d3_0 : decode (pm_code 3) 0 = .ok (.aload_n 0, 1) := by decide +kernel
theorem d3_1 : decode (pm_code 3) 1 = .ok (.getfield 27, 3) := by decide +kernel
theorem d3_4 : decode (pm_code 3) 4 = .ok (.invokevirtual 86, 3) := by decide +kernel
theorem d3_7 : decode (pm_code 3) 7 = .ok (.aload_n 0, 1) := by decide +kernel
theorem d3_8 : decode (pm_code 3) 8 = .ok (.getfield 57, 3) := by decide +kernel
theorem d3_11 : decode (pm_code 3) 11 = .ok (.aload_n 0, 1) := by decide +kernel
theorem d3_12 : decode (pm_code 3) 12 = .ok (.getfield 79, 3) := by decide +kernel
theorem d3_15 : decode (pm_code 3) 15 = .ok (.aload_n 0, 1) := by decide +kernel
theorem d3_16 : decode (pm_code 3) 16 = .ok (.getfield 45, 3) := by decide +kernel
theorem d3_19 : decode (pm_code 3) 19 = .ok (.invokevirtual 107, 3) := by decide +kernel
theorem d3_22 : decode (pm_code 3) 22 = .ok (.aload_n 0, 1) := by decide +kernel
theorem d3_23 : decode (pm_code 3) 23 = .ok (.iconst 0, 1) := by decide +kernel
theorem d3_24 : decode (pm_code 3) 24 = .ok (.putfield 79, 3) := by decide +kernel
theorem d3_27 : decode (pm_code 3) 27 = .ok (.aload_n 0, 1) := by decide +kernel
theorem d3_28 : decode (pm_code 3) 28 = .ok (.getfield 57, 3) := by decide +kernel
theorem d3_31 : decode (pm_code 3) 31 = .ok (.getfield 93, 3) := by decide +kernel
theorem d3_34 : decode (pm_code 3) 34 = .ok (.iconst (-1), 1) := by decide +kernel
theorem d3_35 : decode (pm_code 3) 35 = .ok (.if_icmp .eq 11, 3) := by decide +kernel
theorem d3_38 : decode (pm_code 3) 38 = .ok (.aload_n 0, 1) := by decide +kernel
theorem d3_39 : decode (pm_code 3) 39 = .ok (.getfield 57, 3) := by decide +kernel
theorem d3_42 : decode (pm_code 3) 42 = .ok (.getfield 93, 3) := by decide +kernel
theorem d3_45 : decode (pm_code 3) 45 = .ok (.ireturn, 1) := by decide +kernel
theorem d3_46 : decode (pm_code 3) 46 = .ok (.aload_n 0, 1) := by decide +kernel
theorem d3_47 : decode (pm_code 3) 47 = .ok (.getfield 57, 3) := by decide +kernel
theorem d3_50 : decode (pm_code 3) 50 = .ok (.getfield 96, 3) := by decide +kernel
theorem d3_53 : decode (pm_code 3) 53 = .ok (.ifCond .eq 13, 3) := by decide +kernel
theorem d3_56 : decode (pm_code 3) 56 = .ok (.aload_n 0, 1) := by decide +kernel
theorem d3_57 : decode (pm_code 3) 57 = .ok (.getfield 57, 3) := by decide +kernel
theorem d3_60 : decode (pm_code 3) 60 = .ok (.getfield 100, 3) := by decide +kernel
theorem d3_63 : decode (pm_code 3) 63 = .ok (.ifCond .eq 6, 3) := by decide +kernel
theorem d3_66 : decode (pm_code 3) 66 = .ok (.bipush (-2), 2) := by decide +kernel
theorem d3_68 : decode (pm_code 3) 68 = .ok (.ireturn, 1) := by decide +kernel
theorem d3_69 : decode (pm_code 3) 69 = .ok (.aload_n 0, 1) := by decide +kernel
theorem d3_70 : decode (pm_code 3) 70 = .ok (.invokevirtual 111, 3) := by decide +kernel
theorem d3_73 : decode (pm_code 3) 73 = .ok (.aload_n 0, 1) := by decide +kernel
theorem d3_74 : decode (pm_code 3) 74 = .ok (.getfield 66, 3) := by decide +kernel
theorem d3_77 : decode (pm_code 3) 77 = .ok (.iconst 0, 1) := by decide +kernel
theorem d3_78 : decode (pm_code 3) 78 = .ok (.iconst 0, 1) := by decide +kernel
theorem d3_79 : decode (pm_code 3) 79 = .ok (.iconst 1, 1) := by decide +kernel
theorem d3_80 : decode (pm_code 3) 80 = .ok (.invokevirtual 114, 3) := by decide +kernel
theorem d3_83 : decode (pm_code 3) 83 = .ok (.istore_n 1, 1) := by decide +kernel
theorem d3_84 : decode (pm_code 3) 84 = .ok (.aload_n 0, 1) := by decide +kernel
theorem d3_85 : decode (pm_code 3) 85 = .ok (.aload_n 0, 1) := by decide +kernel
theorem d3_86 : decode (pm_code 3) 86 = .ok (.getfield 66, 3) := by decide +kernel
theorem d3_89 : decode (pm_code 3) 89 = .ok (.getfield 118, 3) := by decide +kernel
theorem d3_92 : decode (pm_code 3) 92 = .ok (.putfield 48, 3) := by decide +kernel
theorem d3_95 : decode (pm_code 3) 95 = .ok (.iload_n 1, 1) := by decide +kernel
theorem d3_96 : decode (pm_code 3) 96 = .ok (.iconst (-1), 1) := by decide +kernel
theorem d3_97 : decode (pm_code 3) 97 = .ok (.if_icmp .eq 15, 3) := by decide +kernel
theorem d3_100 : decode (pm_code 3) 100 = .ok (.aload_n 0, 1) := by decide +kernel
theorem d3_101 : decode (pm_code 3) 101 = .ok (.getfield 27, 3) := by decide +kernel
theorem d3_104 : decode (pm_code 3) 104 = .ok (.iload_n 1, 1) := by decide +kernel
theorem d3_105 : decode (pm_code 3) 105 = .ok (.aload_n 0, 1) := by decide +kernel
theorem d3_106 : decode (pm_code 3) 106 = .ok (.getfield 20, 3) := by decide +kernel
theorem d3_109 : decode (pm_code 3) 109 = .ok (.invokevirtual 103, 3) := by decide +kernel
theorem d3_112 : decode (pm_code 3) 112 = .ok (.iconst (-1), 1) := by decide +kernel
theorem d3_113 : decode (pm_code 3) 113 = .ok (.ireturn, 1) := by decide +kernel
theorem d4_0 : decode (pm_code 4) 0 = .ok (.aload_n 0, 1) := by decide +kernel
theorem d4_1 : decode (pm_code 4) 1 = .ok (.iload_n 1, 1) := by decide +kernel
theorem d4_2 : decode (pm_code 4) 2 = .ok (.invokevirtual 119, 3) := by decide +kernel
theorem d4_5 : decode (pm_code 4) 5 = .ok (.ifCond .eq 11, 3) := by decide +kernel
theorem d4_8 : decode (pm_code 4) 8 = .ok (.aload_n 0, 1) := by decide +kernel
theorem d4_9 : decode (pm_code 4) 9 = .ok (.iload_n 2, 1) := by decide +kernel
theorem d4_10 : decode (pm_code 4) 10 = .ok (.invokevirtual 119, 3) := by decide +kernel
theorem d4_13 : decode (pm_code 4) 13 = .ok (.ifCond .ne 6, 3) := by decide +kernel
theorem d4_16 : decode (pm_code 4) 16 = .ok (.bipush (-2), 2) := by decide +kernel
theorem d4_18 : decode (pm_code 4) 18 = .ok (.ireturn, 1) := by decide +kernel
theorem d4_19 : decode (pm_code 4) 19 = .ok (.aload_n 0, 1) := by decide +kernel
theorem d4_20 : decode (pm_code 4) 20 = .ok (.aload_n 0, 1) := by decide +kernel
theorem d4_21 : decode (pm_code 4) 21 = .ok (.getfield 15, 3) := by decide +kernel
theorem d4_24 : decode (pm_code 4) 24 = .ok (.iload_n 1, 1) := by decide +kernel
theorem d4_25 : decode (pm_code 4) 25 = .ok (.aaload, 1) := by decide +kernel
theorem d4_26 : decode (pm_code 4) 26 = .ok (.aload_n 0, 1) := by decide +kernel
theorem d4_27 : decode (pm_code 4) 27 = .ok (.getfield 15, 3) := by decide +kernel
theorem d4_30 : decode (pm_code 4) 30 = .ok (.iload_n 2, 1) := by decide +kernel
theorem d4_31 : decode (pm_code 4) 31 = .ok (.aaload, 1) := by decide +kernel
theorem d4_32 : decode (pm_code 4) 32 = .ok (.invokevirtual 122, 3) := by decide +kernel
theorem d4_35 : decode (pm_code 4) 35 = .ok (.ifCond .eq 7, 3) := by decide +kernel
theorem d4_38 : decode (pm_code 4) 38 = .ok (.iconst 1, 1) := by decide +kernel
theorem d4_39 : decode (pm_code 4) 39 = .ok (.goto 4, 3) := by decide +kernel
theorem d4_42 : decode (pm_code 4) 42 = .ok (.iconst 0, 1) := by decide +kernel
theorem d4_43 : decode (pm_code 4) 43 = .ok (.ireturn, 1) := by decide +kernel
theorem d5_0 : decode (pm_code 5) 0 = .ok (.aload_n 0, 1) := by decide +kernel
theorem d5_1 : decode (pm_code 5) 1 = .ok (.iload_n 1, 1) := by decide +kernel
theorem d5_2 : decode (pm_code 5) 2 = .ok (.invokevirtual 119, 3) := by decide +kernel
theorem d5_5 : decode (pm_code 5) 5 = .ok (.ifCond .eq 11, 3) := by decide +kernel
theorem d5_8 : decode (pm_code 5) 8 = .ok (.aload_n 0, 1) := by decide +kernel
theorem d5_9 : decode (pm_code 5) 9 = .ok (.iload_n 2, 1) := by decide +kernel
theorem d5_10 : decode (pm_code 5) 10 = .ok (.invokevirtual 119, 3) := by decide +kernel
theorem d5_13 : decode (pm_code 5) 13 = .ok (.ifCond .ne 6, 3) := by decide +kernel
theorem d5_16 : decode (pm_code 5) 16 = .ok (.bipush (-2), 2) := by decide +kernel
theorem d5_18 : decode (pm_code 5) 18 = .ok (.ireturn, 1) := by decide +kernel
theorem d5_19 : decode (pm_code 5) 19 = .ok (.aload_n 0, 1) := by decide +kernel
theorem d5_20 : decode (pm_code 5) 20 = .ok (.getfield 27, 3) := by decide +kernel
theorem d5_23 : decode (pm_code 5) 23 = .ok (.invokevirtual 86, 3) := by decide +kernel
theorem d5_26 : decode (pm_code 5) 26 = .ok (.aload_n 0, 1) := by decide +kernel
theorem d5_27 : decode (pm_code 5) 27 = .ok (.getfield 27, 3) := by decide +kernel
theorem d5_30 : decode (pm_code 5) 30 = .ok (.aload_n 0, 1) := by decide +kernel
theorem d5_31 : decode (pm_code 5) 31 = .ok (.getfield 15, 3) := by decide +kernel
theorem d5_34 : decode (pm_code 5) 34 = .ok (.iload_n 1, 1) := by decide +kernel
theorem d5_35 : decode (pm_code 5) 35 = .ok (.aaload, 1) := by decide +kernel
theorem d5_36 : decode (pm_code 5) 36 = .ok (.invokevirtual 126, 3) := by decide +kernel
theorem d5_39 : decode (pm_code 5) 39 = .ok (.istore_n 3, 1) := by decide +kernel
theorem d5_40 : decode (pm_code 5) 40 = .ok (.aload_n 0, 1) := by decide +kernel
theorem d5_41 : decode (pm_code 5) 41 = .ok (.getfield 27, 3) := by decide +kernel
theorem d5_44 : decode (pm_code 5) 44 = .ok (.aload_n 0, 1) := by decide +kernel
theorem d5_45 : decode (pm_code 5) 45 = .ok (.getfield 15, 3) := by decide +kernel
theorem d5_48 : decode (pm_code 5) 48 = .ok (.iload_n 2, 1) := by decide +kernel
theorem d5_49 : decode (pm_code 5) 49 = .ok (.aaload, 1) := by decide +kernel
theorem d5_50 : decode (pm_code 5) 50 = .ok (.invokevirtual 126, 3) := by decide +kernel
theorem d5_53 : decode (pm_code 5) 53 = .ok (.istore 4, 2) := by decide +kernel
theorem d5_55 : decode (pm_code 5) 55 = .ok (.aload_n 0, 1) := by decide +kernel
theorem d5_56 : decode (pm_code 5) 56 = .ok (.getfield 27, 3) := by decide +kernel
theorem d5_59 : decode (pm_code 5) 59 = .ok (.iload_n 3, 1) := by decide +kernel
theorem d5_60 : decode (pm_code 5) 60 = .ok (.iload 4, 2) := by decide +kernel
theorem d5_62 : decode (pm_code 5) 62 = .ok (.iconst 0, 1) := by decide +kernel
theorem d5_63 : decode (pm_code 5) 63 = .ok (.invokevirtual 130, 3) := by decide +kernel
theorem d5_66 : decode (pm_code 5) 66 = .ok (.ifCond .eq 7, 3) := by decide +kernel
theorem d5_69 : decode (pm_code 5) 69 = .ok (.iconst 1, 1) := by decide +kernel
theorem d5_70 : decode (pm_code 5) 70 = .ok (.goto 4, 3) := by decide +kernel
theorem d5_73 : decode (pm_code 5) 73 = .ok (.iconst 0, 1) := by decide +kernel
theorem d5_74 : decode (pm_code 5) 74 = .ok (.ireturn, 1) := by decide +kernel
theorem d6_0 : decode (pm_code 6) 0 = .ok (.aload_n 0, 1) := by decide +kernel
theorem d6_1 : decode (pm_code 6) 1 = .ok (.iload_n 1, 1) := by decide +kernel
theorem d6_2 : decode (pm_code 6) 2 = .ok (.invokevirtual 119, 3) := by decide +kernel
theorem d6_5 : decode (pm_code 6) 5 = .ok (.ifCond .eq 18, 3) := by decide +kernel
theorem d6_8 : decode (pm_code 6) 8 = .ok (.aload_n 0, 1) := by decide +kernel
theorem d6_9 : decode (pm_code 6) 9 = .ok (.iload_n 2, 1) := by decide +kernel
theorem d6_10 : decode (pm_code 6) 10 = .ok (.invokevirtual 119, 3) := by decide +kernel
theorem d6_13 : decode (pm_code 6) 13 = .ok (.ifCond .eq 10, 3) := by decide +kernel
theorem d6_16 : decode (pm_code 6) 16 = .ok (.iload_n 3, 1) := by decide +kernel
theorem d6_17 : decode (pm_code 6) 17 = .ok (.invokestatic 82, 3) := by decide +kernel
theorem d6_20 : decode (pm_code 6) 20 = .ok (.ifCond .ne 6, 3) := by decide +kernel
theorem d6_23 : decode (pm_code 6) 23 = .ok (.bipush (-2), 2) := by decide +kernel
theorem d6_25 : decode (pm_code 6) 25 = .ok (.ireturn, 1) := by decide +kernel
theorem d6_26 : decode (pm_code 6) 26 = .ok (.aload_n 0, 1) := by decide +kernel
theorem d6_27 : decode (pm_code 6) 27 = .ok (.getfield 27, 3) := by decide +kernel
theorem d6_30 : decode (pm_code 6) 30 = .ok (.invokevirtual 86, 3) := by decide +kernel
theorem d6_33 : decode (pm_code 6) 33 = .ok (.aload_n 0, 1) := by decide +kernel
theorem d6_34 : decode (pm_code 6) 34 = .ok (.getfield 27, 3) := by decide +kernel
theorem d6_37 : decode (pm_code 6) 37 = .ok (.aload_n 0, 1) := by decide +kernel
theorem d6_38 : decode (pm_code 6) 38 = .ok (.getfield 15, 3) := by decide +kernel
theorem d6_41 : decode (pm_code 6) 41 = .ok (.iload_n 1, 1) := by decide +kernel
theorem d6_42 : decode (pm_code 6) 42 = .ok (.aaload, 1) := by decide +kernel
theorem d6_43 : decode (pm_code 6) 43 = .ok (.invokevirtual 126, 3) := by decide +kernel
theorem d6_46 : decode (pm_code 6) 46 = .ok (.istore 4, 2) := by decide +kernel
theorem d6_48 : decode (pm_code 6) 48 = .ok (.aload_n 0, 1) := by decide +kernel
theorem d6_49 : decode (pm_code 6) 49 = .ok (.getfield 27, 3) := by decide +kernel
theorem d6_52 : decode (pm_code 6) 52 = .ok (.aload_n 0, 1) := by decide +kernel
theorem d6_53 : decode (pm_code 6) 53 = .ok (.getfield 15, 3) := by decide +kernel
theorem d6_56 : decode (pm_code 6) 56 = .ok (.iload_n 2, 1) := by decide +kernel
theorem d6_57 : decode (pm_code 6) 57 = .ok (.aaload, 1) := by decide +kernel
theorem d6_58 : decode (pm_code 6) 58 = .ok (.invokevirtual 126, 3) := by decide +kernel
theorem d6_61 : decode (pm_code 6) 61 = .ok (.istore 5, 2) := by decide +kernel
theorem d6_63 : decode (pm_code 6) 63 = .ok (.aload_n 0, 1) := by decide +kernel
theorem d6_64 : decode (pm_code 6) 64 = .ok (.aload_n 0, 1) := by decide +kernel
theorem d6_65 : decode (pm_code 6) 65 = .ok (.getfield 27, 3) := by decide +kernel
theorem d6_68 : decode (pm_code 6) 68 = .ok (.iload 4, 2) := by decide +kernel
theorem d6_70 : decode (pm_code 6) 70 = .ok (.iload 5, 2) := by decide +kernel
theorem d6_72 : decode (pm_code 6) 72 = .ok (.iconst 0, 1) := by decide +kernel
theorem d6_73 : decode (pm_code 6) 73 = .ok (.iconst 0, 1) := by decide +kernel
theorem d6_74 : decode (pm_code 6) 74 = .ok (.invokevirtual 134, 3) := by decide +kernel
theorem d6_77 : decode (pm_code 6) 77 = .ok (.iload_n 3, 1) := by decide +kernel
theorem d6_78 : decode (pm_code 6) 78 = .ok (.invokevirtual 138, 3) := by decide +kernel
theorem d6_81 : decode (pm_code 6) 81 = .ok (.ireturn, 1) := by decide +kernel
theorem d7_0 : decode (pm_code 7) 0 = .ok (.aload_n 0, 1) := by decide +kernel
theorem d7_1 : decode (pm_code 7) 1 = .ok (.iload_n 1, 1) := by decide +kernel
theorem d7_2 : decode (pm_code 7) 2 = .ok (.invokevirtual 119, 3) := by decide +kernel
theorem d7_5 : decode (pm_code 7) 5 = .ok (.ifCond .eq 18, 3) := by decide +kernel
theorem d7_8 : decode (pm_code 7) 8 = .ok (.aload_n 0, 1) := by decide +kernel
theorem d7_9 : decode (pm_code 7) 9 = .ok (.iload_n 2, 1) := by decide +kernel
theorem d7_10 : decode (pm_code 7) 10 = .ok (.invokevirtual 119, 3) := by decide +kernel
theorem d7_13 : decode (pm_code 7) 13 = .ok (.ifCond .eq 10, 3) := by decide +kernel
theorem d7_16 : decode (pm_code 7) 16 = .ok (.iload_n 3, 1) := by decide +kernel
theorem d7_17 : decode (pm_code 7) 17 = .ok (.invokestatic 82, 3) := by decide +kernel
theorem d7_20 : decode (pm_code 7) 20 = .ok (.ifCond .ne 6, 3) := by decide +kernel
theorem d7_23 : decode (pm_code 7) 23 = .ok (.bipush (-2), 2) := by decide +kernel
theorem d7_25 : decode (pm_code 7) 25 = .ok (.ireturn, 1) := by decide +kernel
theorem d7_26 : decode (pm_code 7) 26 = .ok (.aload_n 0, 1) := by decide +kernel
theorem d7_27 : decode (pm_code 7) 27 = .ok (.getfield 27, 3) := by decide +kernel
theorem d7_30 : decode (pm_code 7) 30 = .ok (.invokevirtual 86, 3) := by decide +kernel
theorem d7_33 : decode (pm_code 7) 33 = .ok (.aload_n 0, 1) := by decide +kernel
theorem d7_34 : decode (pm_code 7) 34 = .ok (.getfield 27, 3) := by decide +kernel
theorem d7_37 : decode (pm_code 7) 37 = .ok (.aload_n 0, 1) := by decide +kernel
theorem d7_38 : decode (pm_code 7) 38 = .ok (.getfield 15, 3) := by decide +kernel
theorem d7_41 : decode (pm_code 7) 41 = .ok (.iload_n 1, 1) := by decide +kernel
theorem d7_42 : decode (pm_code 7) 42 = .ok (.aaload, 1) := by decide +kernel
theorem d7_43 : decode (pm_code 7) 43 = .ok (.invokevirtual 126, 3) := by decide +kernel
theorem d7_46 : decode (pm_code 7) 46 = .ok (.istore 4, 2) := by decide +kernel
theorem d7_48 : decode (pm_code 7) 48 = .ok (.aload_n 0, 1) := by decide +kernel
theorem d7_49 : decode (pm_code 7) 49 = .ok (.getfield 27, 3) := by decide +kernel
theorem d7_52 : decode (pm_code 7) 52 = .ok (.aload_n 0, 1) := by decide +kernel
theorem d7_53 : decode (pm_code 7) 53 = .ok (.getfield 15, 3) := by decide +kernel
theorem d7_56 : decode (pm_code 7) 56 = .ok (.iload_n 2, 1) := by decide +kernel
theorem d7_57 : decode (pm_code 7) 57 = .ok (.aaload, 1) := by decide +kernel
theorem d7_58 : decode (pm_code 7) 58 = .ok (.invokevirtual 126, 3) := by decide +kernel
theorem d7_61 : decode (pm_code 7) 61 = .ok (.istore 5, 2) := by decide +kernel
theorem d7_63 : decode (pm_code 7) 63 = .ok (.aload_n 0, 1) := by decide +kernel
theorem d7_64 : decode (pm_code 7) 64 = .ok (.getfield 27, 3) := by decide +kernel
theorem d7_67 : decode (pm_code 7) 67 = .ok (.iload 4, 2) := by decide +kernel
theorem d7_69 : decode (pm_code 7) 69 = .ok (.iload 5, 2) := by decide +kernel
theorem d7_71 : decode (pm_code 7) 71 = .ok (.iconst 0, 1) := by decide +kernel
theorem d7_72 : decode (pm_code 7) 72 = .ok (.iconst 0, 1) := by decide +kernel
theorem d7_73 : decode (pm_code 7) 73 = .ok (.invokevirtual 142, 3) := by decide +kernel
theorem d7_76 : decode (pm_code 7) 76 = .ok (.istore 6, 2) := by decide +kernel
theorem d7_78 : decode (pm_code 7) 78 = .ok (.iload 6, 2) := by decide +kernel
theorem d7_80 : decode (pm_code 7) 80 = .ok (.iconst (-1), 1) := by decide +kernel
theorem d7_81 : decode (pm_code 7) 81 = .ok (.if_icmp .ne 7, 3) := by decide +kernel
theorem d7_84 : decode (pm_code 7) 84 = .ok (.iconst 0, 1) := by decide +kernel
theorem d7_85 : decode (pm_code 7) 85 = .ok (.goto 10, 3) := by decide +kernel
theorem d7_88 : decode (pm_code 7) 88 = .ok (.aload_n 0, 1) := by decide +kernel
theorem d7_89 : decode (pm_code 7) 89 = .ok (.iload 6, 2) := by decide +kernel
theorem d7_91 : decode (pm_code 7) 91 = .ok (.iload_n 3, 1) := by decide +kernel
theorem d7_92 : decode (pm_code 7) 92 = .ok (.invokevirtual 138, 3) := by decide +kernel
theorem d7_95 : decode (pm_code 7) 95 = .ok (.ireturn, 1) := by decide +kernel
theorem d8_0 : decode (pm_code 8) 0 = .ok (.aload_n 0, 1) := by decide +kernel
theorem d8_1 : decode (pm_code 8) 1 = .ok (.iload_n 1, 1) := by decide +kernel
theorem d8_2 : decode (pm_code 8) 2 = .ok (.invokevirtual 119, 3) := by decide +kernel
theorem d8_5 : decode (pm_code 8) 5 = .ok (.ifCond .eq 15, 3) := by decide +kernel
theorem d8_8 : decode (pm_code 8) 8 = .ok (.aload_n 0, 1) := by decide +kernel
theorem d8_9 : decode (pm_code 8) 9 = .ok (.getfield 15, 3) := by decide +kernel
theorem d8_12 : decode (pm_code 8) 12 = .ok (.iload_n 1, 1) := by decide +kernel
theorem d8_13 : decode (pm_code 8) 13 = .ok (.aaload, 1) := by decide +kernel
theorem d8_14 : decode (pm_code 8) 14 = .ok (.getfield 145, 3) := by decide +kernel
theorem d8_17 : decode (pm_code 8) 17 = .ok (.goto 4, 3) := by decide +kernel
theorem d8_20 : decode (pm_code 8) 20 = .ok (.iconst 0, 1) := by decide +kernel
theorem d8_21 : decode (pm_code 8) 21 = .ok (.ireturn, 1) := by decide +kernel
theorem d9_0 : decode (pm_code 9) 0 = .ok (.aload_n 0, 1) := by decide +kernel
theorem d9_1 : decode (pm_code 9) 1 = .ok (.iload_n 1, 1) := by decide +kernel
theorem d9_2 : decode (pm_code 9) 2 = .ok (.invokevirtual 119, 3) := by decide +kernel
theorem d9_5 : decode (pm_code 9) 5 = .ok (.ifCond .ne 6, 3) := by decide +kernel
theorem d9_8 : decode (pm_code 9) 8 = .ok (.bipush (-2), 2) := by decide +kernel
theorem d9_10 : decode (pm_code 9) 10 = .ok (.ireturn, 1) := by decide +kernel
theorem d9_11 : decode (pm_code 9) 11 = .ok (.aload_n 0, 1) := by decide +kernel
theorem d9_12 : decode (pm_code 9) 12 = .ok (.getfield 27, 3) := by decide +kernel
theorem d9_15 : decode (pm_code 9) 15 = .ok (.invokevirtual 86, 3) := by decide +kernel
theorem d9_18 : decode (pm_code 9) 18 = .ok (.aload_n 0, 1) := by decide +kernel
theorem d9_19 : decode (pm_code 9) 19 = .ok (.getfield 34, 3) := by decide +kernel
theorem d9_22 : decode (pm_code 9) 22 = .ok (.invokevirtual 148, 3) := by decide +kernel
theorem d9_25 : decode (pm_code 9) 25 = .ok (.aload_n 0, 1) := by decide +kernel
theorem d9_26 : decode (pm_code 9) 26 = .ok (.getfield 27, 3) := by decide +kernel
theorem d9_29 : decode (pm_code 9) 29 = .ok (.aload_n 0, 1) := by decide +kernel
theorem d9_30 : decode (pm_code 9) 30 = .ok (.getfield 34, 3) := by decide +kernel
theorem d9_33 : decode (pm_code 9) 33 = .ok (.aload_n 0, 1) := by decide +kernel
theorem d9_34 : decode (pm_code 9) 34 = .ok (.getfield 27, 3) := by decide +kernel
theorem d9_37 : decode (pm_code 9) 37 = .ok (.aload_n 0, 1) := by decide +kernel
theorem d9_38 : decode (pm_code 9) 38 = .ok (.getfield 15, 3) := by decide +kernel
theorem d9_41 : decode (pm_code 9) 41 = .ok (.iload_n 1, 1) := by decide +kernel
theorem d9_42 : decode (pm_code 9) 42 = .ok (.aaload, 1) := by decide +kernel
theorem d9_43 : decode (pm_code 9) 43 = .ok (.invokevirtual 126, 3) := by decide +kernel
theorem d9_46 : decode (pm_code 9) 46 = .ok (.iconst 0, 1) := by decide +kernel
theorem d9_47 : decode (pm_code 9) 47 = .ok (.iconst 0, 1) := by decide +kernel
theorem d9_48 : decode (pm_code 9) 48 = .ok (.invokevirtual 151, 3) := by decide +kernel
theorem d9_51 : decode (pm_code 9) 51 = .ok (.aload_n 0, 1) := by decide +kernel
theorem d9_52 : decode (pm_code 9) 52 = .ok (.getfield 34, 3) := by decide +kernel
theorem d9_55 : decode (pm_code 9) 55 = .ok (.invokevirtual 155, 3) := by decide +kernel
theorem d9_58 : decode (pm_code 9) 58 = .ok (.ireturn, 1) := by decide +kernel
theorem d10_0 : decode (pm_code 10) 0 = .ok (.iload_n 1, 1) := by decide +kernel
theorem d10_1 : decode (pm_code 10) 1 = .ok (.ifCond .lt 26, 3) := by decide +kernel
theorem d10_4 : decode (pm_code 10) 4 = .ok (.iload_n 1, 1) := by decide +kernel
theorem d10_5 : decode (pm_code 10) 5 = .ok (.aload_n 0, 1) := by decide +kernel
theorem d10_6 : decode (pm_code 10) 6 = .ok (.getfield 34, 3) := by decide +kernel
theorem d10_9 : decode (pm_code 10) 9 = .ok (.getfield 159, 3) := by decide +kernel
theorem d10_12 : decode (pm_code 10) 12 = .ok (.if_icmp .ge 15, 3) := by decide +kernel
theorem d10_15 : decode (pm_code 10) 15 = .ok (.aload_n 0, 1) := by decide +kernel
theorem d10_16 : decode (pm_code 10) 16 = .ok (.getfield 34, 3) := by decide +kernel
theorem d10_19 : decode (pm_code 10) 19 = .ok (.getfield 160, 3) := by decide +kernel
theorem d10_22 : decode (pm_code 10) 22 = .ok (.iload_n 1, 1) := by decide +kernel
theorem d10_23 : decode (pm_code 10) 23 = .ok (.caload, 1) := by decide +kernel
theorem d10_24 : decode (pm_code 10) 24 = .ok (.goto 4, 3) := by decide +kernel
theorem d10_27 : decode (pm_code 10) 27 = .ok (.iconst (-1), 1) := by decide +kernel
theorem d10_28 : decode (pm_code 10) 28 = .ok (.ireturn, 1) := by decide +kernel
theorem d11_0 : decode (pm_code 11) 0 = .ok (.aload_n 0, 1) := by decide +kernel
theorem d11_1 : decode (pm_code 11) 1 = .ok (.getfield 163, 3) := by decide +kernel
theorem d11_4 : decode (pm_code 11) 4 = .ok (.ifCond .eq 10, 3) := by decide +kernel
theorem d11_7 : decode (pm_code 11) 7 = .ok (.iload_n 1, 1) := by decide +kernel
theorem d11_8 : decode (pm_code 11) 8 = .ok (.invokestatic 82, 3) := by decide +kernel
theorem d11_11 : decode (pm_code 11) 11 = .ok (.ifCond .ne 6, 3) := by decide +kernel
theorem d11_14 : decode (pm_code 11) 14 = .ok (.bipush (-2), 2) := by decide +kernel
theorem d11_16 : decode (pm_code 11) 16 = .ok (.ireturn, 1) := by decide +kernel
theorem d11_17 : decode (pm_code 11) 17 = .ok (.aload_n 0, 1) := by decide +kernel
theorem d11_18 : decode (pm_code 11) 18 = .ok (.getfield 48, 3) := by decide +kernel
theorem d11_21 : decode (pm_code 11) 21 = .ok (.iconst (-1), 1) := by decide +kernel
theorem d11_22 : decode (pm_code 11) 22 = .ok (.if_icmp .ne 16, 3) := by decide +kernel
theorem d11_25 : decode (pm_code 11) 25 = .ok (.aload_n 0, 1) := by decide +kernel
theorem d11_26 : decode (pm_code 11) 26 = .ok (.getfield 15, 3) := by decide +kernel
theorem d11_29 : decode (pm_code 11) 29 = .ok (.iload_n 1, 1) := by decide +kernel
theorem d11_30 : decode (pm_code 11) 30 = .ok (.aaload, 1) := by decide +kernel
theorem d11_31 : decode (pm_code 11) 31 = .ok (.aload_n 0, 1) := by decide +kernel
theorem d11_32 : decode (pm_code 11) 32 = .ok (.getfield 20, 3) := by decide +kernel
theorem d11_35 : decode (pm_code 11) 35 = .ok (.invokevirtual 166, 3) := by decide +kernel
theorem d11_38 : decode (pm_code 11) 38 = .ok (.aload_n 0, 1) := by decide +kernel
theorem d11_39 : decode (pm_code 11) 39 = .ok (.getfield 48, 3) := by decide +kernel
theorem d11_42 : decode (pm_code 11) 42 = .ok (.ireturn, 1) := by decide +kernel
theorem d12_0 : decode (pm_code 12) 0 = .ok (.aload_n 0, 1) := by decide +kernel
theorem d12_1 : decode (pm_code 12) 1 = .ok (.invokevirtual 170, 3) := by decide +kernel
theorem d12_4 : decode (pm_code 12) 4 = .ok (.ifCond .eq 32, 3) := by decide +kernel
theorem d12_7 : decode (pm_code 12) 7 = .ok (.aload_n 0, 1) := by decide +kernel
theorem d12_8 : decode (pm_code 12) 8 = .ok (.iload_n 1, 1) := by decide +kernel
theorem d12_9 : decode (pm_code 12) 9 = .ok (.invokevirtual 119, 3) := by decide +kernel
theorem d12_12 : decode (pm_code 12) 12 = .ok (.ifCond .eq 24, 3) := by decide +kernel
theorem d12_15 : decode (pm_code 12) 15 = .ok (.aload_n 0, 1) := by decide +kernel
theorem d12_16 : decode (pm_code 12) 16 = .ok (.aload_n 0, 1) := by decide +kernel
theorem d12_17 : decode (pm_code 12) 17 = .ok (.getfield 20, 3) := by decide +kernel
theorem d12_20 : decode (pm_code 12) 20 = .ok (.aload_n 0, 1) := by decide +kernel
theorem d12_21 : decode (pm_code 12) 21 = .ok (.getfield 15, 3) := by decide +kernel
theorem d12_24 : decode (pm_code 12) 24 = .ok (.iload_n 1, 1) := by decide +kernel
theorem d12_25 : decode (pm_code 12) 25 = .ok (.aaload, 1) := by decide +kernel
theorem d12_26 : decode (pm_code 12) 26 = .ok (.invokevirtual 122, 3) := by decide +kernel
theorem d12_29 : decode (pm_code 12) 29 = .ok (.ifCond .eq 7, 3) := by decide +kernel
theorem d12_32 : decode (pm_code 12) 32 = .ok (.iconst 1, 1) := by decide +kernel
theorem d12_33 : decode (pm_code 12) 33 = .ok (.goto 4, 3) := by decide +kernel
theorem d12_36 : decode (pm_code 12) 36 = .ok (.iconst 0, 1) := by decide +kernel
theorem d12_37 : decode (pm_code 12) 37 = .ok (.ireturn, 1) := by decide +kernel
theorem d13_0 : decode (pm_code 13) 0 = .ok (.aload_n 0, 1) := by decide +kernel
theorem d13_1 : decode (pm_code 13) 1 = .ok (.invokevirtual 170, 3) := by decide +kernel
theorem d13_4 : decode (pm_code 13) 4 = .ok (.ifCond .ne 5, 3) := by decide +kernel
theorem d13_7 : decode (pm_code 13) 7 = .ok (.iconst 0, 1) := by decide +kernel
theorem d13_8 : decode (pm_code 13) 8 = .ok (.ireturn, 1) := by decide +kernel
theorem d13_9 : decode (pm_code 13) 9 = .ok (.aload_n 0, 1) := by decide +kernel
theorem d13_10 : decode (pm_code 13) 10 = .ok (.getfield 75, 3) := by decide +kernel
theorem d13_13 : decode (pm_code 13) 13 = .ok (.aload_n 0, 1) := by decide +kernel
theorem d13_14 : decode (pm_code 13) 14 = .ok (.getfield 41, 3) := by decide +kernel
theorem d13_17 : decode (pm_code 13) 17 = .ok (.invokevirtual 174, 3) := by decide +kernel
theorem d13_20 : decode (pm_code 13) 20 = .ok (.aload_n 0, 1) := by decide +kernel
theorem d13_21 : decode (pm_code 13) 21 = .ok (.iconst 1, 1) := by decide +kernel
theorem d13_22 : decode (pm_code 13) 22 = .ok (.putfield 177, 3) := by decide +kernel
theorem d13_25 : decode (pm_code 13) 25 = .ok (.aload_n 0, 1) := by decide +kernel
theorem d13_26 : decode (pm_code 13) 26 = .ok (.iconst 0, 1) := by decide +kernel
theorem d13_27 : decode (pm_code 13) 27 = .ok (.putfield 180, 3) := by decide +kernel
theorem d13_30 : decode (pm_code 13) 30 = .ok (.iconst 1, 1) := by decide +kernel
theorem d13_31 : decode (pm_code 13) 31 = .ok (.ireturn, 1) := by decide +kernel
theorem d14_0 : decode (pm_code 14) 0 = .ok (.aload_n 0, 1) := by decide +kernel
theorem d14_1 : decode (pm_code 14) 1 = .ok (.getfield 177, 3) := by decide +kernel
theorem d14_4 : decode (pm_code 14) 4 = .ok (.ifCond .eq 14, 3) := by decide +kernel
theorem d14_7 : decode (pm_code 14) 7 = .ok (.iload_n 1, 1) := by decide +kernel
theorem d14_8 : decode (pm_code 14) 8 = .ok (.iconst 1, 1) := by decide +kernel
theorem d14_9 : decode (pm_code 14) 9 = .ok (.if_icmp .lt 9, 3) := by decide +kernel
theorem d14_12 : decode (pm_code 14) 12 = .ok (.iload_n 1, 1) := by decide +kernel
theorem d14_13 : decode (pm_code 14) 13 = .ok (.bipush 20, 2) := by decide +kernel
theorem d14_15 : decode (pm_code 14) 15 = .ok (.if_icmp .le 6, 3) := by decide +kernel
theorem d14_18 : decode (pm_code 14) 18 = .ok (.bipush (-2), 2) := by decide +kernel
theorem d14_20 : decode (pm_code 14) 20 = .ok (.ireturn, 1) := by decide +kernel
theorem d14_21 : decode (pm_code 14) 21 = .ok (.iload_n 1, 1) := by decide +kernel
theorem d14_22 : decode (pm_code 14) 22 = .ok (.aload_n 0, 1) := by decide +kernel
theorem d14_23 : decode (pm_code 14) 23 = .ok (.getfield 75, 3) := by decide +kernel
theorem d14_26 : decode (pm_code 14) 26 = .ok (.getfield 183, 3) := by decide +kernel
theorem d14_29 : decode (pm_code 14) 29 = .ok (.aload_n 0, 1) := by decide +kernel
theorem d14_30 : decode (pm_code 14) 30 = .ok (.getfield 180, 3) := by decide +kernel
theorem d14_33 : decode (pm_code 14) 33 = .ok (.isub, 1) := by decide +kernel
theorem d14_34 : decode (pm_code 14) 34 = .ok (.invokestatic 186, 3) := by decide +kernel
theorem d14_37 : decode (pm_code 14) 37 = .ok (.istore_n 2, 1) := by decide +kernel
theorem d14_38 : decode (pm_code 14) 38 = .ok (.aload_n 0, 1) := by decide +kernel
theorem d14_39 : decode (pm_code 14) 39 = .ok (.dup, 1) := by decide +kernel
theorem d14_40 : decode (pm_code 14) 40 = .ok (.getfield 180, 3) := by decide +kernel
theorem d14_43 : decode (pm_code 14) 43 = .ok (.iload_n 2, 1) := by decide +kernel
theorem d14_44 : decode (pm_code 14) 44 = .ok (.iadd, 1) := by decide +kernel
theorem d14_45 : decode (pm_code 14) 45 = .ok (.putfield 180, 3) := by decide +kernel
theorem d14_48 : decode (pm_code 14) 48 = .ok (.iload_n 2, 1) := by decide +kernel
theorem d14_49 : decode (pm_code 14) 49 = .ok (.ireturn, 1) := by decide +kernel
theorem d15_0 : decode (pm_code 15) 0 = .ok (.aload_n 0, 1) := by decide +kernel
theorem d15_1 : decode (pm_code 15) 1 = .ok (.getfield 177, 3) := by decide +kernel
theorem d15_4 : decode (pm_code 15) 4 = .ok (.ifCond .eq 10, 3) := by decide +kernel
theorem d15_7 : decode (pm_code 15) 7 = .ok (.aload_n 0, 1) := by decide +kernel
theorem d15_8 : decode (pm_code 15) 8 = .ok (.getfield 180, 3) := by decide +kernel
theorem d15_11 : decode (pm_code 15) 11 = .ok (.goto 4, 3) := by decide +kernel
theorem d15_14 : decode (pm_code 15) 14 = .ok (.iconst (-1), 1) := by decide +kernel
theorem d15_15 : decode (pm_code 15) 15 = .ok (.ireturn, 1) := by decide +kernel
theorem d16_0 : decode (pm_code 16) 0 = .ok (.aload_n 0, 1) := by decide +kernel
theorem d16_1 : decode (pm_code 16) 1 = .ok (.getfield 177, 3) := by decide +kernel
theorem d16_4 : decode (pm_code 16) 4 = .ok (.ifCond .eq 28, 3) := by decide +kernel
theorem d16_7 : decode (pm_code 16) 7 = .ok (.aload_n 0, 1) := by decide +kernel
theorem d16_8 : decode (pm_code 16) 8 = .ok (.getfield 180, 3) := by decide +kernel
theorem d16_11 : decode (pm_code 16) 11 = .ok (.aload_n 0, 1) := by decide +kernel
theorem d16_12 : decode (pm_code 16) 12 = .ok (.getfield 75, 3) := by decide +kernel
theorem d16_15 : decode (pm_code 16) 15 = .ok (.getfield 183, 3) := by decide +kernel
theorem d16_18 : decode (pm_code 16) 18 = .ok (.if_icmp .lt 14, 3) := by decide +kernel
theorem d16_21 : decode (pm_code 16) 21 = .ok (.aload_n 0, 1) := by decide +kernel
theorem d16_22 : decode (pm_code 16) 22 = .ok (.getfield 75, 3) := by decide +kernel
theorem d16_25 : decode (pm_code 16) 25 = .ok (.getfield 191, 3) := by decide +kernel
theorem d16_28 : decode (pm_code 16) 28 = .ok (.iconst (-1), 1) := by decide +kernel
theorem d16_29 : decode (pm_code 16) 29 = .ok (.if_icmp .ne 5, 3) := by decide +kernel
theorem d16_32 : decode (pm_code 16) 32 = .ok (.iconst (-1), 1) := by decide +kernel
theorem d16_33 : decode (pm_code 16) 33 = .ok (.ireturn, 1) := by decide +kernel
theorem d16_34 : decode (pm_code 16) 34 = .ok (.aload_n 0, 1) := by decide +kernel
theorem d16_35 : decode (pm_code 16) 35 = .ok (.getfield 34, 3) := by decide +kernel
theorem d16_38 : decode (pm_code 16) 38 = .ok (.invokevirtual 148, 3) := by decide +kernel
theorem d16_41 : decode (pm_code 16) 41 = .ok (.aload_n 0, 1) := by decide +kernel
theorem d16_42 : decode (pm_code 16) 42 = .ok (.getfield 75, 3) := by decide +kernel
theorem d16_45 : decode (pm_code 16) 45 = .ok (.aload_n 0, 1) := by decide +kernel
theorem d16_46 : decode (pm_code 16) 46 = .ok (.getfield 34, 3) := by decide +kernel
theorem d16_49 : decode (pm_code 16) 49 = .ok (.aload_n 0, 1) := by decide +kernel
theorem d16_50 : decode (pm_code 16) 50 = .ok (.getfield 75, 3) := by decide +kernel
theorem d16_53 : decode (pm_code 16) 53 = .ok (.getfield 191, 3) := by decide +kernel
theorem d16_56 : decode (pm_code 16) 56 = .ok (.iconst 0, 1) := by decide +kernel
theorem d16_57 : decode (pm_code 16) 57 = .ok (.invokevirtual 194, 3) := by decide +kernel
theorem d16_60 : decode (pm_code 16) 60 = .ok (.aload_n 0, 1) := by decide +kernel
theorem d16_61 : decode (pm_code 16) 61 = .ok (.getfield 34, 3) := by decide +kernel
theorem d16_64 : decode (pm_code 16) 64 = .ok (.invokevirtual 155, 3) := by decide +kernel
theorem d16_67 : decode (pm_code 16) 67 = .ok (.ireturn, 1) := by decide +kernel
theorem d17_0 : decode (pm_code 17) 0 = .ok (.iload_n 0, 1) := by decide +kernel
theorem d17_1 : decode (pm_code 17) 1 = .ok (.ifCond .lt 12, 3) := by decide +kernel
theorem d17_4 : decode (pm_code 17) 4 = .ok (.iload_n 0, 1) := by decide +kernel
theorem d17_5 : decode (pm_code 17) 5 = .ok (.iconst 4, 1) := by decide +kernel
theorem d17_6 : decode (pm_code 17) 6 = .ok (.if_icmp .ge 7, 3) := by decide +kernel
theorem d17_9 : decode (pm_code 17) 9 = .ok (.iconst 1, 1) := by decide +kernel
theorem d17_10 : decode (pm_code 17) 10 = .ok (.goto 4, 3) := by decide +kernel
theorem d17_13 : decode (pm_code 17) 13 = .ok (.iconst 0, 1) := by decide +kernel
theorem d17_14 : decode (pm_code 17) 14 = .ok (.ireturn, 1) := by decide +kernel
theorem d18_0 : decode (pm_code 18) 0 = .ok (.iload_n 1, 1) := by decide +kernel
theorem d18_1 : decode (pm_code 18) 1 = .ok (.invokestatic 82, 3) := by decide +kernel
theorem d18_4 : decode (pm_code 18) 4 = .ok (.ifCond .eq 19, 3) := by decide +kernel
theorem d18_7 : decode (pm_code 18) 7 = .ok (.aload_n 0, 1) := by decide +kernel
theorem d18_8 : decode (pm_code 18) 8 = .ok (.getfield 15, 3) := by decide +kernel
theorem d18_11 : decode (pm_code 18) 11 = .ok (.iload_n 1, 1) := by decide +kernel
theorem d18_12 : decode (pm_code 18) 12 = .ok (.aaload, 1) := by decide +kernel
theorem d18_13 : decode (pm_code 18) 13 = .ok (.getfield 145, 3) := by decide +kernel
theorem d18_16 : decode (pm_code 18) 16 = .ok (.ifCond .le 7, 3) := by decide +kernel
theorem d18_19 : decode (pm_code 18) 19 = .ok (.iconst 1, 1) := by decide +kernel
theorem d18_20 : decode (pm_code 18) 20 = .ok (.goto 4, 3) := by decide +kernel
theorem d18_23 : decode (pm_code 18) 23 = .ok (.iconst 0, 1) := by decide +kernel
theorem d18_24 : decode (pm_code 18) 24 = .ok (.ireturn, 1) := by decide +kernel
theorem d19_0 : decode (pm_code 19) 0 = .ok (.aload_n 0, 1) := by decide +kernel
theorem d19_1 : decode (pm_code 19) 1 = .ok (.getfield 163, 3) := by decide +kernel
theorem d19_4 : decode (pm_code 19) 4 = .ok (.ifCond .eq 15, 3) := by decide +kernel
theorem d19_7 : decode (pm_code 19) 7 = .ok (.aload_n 0, 1) := by decide +kernel
theorem d19_8 : decode (pm_code 19) 8 = .ok (.getfield 48, 3) := by decide +kernel
theorem d19_11 : decode (pm_code 19) 11 = .ok (.iconst (-1), 1) := by decide +kernel
theorem d19_12 : decode (pm_code 19) 12 = .ok (.if_icmp .ne 7, 3) := by decide +kernel
theorem d19_15 : decode (pm_code 19) 15 = .ok (.iconst 1, 1) := by decide +kernel
theorem d19_16 : decode (pm_code 19) 16 = .ok (.goto 4, 3) := by decide +kernel
theorem d19_19 : decode (pm_code 19) 19 = .ok (.iconst 0, 1) := by decide +kernel
theorem d19_20 : decode (pm_code 19) 20 = .ok (.ireturn, 1) := by decide +kernel
theorem d20_0 : decode (pm_code 20) 0 = .ok (.aload_n 0, 1) := by decide +kernel
theorem d20_1 : decode (pm_code 20) 1 = .ok (.getfield 27, 3) := by decide +kernel
theorem d20_4 : decode (pm_code 20) 4 = .ok (.invokevirtual 86, 3) := by decide +kernel
theorem d20_7 : decode (pm_code 20) 7 = .ok (.aload_n 0, 1) := by decide +kernel
theorem d20_8 : decode (pm_code 20) 8 = .ok (.getfield 27, 3) := by decide +kernel
theorem d20_11 : decode (pm_code 20) 11 = .ok (.aload_n 1, 1) := by decide +kernel
theorem d20_12 : decode (pm_code 20) 12 = .ok (.invokevirtual 126, 3) := by decide +kernel
theorem d20_15 : decode (pm_code 20) 15 = .ok (.istore_n 3, 1) := by decide +kernel
theorem d20_16 : decode (pm_code 20) 16 = .ok (.aload_n 0, 1) := by decide +kernel
theorem d20_17 : decode (pm_code 20) 17 = .ok (.getfield 27, 3) := by decide +kernel
theorem d20_20 : decode (pm_code 20) 20 = .ok (.aload_n 2, 1) := by decide +kernel
theorem d20_21 : decode (pm_code 20) 21 = .ok (.invokevirtual 126, 3) := by decide +kernel
theorem d20_24 : decode (pm_code 20) 24 = .ok (.istore 4, 2) := by decide +kernel
theorem d20_26 : decode (pm_code 20) 26 = .ok (.aload_n 0, 1) := by decide +kernel
theorem d20_27 : decode (pm_code 20) 27 = .ok (.getfield 27, 3) := by decide +kernel
theorem d20_30 : decode (pm_code 20) 30 = .ok (.iload_n 3, 1) := by decide +kernel
theorem d20_31 : decode (pm_code 20) 31 = .ok (.iload 4, 2) := by decide +kernel
theorem d20_33 : decode (pm_code 20) 33 = .ok (.iconst 0, 1) := by decide +kernel
theorem d20_34 : decode (pm_code 20) 34 = .ok (.iconst 0, 1) := by decide +kernel
theorem d20_35 : decode (pm_code 20) 35 = .ok (.invokevirtual 197, 3) := by decide +kernel
theorem d20_38 : decode (pm_code 20) 38 = .ok (.ireturn, 1) := by decide +kernel
theorem d21_0 : decode (pm_code 21) 0 = .ok (.aload_n 0, 1) := by decide +kernel
theorem d21_1 : decode (pm_code 21) 1 = .ok (.getfield 27, 3) := by decide +kernel
theorem d21_4 : decode (pm_code 21) 4 = .ok (.getfield 201, 3) := by decide +kernel
theorem d21_7 : decode (pm_code 21) 7 = .ok (.iload_n 1, 1) := by decide +kernel
theorem d21_8 : decode (pm_code 21) 8 = .ok (.iaload, 1) := by decide +kernel
theorem d21_9 : decode (pm_code 21) 9 = .ok (.istore_n 3, 1) := by decide +kernel
theorem d21_10 : decode (pm_code 21) 10 = .ok (.iload_n 3, 1) := by decide +kernel
theorem d21_11 : decode (pm_code 21) 11 = .ok (.bipush 16, 2) := by decide +kernel
theorem d21_13 : decode (pm_code 21) 13 = .ok (.if_icmp .le 6, 3) := by decide +kernel
theorem d21_16 : decode (pm_code 21) 16 = .ok (.bipush (-3), 2) := by decide +kernel
theorem d21_18 : decode (pm_code 21) 18 = .ok (.ireturn, 1) := by decide +kernel
theorem d21_19 : decode (pm_code 21) 19 = .ok (.aload_n 0, 1) := by decide +kernel
theorem d21_20 : decode (pm_code 21) 20 = .ok (.getfield 27, 3) := by decide +kernel
theorem d21_23 : decode (pm_code 21) 23 = .ok (.iload_n 1, 1) := by decide +kernel
theorem d21_24 : decode (pm_code 21) 24 = .ok (.aload_n 0, 1) := by decide +kernel
theorem d21_25 : decode (pm_code 21) 25 = .ok (.getfield 15, 3) := by decide +kernel
theorem d21_28 : decode (pm_code 21) 28 = .ok (.iload_n 2, 1) := by decide +kernel
theorem d21_29 : decode (pm_code 21) 29 = .ok (.aaload, 1) := by decide +kernel
theorem d21_30 : decode (pm_code 21) 30 = .ok (.invokevirtual 103, 3) := by decide +kernel
theorem d21_33 : decode (pm_code 21) 33 = .ok (.iload_n 3, 1) := by decide +kernel
theorem d21_34 : decode (pm_code 21) 34 = .ok (.ireturn, 1) := by decide +kernel
theorem d22_0 : decode (pm_code 22) 0 = .ok (.aload_n 0, 1) := by decide +kernel
theorem d22_1 : decode (pm_code 22) 1 = .ok (.getfield 45, 3) := by decide +kernel
theorem d22_4 : decode (pm_code 22) 4 = .ok (.astore_n 1, 1) := by decide +kernel
theorem d22_5 : decode (pm_code 22) 5 = .ok (.aload_n 0, 1) := by decide +kernel
theorem d22_6 : decode (pm_code 22) 6 = .ok (.aload_n 0, 1) := by decide +kernel
theorem d22_7 : decode (pm_code 22) 7 = .ok (.getfield 41, 3) := by decide +kernel
theorem d22_10 : decode (pm_code 22) 10 = .ok (.putfield 45, 3) := by decide +kernel
theorem d22_13 : decode (pm_code 22) 13 = .ok (.aload_n 0, 1) := by decide +kernel
theorem d22_14 : decode (pm_code 22) 14 = .ok (.aload_n 1, 1) := by decide +kernel
theorem d22_15 : decode (pm_code 22) 15 = .ok (.putfield 41, 3) := by decide +kernel
theorem d22_18 : decode (pm_code 22) 18 = .ok (.aload_n 0, 1) := by decide +kernel
theorem d22_19 : decode (pm_code 22) 19 = .ok (.iconst 1, 1) := by decide +kernel
theorem d22_20 : decode (pm_code 22) 20 = .ok (.putfield 163, 3) := by decide +kernel
theorem d22_23 : decode (pm_code 22) 23 = .ok (.aload_n 0, 1) := by decide +kernel
theorem d22_24 : decode (pm_code 22) 24 = .ok (.iconst 0, 1) := by decide +kernel
theorem d22_25 : decode (pm_code 22) 25 = .ok (.putfield 177, 3) := by decide +kernel
theorem d22_28 : decode (pm_code 22) 28 = .ok (.aload_n 0, 1) := by decide +kernel
theorem d22_29 : decode (pm_code 22) 29 = .ok (.getfield 66, 3) := by decide +kernel
theorem d22_32 : decode (pm_code 22) 32 = .ok (.aload_n 0, 1) := by decide +kernel
theorem d22_33 : decode (pm_code 22) 33 = .ok (.getfield 41, 3) := by decide +kernel
theorem d22_36 : decode (pm_code 22) 36 = .ok (.invokevirtual 205, 3) := by decide +kernel
theorem d22_39 : decode (pm_code 22) 39 = .ok (.return_, 1) := by decide +kernel
theorem d23_0 : decode (pm_code 23) 0 = .ok (.aload_n 0, 1) := by decide +kernel
theorem d23_1 : decode (pm_code 23) 1 = .ok (.invokespecial 3, 3) := by decide +kernel
theorem d23_4 : decode (pm_code 23) 4 = .ok (.aload_n 0, 1) := by decide +kernel
theorem d23_5 : decode (pm_code 23) 5 = .ok (.bipush 16, 2) := by decide +kernel
theorem d23_7 : decode (pm_code 23) 7 = .ok (.newarray .int, 2) := by decide +kernel
theorem d23_9 : decode (pm_code 23) 9 = .ok (.putfield 9, 3) := by decide +kernel
theorem d23_12 : decode (pm_code 23) 12 = .ok (.return_, 1) := by decide +kernel
theorem d24_0 : decode (pm_code 24) 0 = .ok (.aload_n 0, 1) := by decide +kernel
theorem d24_1 : decode (pm_code 24) 1 = .ok (.aload_n 1, 1) := by decide +kernel
theorem d24_2 : decode (pm_code 24) 2 = .ok (.getfield 15, 3) := by decide +kernel
theorem d24_5 : decode (pm_code 24) 5 = .ok (.putfield 15, 3) := by decide +kernel
theorem d24_8 : decode (pm_code 24) 8 = .ok (.iconst 0, 1) := by decide +kernel
theorem d24_9 : decode (pm_code 24) 9 = .ok (.istore_n 2, 1) := by decide +kernel
theorem d24_10 : decode (pm_code 24) 10 = .ok (.iload_n 2, 1) := by decide +kernel
theorem d24_11 : decode (pm_code 24) 11 = .ok (.bipush 16, 2) := by decide +kernel
theorem d24_13 : decode (pm_code 24) 13 = .ok (.if_icmp .ge 21, 3) := by decide +kernel
theorem d24_16 : decode (pm_code 24) 16 = .ok (.aload_n 0, 1) := by decide +kernel
theorem d24_17 : decode (pm_code 24) 17 = .ok (.getfield 9, 3) := by decide +kernel
theorem d24_20 : decode (pm_code 24) 20 = .ok (.iload_n 2, 1) := by decide +kernel
theorem d24_21 : decode (pm_code 24) 21 = .ok (.aload_n 1, 1) := by decide +kernel
theorem d24_22 : decode (pm_code 24) 22 = .ok (.getfield 9, 3) := by decide +kernel
theorem d24_25 : decode (pm_code 24) 25 = .ok (.iload_n 2, 1) := by decide +kernel
theorem d24_26 : decode (pm_code 24) 26 = .ok (.iaload, 1) := by decide +kernel
theorem d24_27 : decode (pm_code 24) 27 = .ok (.iastore, 1) := by decide +kernel
theorem d24_28 : decode (pm_code 24) 28 = .ok (.iinc 2 1, 3) := by decide +kernel
theorem d24_31 : decode (pm_code 24) 31 = .ok (.goto (-21), 3) := by decide +kernel
theorem d24_34 : decode (pm_code 24) 34 = .ok (.return_, 1) := by decide +kernel
theorem d25_0 : decode (pm_code 25) 0 = .ok (.aload_n 0, 1) := by decide +kernel
theorem d25_1 : decode (pm_code 25) 1 = .ok (.getfield 15, 3) := by decide +kernel
theorem d25_4 : decode (pm_code 25) 4 = .ok (.bipush 16, 2) := by decide +kernel
theorem d25_6 : decode (pm_code 25) 6 = .ok (.if_icmp .ge 23, 3) := by decide +kernel
theorem d25_9 : decode (pm_code 25) 9 = .ok (.aload_n 0, 1) := by decide +kernel
theorem d25_10 : decode (pm_code 25) 10 = .ok (.getfield 9, 3) := by decide +kernel
theorem d25_13 : decode (pm_code 25) 13 = .ok (.aload_n 0, 1) := by decide +kernel
theorem d25_14 : decode (pm_code 25) 14 = .ok (.getfield 15, 3) := by decide +kernel
theorem d25_17 : decode (pm_code 25) 17 = .ok (.iload_n 1, 1) := by decide +kernel
theorem d25_18 : decode (pm_code 25) 18 = .ok (.iastore, 1) := by decide +kernel
theorem d25_19 : decode (pm_code 25) 19 = .ok (.aload_n 0, 1) := by decide +kernel
theorem d25_20 : decode (pm_code 25) 20 = .ok (.dup, 1) := by decide +kernel
theorem d25_21 : decode (pm_code 25) 21 = .ok (.getfield 15, 3) := by decide +kernel
theorem d25_24 : decode (pm_code 25) 24 = .ok (.iconst 1, 1) := by decide +kernel
theorem d25_25 : decode (pm_code 25) 25 = .ok (.iadd, 1) := by decide +kernel
theorem d25_26 : decode (pm_code 25) 26 = .ok (.putfield 15, 3) := by decide +kernel
theorem d25_29 : decode (pm_code 25) 29 = .ok (.return_, 1) := by decide +kernel
theorem d26_0 : decode (pm_code 26) 0 = .ok (.aload_n 0, 1) := by decide +kernel
theorem d26_1 : decode (pm_code 26) 1 = .ok (.invokespecial 3, 3) := by decide +kernel
theorem d26_4 : decode (pm_code 26) 4 = .ok (.aload_n 0, 1) := by decide +kernel
theorem d26_5 : decode (pm_code 26) 5 = .ok (.bipush 64, 2) := by decide +kernel
theorem d26_7 : decode (pm_code 26) 7 = .ok (.newarray .int, 2) := by decide +kernel
theorem d26_9 : decode (pm_code 26) 9 = .ok (.putfield 11, 3) := by decide +kernel
theorem d26_12 : decode (pm_code 26) 12 = .ok (.aload_n 0, 1) := by decide +kernel
theorem d26_13 : decode (pm_code 26) 13 = .ok (.bipush 64, 2) := by decide +kernel
theorem d26_15 : decode (pm_code 26) 15 = .ok (.newarray .int, 2) := by decide +kernel
theorem d26_17 : decode (pm_code 26) 17 = .ok (.putfield 15, 3) := by decide +kernel
theorem d26_20 : decode (pm_code 26) 20 = .ok (.aload_n 0, 1) := by decide +kernel
theorem d26_21 : decode (pm_code 26) 21 = .ok (.bipush 64, 2) := by decide +kernel
theorem d26_23 : decode (pm_code 26) 23 = .ok (.newarray .int, 2) := by decide +kernel
theorem d26_25 : decode (pm_code 26) 25 = .ok (.putfield 18, 3) := by decide +kernel
theorem d26_28 : decode (pm_code 26) 28 = .ok (.aload_n 0, 1) := by decide +kernel
theorem d26_29 : decode (pm_code 26) 29 = .ok (.bipush 64, 2) := by decide +kernel
theorem d26_31 : decode (pm_code 26) 31 = .ok (.newarray .int, 2) := by decide +kernel
theorem d26_33 : decode (pm_code 26) 33 = .ok (.putfield 21, 3) := by decide +kernel
theorem d26_36 : decode (pm_code 26) 36 = .ok (.aload_n 0, 1) := by decide +kernel
theorem d26_37 : decode (pm_code 26) 37 = .ok (.bipush 64, 2) := by decide +kernel
theorem d26_39 : decode (pm_code 26) 39 = .ok (.newarray .int, 2) := by decide +kernel
theorem d26_41 : decode (pm_code 26) 41 = .ok (.putfield 24, 3) := by decide +kernel
theorem d26_44 : decode (pm_code 26) 44 = .ok (.aload_n 0, 1) := by decide +kernel
theorem d26_45 : decode (pm_code 26) 45 = .ok (.bipush 64, 2) := by decide +kernel
theorem d26_47 : decode (pm_code 26) 47 = .ok (.newarray .int, 2) := by decide +kernel
theorem d26_49 : decode (pm_code 26) 49 = .ok (.putfield 27, 3) := by decide +kernel
theorem d26_52 : decode (pm_code 26) 52 = .ok (.aload_n 0, 1) := by decide +kernel
theorem d26_53 : decode (pm_code 26) 53 = .ok (.iconst 1, 1) := by decide +kernel
theorem d26_54 : decode (pm_code 26) 54 = .ok (.putfield 30, 3) := by decide +kernel
theorem d26_57 : decode (pm_code 26) 57 = .ok (.aload_n 0, 1) := by decide +kernel
theorem d26_58 : decode (pm_code 26) 58 = .ok (.getfield 24, 3) := by decide +kernel
theorem d26_61 : decode (pm_code 26) 61 = .ok (.iconst 0, 1) := by decide +kernel
theorem d26_62 : decode (pm_code 26) 62 = .ok (.iconst 1, 1) := by decide +kernel
theorem d26_63 : decode (pm_code 26) 63 = .ok (.iastore, 1) := by decide +kernel
theorem d26_64 : decode (pm_code 26) 64 = .ok (.return_, 1) := by decide +kernel
theorem d27_0 : decode (pm_code 27) 0 = .ok (.aload_n 0, 1) := by decide +kernel
theorem d27_1 : decode (pm_code 27) 1 = .ok (.iconst 1, 1) := by decide +kernel
theorem d27_2 : decode (pm_code 27) 2 = .ok (.putfield 30, 3) := by decide +kernel
theorem d27_5 : decode (pm_code 27) 5 = .ok (.return_, 1) := by decide +kernel
theorem d28_0 : decode (pm_code 28) 0 = .ok (.aload_n 0, 1) := by decide +kernel
theorem d28_1 : decode (pm_code 28) 1 = .ok (.getfield 30, 3) := by decide +kernel
theorem d28_4 : decode (pm_code 28) 4 = .ok (.aload_n 0, 1) := by decide +kernel
theorem d28_5 : decode (pm_code 28) 5 = .ok (.getfield 11, 3) := by decide +kernel
theorem d28_8 : decode (pm_code 28) 8 = .ok (.arraylength, 1) := by decide +kernel
theorem d28_9 : decode (pm_code 28) 9 = .ok (.if_icmp .lt 12, 3) := by decide +kernel
theorem d28_12 : decode (pm_code 28) 12 = .ok (.aload_n 0, 1) := by decide +kernel
theorem d28_13 : decode (pm_code 28) 13 = .ok (.invokevirtual 34, 3) := by decide +kernel
theorem d28_16 : decode (pm_code 28) 16 = .ok (.ifCond .ne 5, 3) := by decide +kernel
theorem d28_19 : decode (pm_code 28) 19 = .ok (.iconst 0, 1) := by decide +kernel
theorem d28_20 : decode (pm_code 28) 20 = .ok (.ireturn, 1) := by decide +kernel
theorem d28_21 : decode (pm_code 28) 21 = .ok (.aload_n 0, 1) := by decide +kernel
theorem d28_22 : decode (pm_code 28) 22 = .ok (.getfield 30, 3) := by decide +kernel
theorem d28_25 : decode (pm_code 28) 25 = .ok (.istore 5, 2) := by decide +kernel
theorem d28_27 : decode (pm_code 28) 27 = .ok (.aload_n 0, 1) := by decide +kernel
theorem d28_28 : decode (pm_code 28) 28 = .ok (.dup, 1) := by decide +kernel
theorem d28_29 : decode (pm_code 28) 29 = .ok (.getfield 30, 3) := by decide +kernel
theorem d28_32 : decode (pm_code 28) 32 = .ok (.iconst 1, 1) := by decide +kernel
theorem d28_33 : decode (pm_code 28) 33 = .ok (.iadd, 1) := by decide +kernel
theorem d28_34 : decode (pm_code 28) 34 = .ok (.putfield 30, 3) := by decide +kernel
theorem d28_37 : decode (pm_code 28) 37 = .ok (.aload_n 0, 1) := by decide +kernel
theorem d28_38 : decode (pm_code 28) 38 = .ok (.getfield 11, 3) := by decide +kernel
theorem d28_41 : decode (pm_code 28) 41 = .ok (.iload 5, 2) := by decide +kernel
theorem d28_43 : decode (pm_code 28) 43 = .ok (.iload_n 1, 1) := by decide +kernel
theorem d28_44 : decode (pm_code 28) 44 = .ok (.iastore, 1) := by decide +kernel
theorem d28_45 : decode (pm_code 28) 45 = .ok (.aload_n 0, 1) := by decide +kernel
theorem d28_46 : decode (pm_code 28) 46 = .ok (.getfield 15, 3) := by decide +kernel
theorem d28_49 : decode (pm_code 28) 49 = .ok (.iload 5, 2) := by decide +kernel
theorem d28_51 : decode (pm_code 28) 51 = .ok (.iload_n 2, 1) := by decide +kernel
theorem d28_52 : decode (pm_code 28) 52 = .ok (.iastore, 1) := by decide +kernel
theorem d28_53 : decode (pm_code 28) 53 = .ok (.aload_n 0, 1) := by decide +kernel
theorem d28_54 : decode (pm_code 28) 54 = .ok (.getfield 18, 3) := by decide +kernel
theorem d28_57 : decode (pm_code 28) 57 = .ok (.iload 5, 2) := by decide +kernel
theorem d28_59 : decode (pm_code 28) 59 = .ok (.iload_n 3, 1) := by decide +kernel
theorem d28_60 : decode (pm_code 28) 60 = .ok (.iastore, 1) := by decide +kernel
theorem d28_61 : decode (pm_code 28) 61 = .ok (.aload_n 0, 1) := by decide +kernel
theorem d28_62 : decode (pm_code 28) 62 = .ok (.getfield 21, 3) := by decide +kernel
theorem d28_65 : decode (pm_code 28) 65 = .ok (.iload 5, 2) := by decide +kernel
theorem d28_67 : decode (pm_code 28) 67 = .ok (.iload 4, 2) := by decide +kernel
theorem d28_69 : decode (pm_code 28) 69 = .ok (.iastore, 1) := by decide +kernel
theorem d28_70 : decode (pm_code 28) 70 = .ok (.aload_n 0, 1) := by decide +kernel
theorem d28_71 : decode (pm_code 28) 71 = .ok (.getfield 24, 3) := by decide +kernel
theorem d28_74 : decode (pm_code 28) 74 = .ok (.iload 5, 2) := by decide +kernel
theorem d28_76 : decode (pm_code 28) 76 = .ok (.iconst 1, 1) := by decide +kernel
theorem d28_77 : decode (pm_code 28) 77 = .ok (.iload_n 1, 1) := by decide +kernel
theorem d28_78 : decode (pm_code 28) 78 = .ok (.iconst 0, 1) := by decide +kernel
theorem d28_79 : decode (pm_code 28) 79 = .ok (.invokestatic 38, 3) := by decide +kernel
theorem d28_82 : decode (pm_code 28) 82 = .ok (.ifCond .eq 12, 3) := by decide +kernel
theorem d28_85 : decode (pm_code 28) 85 = .ok (.aload_n 0, 1) := by decide +kernel
theorem d28_86 : decode (pm_code 28) 86 = .ok (.getfield 24, 3) := by decide +kernel
theorem d28_89 : decode (pm_code 28) 89 = .ok (.iload_n 2, 1) := by decide +kernel
theorem d28_90 : decode (pm_code 28) 90 = .ok (.iaload, 1) := by decide +kernel
theorem d28_91 : decode (pm_code 28) 91 = .ok (.goto 4, 3) := by decide +kernel
theorem d28_94 : decode (pm_code 28) 94 = .ok (.iconst 0, 1) := by decide +kernel
theorem d28_95 : decode (pm_code 28) 95 = .ok (.iadd, 1) := by decide +kernel
theorem d28_96 : decode (pm_code 28) 96 = .ok (.iload_n 1, 1) := by decide +kernel
theorem d28_97 : decode (pm_code 28) 97 = .ok (.iconst 1, 1) := by decide +kernel
theorem d28_98 : decode (pm_code 28) 98 = .ok (.invokestatic 38, 3) := by decide +kernel
theorem d28_101 : decode (pm_code 28) 101 = .ok (.ifCond .eq 12, 3) := by decide +kernel
theorem d28_104 : decode (pm_code 28) 104 = .ok (.aload_n 0, 1) := by decide +kernel
theorem d28_105 : decode (pm_code 28) 105 = .ok (.getfield 24, 3) := by decide +kernel
theorem d28_108 : decode (pm_code 28) 108 = .ok (.iload_n 3, 1) := by decide +kernel
theorem d28_109 : decode (pm_code 28) 109 = .ok (.iaload, 1) := by decide +kernel
theorem d28_110 : decode (pm_code 28) 110 = .ok (.goto 4, 3) := by decide +kernel
theorem d28_113 : decode (pm_code 28) 113 = .ok (.iconst 0, 1) := by decide +kernel
theorem d28_114 : decode (pm_code 28) 114 = .ok (.iadd, 1) := by decide +kernel
theorem d28_115 : decode (pm_code 28) 115 = .ok (.iload_n 1, 1) := by decide +kernel
theorem d28_116 : decode (pm_code 28) 116 = .ok (.iconst 2, 1) := by decide +kernel
theorem d28_117 : decode (pm_code 28) 117 = .ok (.invokestatic 38, 3) := by decide +kernel
theorem d28_120 : decode (pm_code 28) 120 = .ok (.ifCond .eq 13, 3) := by decide +kernel
theorem d28_123 : decode (pm_code 28) 123 = .ok (.aload_n 0, 1) := by decide +kernel
theorem d28_124 : decode (pm_code 28) 124 = .ok (.getfield 24, 3) := by decide +kernel
theorem d28_127 : decode (pm_code 28) 127 = .ok (.iload 4, 2) := by decide +kernel
theorem d28_129 : decode (pm_code 28) 129 = .ok (.iaload, 1) := by decide +kernel
theorem d28_130 : decode (pm_code 28) 130 = .ok (.goto 4, 3) := by decide +kernel
theorem d28_133 : decode (pm_code 28) 133 = .ok (.iconst 0, 1) := by decide +kernel
theorem d28_134 : decode (pm_code 28) 134 = .ok (.iadd, 1) := by decide +kernel
theorem d28_135 : decode (pm_code 28) 135 = .ok (.iastore, 1) := by decide +kernel
theorem d28_136 : decode (pm_code 28) 136 = .ok (.iload 5, 2) := by decide +kernel
theorem d28_138 : decode (pm_code 28) 138 = .ok (.ireturn, 1) := by decide +kernel
theorem d29_0 : decode (pm_code 29) 0 = .ok (.iconst 2, 1) := by decide +kernel
theorem d29_1 : decode (pm_code 29) 1 = .ok (.aload_n 0, 1) := by decide +kernel
theorem d29_2 : decode (pm_code 29) 2 = .ok (.getfield 11, 3) := by decide +kernel
theorem d29_5 : decode (pm_code 29) 5 = .ok (.arraylength, 1) := by decide +kernel
theorem d29_6 : decode (pm_code 29) 6 = .ok (.imul, 1) := by decide +kernel
theorem d29_7 : decode (pm_code 29) 7 = .ok (.sipush 16384, 3) := by decide +kernel
theorem d29_10 : decode (pm_code 29) 10 = .ok (.invokestatic 42, 3) := by decide +kernel
theorem d29_13 : decode (pm_code 29) 13 = .ok (.istore_n 1, 1) := by decide +kernel
theorem d29_14 : decode (pm_code 29) 14 = .ok (.iload_n 1, 1) := by decide +kernel
theorem d29_15 : decode (pm_code 29) 15 = .ok (.aload_n 0, 1) := by decide +kernel
theorem d29_16 : decode (pm_code 29) 16 = .ok (.getfield 11, 3) := by decide +kernel
theorem d29_19 : decode (pm_code 29) 19 = .ok (.arraylength, 1) := by decide +kernel
theorem d29_20 : decode (pm_code 29) 20 = .ok (.if_icmp .gt 5, 3) := by decide +kernel
theorem d29_23 : decode (pm_code 29) 23 = .ok (.iconst 0, 1) := by decide +kernel
theorem d29_24 : decode (pm_code 29) 24 = .ok (.ireturn, 1) := by decide +kernel
theorem d29_25 : decode (pm_code 29) 25 = .ok (.aload_n 0, 1) := by decide +kernel
theorem d29_26 : decode (pm_code 29) 26 = .ok (.aload_n 0, 1) := by decide +kernel
theorem d29_27 : decode (pm_code 29) 27 = .ok (.getfield 11, 3) := by decide +kernel
theorem d29_30 : decode (pm_code 29) 30 = .ok (.iload_n 1, 1) := by decide +kernel
theorem d29_31 : decode (pm_code 29) 31 = .ok (.invokestatic 48, 3) := by decide +kernel
theorem d29_34 : decode (pm_code 29) 34 = .ok (.putfield 11, 3) := by decide +kernel
theorem d29_37 : decode (pm_code 29) 37 = .ok (.aload_n 0, 1) := by decide +kernel
theorem d29_38 : decode (pm_code 29) 38 = .ok (.aload_n 0, 1) := by decide +kernel
theorem d29_39 : decode (pm_code 29) 39 = .ok (.getfield 15, 3) := by decide +kernel
theorem d29_42 : decode (pm_code 29) 42 = .ok (.iload_n 1, 1) := by decide +kernel
theorem d29_43 : decode (pm_code 29) 43 = .ok (.invokestatic 48, 3) := by decide +kernel
theorem d29_46 : decode (pm_code 29) 46 = .ok (.putfield 15, 3) := by decide +kernel
theorem d29_49 : decode (pm_code 29) 49 = .ok (.aload_n 0, 1) := by decide +kernel
theorem d29_50 : decode (pm_code 29) 50 = .ok (.aload_n 0, 1) := by decide +kernel
theorem d29_51 : decode (pm_code 29) 51 = .ok (.getfield 18, 3) := by decide +kernel
theorem d29_54 : decode (pm_code 29) 54 = .ok (.iload_n 1, 1) := by decide +kernel
theorem d29_55 : decode (pm_code 29) 55 = .ok (.invokestatic 48, 3) := by decide +kernel
theorem d29_58 : decode (pm_code 29) 58 = .ok (.putfield 18, 3) := by decide +kernel
theorem d29_61 : decode (pm_code 29) 61 = .ok (.aload_n 0, 1) := by decide +kernel
theorem d29_62 : decode (pm_code 29) 62 = .ok (.aload_n 0, 1) := by decide +kernel
theorem d29_63 : decode (pm_code 29) 63 = .ok (.getfield 21, 3) := by decide +kernel
theorem d29_66 : decode (pm_code 29) 66 = .ok (.iload_n 1, 1) := by decide +kernel
theorem d29_67 : decode (pm_code 29) 67 = .ok (.invokestatic 48, 3) := by decide +kernel
theorem d29_70 : decode (pm_code 29) 70 = .ok (.putfield 21, 3) := by decide +kernel
theorem d29_73 : decode (pm_code 29) 73 = .ok (.aload_n 0, 1) := by decide +kernel
theorem d29_74 : decode (pm_code 29) 74 = .ok (.aload_n 0, 1) := by decide +kernel
theorem d29_75 : decode (pm_code 29) 75 = .ok (.getfield 24, 3) := by decide +kernel
theorem d29_78 : decode (pm_code 29) 78 = .ok (.iload_n 1, 1) := by decide +kernel
theorem d29_79 : decode (pm_code 29) 79 = .ok (.invokestatic 48, 3) := by decide +kernel
theorem d29_82 : decode (pm_code 29) 82 = .ok (.putfield 24, 3) := by decide +kernel
theorem d29_85 : decode (pm_code 29) 85 = .ok (.iconst 1, 1) := by decide +kernel
theorem d29_86 : decode (pm_code 29) 86 = .ok (.ireturn, 1) := by decide +kernel
theorem d30_0 : decode (pm_code 30) 0 = .ok (.aload_n 0, 1) := by decide +kernel
theorem d30_1 : decode (pm_code 30) 1 = .ok (.bipush 64, 2) := by decide +kernel
theorem d30_3 : decode (pm_code 30) 3 = .ok (.bipush 8, 2) := by decide +kernel
theorem d30_5 : decode (pm_code 30) 5 = .ok (.iload_n 1, 1) := by decide +kernel
theorem d30_6 : decode (pm_code 30) 6 = .ok (.imul, 1) := by decide +kernel
theorem d30_7 : decode (pm_code 30) 7 = .ok (.iadd, 1) := by decide +kernel
theorem d30_8 : decode (pm_code 30) 8 = .ok (.iconst 0, 1) := by decide +kernel
theorem d30_9 : decode (pm_code 30) 9 = .ok (.iconst 0, 1) := by decide +kernel
theorem d30_10 : decode (pm_code 30) 10 = .ok (.iconst 0, 1) := by decide +kernel
theorem d30_11 : decode (pm_code 30) 11 = .ok (.invokevirtual 54, 3) := by decide +kernel
theorem d30_14 : decode (pm_code 30) 14 = .ok (.ireturn, 1) := by decide +kernel
theorem d31_0 : decode (pm_code 31) 0 = .ok (.iload_n 0, 1) := by decide +kernel
theorem d31_1 : decode (pm_code 31) 1 = .ok (.iload_n 1, 1) := by decide +kernel
theorem d31_2 : decode (pm_code 31) 2 = .ok (.ishr, 1) := by decide +kernel
theorem d31_3 : decode (pm_code 31) 3 = .ok (.iconst 1, 1) := by decide +kernel
theorem d31_4 : decode (pm_code 31) 4 = .ok (.iand, 1) := by decide +kernel
theorem d31_5 : decode (pm_code 31) 5 = .ok (.iconst 1, 1) := by decide +kernel
theorem d31_6 : decode (pm_code 31) 6 = .ok (.if_icmp .ne 7, 3) := by decide +kernel
theorem d31_9 : decode (pm_code 31) 9 = .ok (.iconst 1, 1) := by decide +kernel
theorem d31_10 : decode (pm_code 31) 10 = .ok (.goto 4, 3) := by decide +kernel
theorem d31_13 : decode (pm_code 31) 13 = .ok (.iconst 0, 1) := by decide +kernel
theorem d31_14 : decode (pm_code 31) 14 = .ok (.ireturn, 1) := by decide +kernel
theorem d32_0 : decode (pm_code 32) 0 = .ok (.aload_n 0, 1) := by decide +kernel
theorem d32_1 : decode (pm_code 32) 1 = .ok (.iload_n 1, 1) := by decide +kernel
theorem d32_2 : decode (pm_code 32) 2 = .ok (.invokevirtual 58, 3) := by decide +kernel
theorem d32_5 : decode (pm_code 32) 5 = .ok (.ifCond .eq 15, 3) := by decide +kernel
theorem d32_8 : decode (pm_code 32) 8 = .ok (.aload_n 0, 1) := by decide +kernel
theorem d32_9 : decode (pm_code 32) 9 = .ok (.iload_n 2, 1) := by decide +kernel
theorem d32_10 : decode (pm_code 32) 10 = .ok (.invokevirtual 58, 3) := by decide +kernel
theorem d32_13 : decode (pm_code 32) 13 = .ok (.ifCond .eq 7, 3) := by decide +kernel
theorem d32_16 : decode (pm_code 32) 16 = .ok (.iconst 1, 1) := by decide +kernel
theorem d32_17 : decode (pm_code 32) 17 = .ok (.goto 4, 3) := by decide +kernel
theorem d32_20 : decode (pm_code 32) 20 = .ok (.iconst 0, 1) := by decide +kernel
theorem d32_21 : decode (pm_code 32) 21 = .ok (.ireturn, 1) := by decide +kernel
theorem d33_0 : decode (pm_code 33) 0 = .ok (.aload_n 0, 1) := by decide +kernel
theorem d33_1 : decode (pm_code 33) 1 = .ok (.getfield 11, 3) := by decide +kernel
theorem d33_4 : decode (pm_code 33) 4 = .ok (.iload_n 1, 1) := by decide +kernel
theorem d33_5 : decode (pm_code 33) 5 = .ok (.iaload, 1) := by decide +kernel
theorem d33_6 : decode (pm_code 33) 6 = .ok (.bipush 8, 2) := by decide +kernel
theorem d33_8 : decode (pm_code 33) 8 = .ok (.if_icmp .lt 18, 3) := by decide +kernel
theorem d33_11 : decode (pm_code 33) 11 = .ok (.aload_n 0, 1) := by decide +kernel
theorem d33_12 : decode (pm_code 33) 12 = .ok (.getfield 11, 3) := by decide +kernel
theorem d33_15 : decode (pm_code 33) 15 = .ok (.iload_n 1, 1) := by decide +kernel
theorem d33_16 : decode (pm_code 33) 16 = .ok (.iaload, 1) := by decide +kernel
theorem d33_17 : decode (pm_code 33) 17 = .ok (.bipush 19, 2) := by decide +kernel
theorem d33_19 : decode (pm_code 33) 19 = .ok (.if_icmp .ge 7, 3) := by decide +kernel
theorem d33_22 : decode (pm_code 33) 22 = .ok (.iconst 1, 1) := by decide +kernel
theorem d33_23 : decode (pm_code 33) 23 = .ok (.goto 4, 3) := by decide +kernel
theorem d33_26 : decode (pm_code 33) 26 = .ok (.iconst 0, 1) := by decide +kernel
theorem d33_27 : decode (pm_code 33) 27 = .ok (.ireturn, 1) := by decide +kernel
theorem d34_0 : decode (pm_code 34) 0 = .ok (.iload_n 2, 1) := by decide +kernel
theorem d34_1 : decode (pm_code 34) 1 = .ok (.ifCond .ne 12, 3) := by decide +kernel
theorem d34_4 : decode (pm_code 34) 4 = .ok (.aload_n 0, 1) := by decide +kernel
theorem d34_5 : decode (pm_code 34) 5 = .ok (.getfield 15, 3) := by decide +kernel
theorem d34_8 : decode (pm_code 34) 8 = .ok (.iload_n 1, 1) := by decide +kernel
theorem d34_9 : decode (pm_code 34) 9 = .ok (.iaload, 1) := by decide +kernel
theorem d34_10 : decode (pm_code 34) 10 = .ok (.goto 23, 3) := by decide +kernel
theorem d34_13 : decode (pm_code 34) 13 = .ok (.iload_n 2, 1) := by decide +kernel
theorem d34_14 : decode (pm_code 34) 14 = .ok (.iconst 1, 1) := by decide +kernel
theorem d34_15 : decode (pm_code 34) 15 = .ok (.if_icmp .ne 12, 3) := by decide +kernel
theorem d34_18 : decode (pm_code 34) 18 = .ok (.aload_n 0, 1) := by decide +kernel
theorem d34_19 : decode (pm_code 34) 19 = .ok (.getfield 18, 3) := by decide +kernel
theorem d34_22 : decode (pm_code 34) 22 = .ok (.iload_n 1, 1) := by decide +kernel
theorem d34_23 : decode (pm_code 34) 23 = .ok (.iaload, 1) := by decide +kernel
theorem d34_24 : decode (pm_code 34) 24 = .ok (.goto 9, 3) := by decide +kernel
theorem d34_27 : decode (pm_code 34) 27 = .ok (.aload_n 0, 1) := by decide +kernel
theorem d34_28 : decode (pm_code 34) 28 = .ok (.getfield 21, 3) := by decide +kernel
theorem d34_31 : decode (pm_code 34) 31 = .ok (.iload_n 1, 1) := by decide +kernel
theorem d34_32 : decode (pm_code 34) 32 = .ok (.iaload, 1) := by decide +kernel
theorem d34_33 : decode (pm_code 34) 33 = .ok (.ireturn, 1) := by decide +kernel
theorem d35_0 : decode (pm_code 35) 0 = .ok (.aload_n 0, 1) := by decide +kernel
theorem d35_1 : decode (pm_code 35) 1 = .ok (.getfield 11, 3) := by decide +kernel
theorem d35_4 : decode (pm_code 35) 4 = .ok (.iload_n 1, 1) := by decide +kernel
theorem d35_5 : decode (pm_code 35) 5 = .ok (.iaload, 1) := by decide +kernel
theorem d35_6 : decode (pm_code 35) 6 = .ok (.bipush 64, 2) := by decide +kernel
theorem d35_8 : decode (pm_code 35) 8 = .ok (.if_icmp .lt 7, 3) := by decide +kernel
theorem d35_11 : decode (pm_code 35) 11 = .ok (.iconst 1, 1) := by decide +kernel
theorem d35_12 : decode (pm_code 35) 12 = .ok (.goto 4, 3) := by decide +kernel
theorem d35_15 : decode (pm_code 35) 15 = .ok (.iconst 0, 1) := by decide +kernel
theorem d35_16 : decode (pm_code 35) 16 = .ok (.ireturn, 1) := by decide +kernel
theorem d36_0 : decode (pm_code 36) 0 = .ok (.aload_n 0, 1) := by decide +kernel
theorem d36_1 : decode (pm_code 36) 1 = .ok (.getfield 11, 3) := by decide +kernel
theorem d36_4 : decode (pm_code 36) 4 = .ok (.iload_n 1, 1) := by decide +kernel
theorem d36_5 : decode (pm_code 36) 5 = .ok (.iaload, 1) := by decide +kernel
theorem d36_6 : decode (pm_code 36) 6 = .ok (.bipush 64, 2) := by decide +kernel
theorem d36_8 : decode (pm_code 36) 8 = .ok (.isub, 1) := by decide +kernel
theorem d36_9 : decode (pm_code 36) 9 = .ok (.bipush 8, 2) := by decide +kernel
theorem d36_11 : decode (pm_code 36) 11 = .ok (.idiv, 1) := by decide +kernel
theorem d36_12 : decode (pm_code 36) 12 = .ok (.ireturn, 1) := by decide +kernel
theorem d37_0 : decode (pm_code 37) 0 = .ok (.aload_n 2, 1) := by decide +kernel
theorem d37_1 : decode (pm_code 37) 1 = .ok (.iconst 0, 1) := by decide +kernel
theorem d37_2 : decode (pm_code 37) 2 = .ok (.putfield 62, 3) := by decide +kernel
theorem d37_5 : decode (pm_code 37) 5 = .ok (.aload_n 0, 1) := by decide +kernel
theorem d37_6 : decode (pm_code 37) 6 = .ok (.iload_n 1, 1) := by decide +kernel
theorem d37_7 : decode (pm_code 37) 7 = .ok (.aload_n 2, 1) := by decide +kernel
theorem d37_8 : decode (pm_code 37) 8 = .ok (.iconst 0, 1) := by decide +kernel
theorem d37_9 : decode (pm_code 37) 9 = .ok (.invokevirtual 65, 3) := by decide +kernel
theorem d37_12 : decode (pm_code 37) 12 = .ok (.return_, 1) := by decide +kernel
theorem d38_0 : decode (pm_code 38) 0 = .ok (.iload_n 3, 1) := by decide +kernel
theorem d38_1 : decode (pm_code 38) 1 = .ok (.bipush 40, 2) := by decide +kernel
theorem d38_3 : decode (pm_code 38) 3 = .ok (.if_icmp .lt 4, 3) := by decide +kernel
theorem d38_6 : decode (pm_code 38) 6 = .ok (.return_, 1) := by decide +kernel
theorem d38_7 : decode (pm_code 38) 7 = .ok (.aload_n 2, 1) := by decide +kernel
theorem d38_8 : decode (pm_code 38) 8 = .ok (.aload_n 0, 1) := by decide +kernel
theorem d38_9 : decode (pm_code 38) 9 = .ok (.getfield 11, 3) := by decide +kernel
theorem d38_12 : decode (pm_code 38) 12 = .ok (.iload_n 1, 1) := by decide +kernel
theorem d38_13 : decode (pm_code 38) 13 = .ok (.iaload, 1) := by decide +kernel
theorem d38_14 : decode (pm_code 38) 14 = .ok (.invokevirtual 69, 3) := by decide +kernel
theorem d38_17 : decode (pm_code 38) 17 = .ok (.iconst 0, 1) := by decide +kernel
theorem d38_18 : decode (pm_code 38) 18 = .ok (.istore 4, 2) := by decide +kernel
theorem d38_20 : decode (pm_code 38) 20 = .ok (.iload 4, 2) := by decide +kernel
theorem d38_22 : decode (pm_code 38) 22 = .ok (.iconst 3, 1) := by decide +kernel
theorem d38_23 : decode (pm_code 38) 23 = .ok (.if_icmp .ge 38, 3) := by decide +kernel
theorem d38_26 : decode (pm_code 38) 26 = .ok (.aload_n 0, 1) := by decide +kernel
theorem d38_27 : decode (pm_code 38) 27 = .ok (.getfield 11, 3) := by decide +kernel
theorem d38_30 : decode (pm_code 38) 30 = .ok (.iload_n 1, 1) := by decide +kernel
theorem d38_31 : decode (pm_code 38) 31 = .ok (.iaload, 1) := by decide +kernel
theorem d38_32 : decode (pm_code 38) 32 = .ok (.iload 4, 2) := by decide +kernel
theorem d38_34 : decode (pm_code 38) 34 = .ok (.invokestatic 38, 3) := by decide +kernel
theorem d38_37 : decode (pm_code 38) 37 = .ok (.ifCond .eq 18, 3) := by decide +kernel
theorem d38_40 : decode (pm_code 38) 40 = .ok (.aload_n 0, 1) := by decide +kernel
theorem d38_41 : decode (pm_code 38) 41 = .ok (.aload_n 0, 1) := by decide +kernel
theorem d38_42 : decode (pm_code 38) 42 = .ok (.iload_n 1, 1) := by decide +kernel
theorem d38_43 : decode (pm_code 38) 43 = .ok (.iload 4, 2) := by decide +kernel
theorem d38_45 : decode (pm_code 38) 45 = .ok (.invokevirtual 73, 3) := by decide +kernel
theorem d38_48 : decode (pm_code 38) 48 = .ok (.aload_n 2, 1) := by decide +kernel
theorem d38_49 : decode (pm_code 38) 49 = .ok (.iload_n 3, 1) := by decide +kernel
theorem d38_50 : decode (pm_code 38) 50 = .ok (.iconst 1, 1) := by decide +kernel
theorem d38_51 : decode (pm_code 38) 51 = .ok (.iadd, 1) := by decide +kernel
theorem d38_52 : decode (pm_code 38) 52 = .ok (.invokevirtual 65, 3) := by decide +kernel
theorem d38_55 : decode (pm_code 38) 55 = .ok (.iinc 4 1, 3) := by decide +kernel
theorem d38_58 : decode (pm_code 38) 58 = .ok (.goto (-38), 3) := by decide +kernel
theorem d38_61 : decode (pm_code 38) 61 = .ok (.return_, 1) := by decide +kernel
theorem d39_0 : decode (pm_code 39) 0 = .ok (.aload_n 1, 1) := by decide +kernel
theorem d39_1 : decode (pm_code 39) 1 = .ok (.iconst 0, 1) := by decide +kernel
theorem d39_2 : decode (pm_code 39) 2 = .ok (.putfield 76, 3) := by decide +kernel
theorem d39_5 : decode (pm_code 39) 5 = .ok (.aload_n 0, 1) := by decide +kernel
theorem d39_6 : decode (pm_code 39) 6 = .ok (.aload_n 1, 1) := by decide +kernel
theorem d39_7 : decode (pm_code 39) 7 = .ok (.iconst 0, 1) := by decide +kernel
theorem d39_8 : decode (pm_code 39) 8 = .ok (.invokevirtual 79, 3) := by decide +kernel
theorem d39_11 : decode (pm_code 39) 11 = .ok (.ireturn, 1) := by decide +kernel
theorem d40_0 : decode (pm_code 40) 0 = .ok (.iload_n 2, 1) := by decide +kernel
theorem d40_1 : decode (pm_code 40) 1 = .ok (.bipush 40, 2) := by decide +kernel
theorem d40_3 : decode (pm_code 40) 3 = .ok (.if_icmp .ge 14, 3) := by decide +kernel
theorem d40_6 : decode (pm_code 40) 6 = .ok (.aload_n 1, 1) := by decide +kernel
theorem d40_7 : decode (pm_code 40) 7 = .ok (.getfield 76, 3) := by decide +kernel
theorem d40_10 : decode (pm_code 40) 10 = .ok (.aload_n 1, 1) := by decide +kernel
theorem d40_11 : decode (pm_code 40) 11 = .ok (.getfield 62, 3) := by decide +kernel
theorem d40_14 : decode (pm_code 40) 14 = .ok (.if_icmp .lt 5, 3) := by decide +kernel
theorem d40_17 : decode (pm_code 40) 17 = .ok (.iconst 0, 1) := by decide +kernel
theorem d40_18 : decode (pm_code 40) 18 = .ok (.ireturn, 1) := by decide +kernel
theorem d40_19 : decode (pm_code 40) 19 = .ok (.aload_n 1, 1) := by decide +kernel
theorem d40_20 : decode (pm_code 40) 20 = .ok (.getfield 83, 3) := by decide +kernel
theorem d40_23 : decode (pm_code 40) 23 = .ok (.aload_n 1, 1) := by decide +kernel
theorem d40_24 : decode (pm_code 40) 24 = .ok (.getfield 76, 3) := by decide +kernel
theorem d40_27 : decode (pm_code 40) 27 = .ok (.iaload, 1) := by decide +kernel
theorem d40_28 : decode (pm_code 40) 28 = .ok (.istore_n 3, 1) := by decide +kernel
theorem d40_29 : decode (pm_code 40) 29 = .ok (.aload_n 1, 1) := by decide +kernel
theorem d40_30 : decode (pm_code 40) 30 = .ok (.dup, 1) := by decide +kernel
theorem d40_31 : decode (pm_code 40) 31 = .ok (.getfield 76, 3) := by decide +kernel
theorem d40_34 : decode (pm_code 40) 34 = .ok (.iconst 1, 1) := by decide +kernel
theorem d40_35 : decode (pm_code 40) 35 = .ok (.iadd, 1) := by decide +kernel
theorem d40_36 : decode (pm_code 40) 36 = .ok (.putfield 76, 3) := by decide +kernel
theorem d40_39 : decode (pm_code 40) 39 = .ok (.iload_n 3, 1) := by decide +kernel
theorem d40_40 : decode (pm_code 40) 40 = .ok (.iconst 0, 1) := by decide +kernel
theorem d40_41 : decode (pm_code 40) 41 = .ok (.invokestatic 38, 3) := by decide +kernel
theorem d40_44 : decode (pm_code 40) 44 = .ok (.ifCond .eq 14, 3) := by decide +kernel
theorem d40_47 : decode (pm_code 40) 47 = .ok (.aload_n 0, 1) := by decide +kernel
theorem d40_48 : decode (pm_code 40) 48 = .ok (.aload_n 1, 1) := by decide +kernel
theorem d40_49 : decode (pm_code 40) 49 = .ok (.iload_n 2, 1) := by decide +kernel
theorem d40_50 : decode (pm_code 40) 50 = .ok (.iconst 1, 1) := by decide +kernel
theorem d40_51 : decode (pm_code 40) 51 = .ok (.iadd, 1) := by decide +kernel
theorem d40_52 : decode (pm_code 40) 52 = .ok (.invokevirtual 79, 3) := by decide +kernel
theorem d40_55 : decode (pm_code 40) 55 = .ok (.goto 4, 3) := by decide +kernel
theorem d40_58 : decode (pm_code 40) 58 = .ok (.iconst 0, 1) := by decide +kernel
theorem d40_59 : decode (pm_code 40) 59 = .ok (.istore 4, 2) := by decide +kernel
theorem d40_61 : decode (pm_code 40) 61 = .ok (.iload_n 3, 1) := by decide +kernel
theorem d40_62 : decode (pm_code 40) 62 = .ok (.iconst 1, 1) := by decide +kernel
theorem d40_63 : decode (pm_code 40) 63 = .ok (.invokestatic 38, 3) := by decide +kernel
theorem d40_66 : decode (pm_code 40) 66 = .ok (.ifCond .eq 14, 3) := by decide +kernel
theorem d40_69 : decode (pm_code 40) 69 = .ok (.aload_n 0, 1) := by decide +kernel
theorem d40_70 : decode (pm_code 40) 70 = .ok (.aload_n 1, 1) := by decide +kernel
theorem d40_71 : decode (pm_code 40) 71 = .ok (.iload_n 2, 1) := by decide +kernel
theorem d40_72 : decode (pm_code 40) 72 = .ok (.iconst 1, 1) := by decide +kernel
theorem d40_73 : decode (pm_code 40) 73 = .ok (.iadd, 1) := by decide +kernel
theorem d40_74 : decode (pm_code 40) 74 = .ok (.invokevirtual 79, 3) := by decide +kernel
theorem d40_77 : decode (pm_code 40) 77 = .ok (.goto 4, 3) := by decide +kernel
theorem d40_80 : decode (pm_code 40) 80 = .ok (.iconst 0, 1) := by decide +kernel
theorem d40_81 : decode (pm_code 40) 81 = .ok (.istore 5, 2) := by decide +kernel
theorem d40_83 : decode (pm_code 40) 83 = .ok (.iload_n 3, 1) := by decide +kernel
theorem d40_84 : decode (pm_code 40) 84 = .ok (.iconst 2, 1) := by decide +kernel
theorem d40_85 : decode (pm_code 40) 85 = .ok (.invokestatic 38, 3) := by decide +kernel
theorem d40_88 : decode (pm_code 40) 88 = .ok (.ifCond .eq 14, 3) := by decide +kernel
theorem d40_91 : decode (pm_code 40) 91 = .ok (.aload_n 0, 1) := by decide +kernel
theorem d40_92 : decode (pm_code 40) 92 = .ok (.aload_n 1, 1) := by decide +kernel
theorem d40_93 : decode (pm_code 40) 93 = .ok (.iload_n 2, 1) := by decide +kernel
theorem d40_94 : decode (pm_code 40) 94 = .ok (.iconst 1, 1) := by decide +kernel
theorem d40_95 : decode (pm_code 40) 95 = .ok (.iadd, 1) := by decide +kernel
theorem d40_96 : decode (pm_code 40) 96 = .ok (.invokevirtual 79, 3) := by decide +kernel
theorem d40_99 : decode (pm_code 40) 99 = .ok (.goto 4, 3) := by decide +kernel
theorem d40_102 : decode (pm_code 40) 102 = .ok (.iconst 0, 1) := by decide +kernel
theorem d40_103 : decode (pm_code 40) 103 = .ok (.istore 6, 2) := by decide +kernel
theorem d40_105 : decode (pm_code 40) 105 = .ok (.aload_n 0, 1) := by decide +kernel
theorem d40_106 : decode (pm_code 40) 106 = .ok (.iload_n 3, 1) := by decide +kernel
theorem d40_107 : decode (pm_code 40) 107 = .ok (.iload 4, 2) := by decide +kernel
theorem d40_109 : decode (pm_code 40) 109 = .ok (.iload 5, 2) := by decide +kernel
theorem d40_111 : decode (pm_code 40) 111 = .ok (.iload 6, 2) := by decide +kernel
theorem d40_113 : decode (pm_code 40) 113 = .ok (.invokevirtual 54, 3) := by decide +kernel
theorem d40_116 : decode (pm_code 40) 116 = .ok (.ireturn, 1) := by decide +kernel
theorem d41_0 : decode (pm_code 41) 0 = .ok (.iload_n 1, 1) := by decide +kernel
theorem d41_1 : decode (pm_code 41) 1 = .ok (.iload_n 2, 1) := by decide +kernel
theorem d41_2 : decode (pm_code 41) 2 = .ok (.if_icmp .ne 5, 3) := by decide +kernel
theorem d41_5 : decode (pm_code 41) 5 = .ok (.iconst 1, 1) := by decide +kernel
theorem d41_6 : decode (pm_code 41) 6 = .ok (.ireturn, 1) := by decide +kernel
theorem d41_7 : decode (pm_code 41) 7 = .ok (.iload_n 3, 1) := by decide +kernel
theorem d41_8 : decode (pm_code 41) 8 = .ok (.bipush 40, 2) := by decide +kernel
theorem d41_10 : decode (pm_code 41) 10 = .ok (.if_icmp .ge 18, 3) := by decide +kernel
theorem d41_13 : decode (pm_code 41) 13 = .ok (.aload_n 0, 1) := by decide +kernel
theorem d41_14 : decode (pm_code 41) 14 = .ok (.getfield 11, 3) := by decide +kernel
theorem d41_17 : decode (pm_code 41) 17 = .ok (.iload_n 1, 1) := by decide +kernel
theorem d41_18 : decode (pm_code 41) 18 = .ok (.iaload, 1) := by decide +kernel
theorem d41_19 : decode (pm_code 41) 19 = .ok (.aload_n 0, 1) := by decide +kernel
theorem d41_20 : decode (pm_code 41) 20 = .ok (.getfield 11, 3) := by decide +kernel
theorem d41_23 : decode (pm_code 41) 23 = .ok (.iload_n 2, 1) := by decide +kernel
theorem d41_24 : decode (pm_code 41) 24 = .ok (.iaload, 1) := by decide +kernel
theorem d41_25 : decode (pm_code 41) 25 = .ok (.if_icmp .eq 5, 3) := by decide +kernel
theorem d41_28 : decode (pm_code 41) 28 = .ok (.iconst 0, 1) := by decide +kernel
theorem d41_29 : decode (pm_code 41) 29 = .ok (.ireturn, 1) := by decide +kernel
theorem d41_30 : decode (pm_code 41) 30 = .ok (.iconst 0, 1) := by decide +kernel
theorem d41_31 : decode (pm_code 41) 31 = .ok (.istore 4, 2) := by decide +kernel
theorem d41_33 : decode (pm_code 41) 33 = .ok (.iload 4, 2) := by decide +kernel
theorem d41_35 : decode (pm_code 41) 35 = .ok (.iconst 3, 1) := by decide +kernel
theorem d41_36 : decode (pm_code 41) 36 = .ok (.if_icmp .ge 49, 3) := by decide +kernel
theorem d41_39 : decode (pm_code 41) 39 = .ok (.aload_n 0, 1) := by decide +kernel
theorem d41_40 : decode (pm_code 41) 40 = .ok (.getfield 11, 3) := by decide +kernel
theorem d41_43 : decode (pm_code 41) 43 = .ok (.iload_n 1, 1) := by decide +kernel
theorem d41_44 : decode (pm_code 41) 44 = .ok (.iaload, 1) := by decide +kernel
theorem d41_45 : decode (pm_code 41) 45 = .ok (.iload 4, 2) := by decide +kernel
theorem d41_47 : decode (pm_code 41) 47 = .ok (.invokestatic 38, 3) := by decide +kernel
theorem d41_50 : decode (pm_code 41) 50 = .ok (.ifCond .eq 29, 3) := by decide +kernel
theorem d41_53 : decode (pm_code 41) 53 = .ok (.aload_n 0, 1) := by decide +kernel
theorem d41_54 : decode (pm_code 41) 54 = .ok (.aload_n 0, 1) := by decide +kernel
theorem d41_55 : decode (pm_code 41) 55 = .ok (.iload_n 1, 1) := by decide +kernel
theorem d41_56 : decode (pm_code 41) 56 = .ok (.iload 4, 2) := by decide +kernel
theorem d41_58 : decode (pm_code 41) 58 = .ok (.invokevirtual 73, 3) := by decide +kernel
theorem d41_61 : decode (pm_code 41) 61 = .ok (.aload_n 0, 1) := by decide +kernel
theorem d41_62 : decode (pm_code 41) 62 = .ok (.iload_n 2, 1) := by decide +kernel
theorem d41_63 : decode (pm_code 41) 63 = .ok (.iload 4, 2) := by decide +kernel
theorem d41_65 : decode (pm_code 41) 65 = .ok (.invokevirtual 73, 3) := by decide +kernel
theorem d41_68 : decode (pm_code 41) 68 = .ok (.iload_n 3, 1) := by decide +kernel
theorem d41_69 : decode (pm_code 41) 69 = .ok (.iconst 1, 1) := by decide +kernel
theorem d41_70 : decode (pm_code 41) 70 = .ok (.iadd, 1) := by decide +kernel
theorem d41_71 : decode (pm_code 41) 71 = .ok (.invokevirtual 86, 3) := by decide +kernel
theorem d41_74 : decode (pm_code 41) 74 = .ok (.ifCond .ne 5, 3) := by decide +kernel
theorem d41_77 : decode (pm_code 41) 77 = .ok (.iconst 0, 1) := by decide +kernel
theorem d41_78 : decode (pm_code 41) 78 = .ok (.ireturn, 1) := by decide +kernel
theorem d41_79 : decode (pm_code 41) 79 = .ok (.iinc 4 1, 3) := by decide +kernel
theorem d41_82 : decode (pm_code 41) 82 = .ok (.goto (-49), 3) := by decide +kernel
theorem d41_85 : decode (pm_code 41) 85 = .ok (.iconst 1, 1) := by decide +kernel
theorem d41_86 : decode (pm_code 41) 86 = .ok (.ireturn, 1) := by decide +kernel
theorem d42_0 : decode (pm_code 42) 0 = .ok (.iload_n 3, 1) := by decide +kernel
theorem d42_1 : decode (pm_code 42) 1 = .ok (.ifCond .eq 10, 3) := by decide +kernel
theorem d42_4 : decode (pm_code 42) 4 = .ok (.iload 4, 2) := by decide +kernel
theorem d42_6 : decode (pm_code 42) 6 = .ok (.bipush 40, 2) := by decide +kernel
theorem d42_8 : decode (pm_code 42) 8 = .ok (.if_icmp .lt 5, 3) := by decide +kernel
theorem d42_11 : decode (pm_code 42) 11 = .ok (.iload_n 1, 1) := by decide +kernel
theorem d42_12 : decode (pm_code 42) 12 = .ok (.ireturn, 1) := by decide +kernel
theorem d42_13 : decode (pm_code 42) 13 = .ok (.aload_n 0, 1) := by decide +kernel
theorem d42_14 : decode (pm_code 42) 14 = .ok (.iload_n 1, 1) := by decide +kernel
theorem d42_15 : decode (pm_code 42) 15 = .ok (.invokevirtual 90, 3) := by decide +kernel
theorem d42_18 : decode (pm_code 42) 18 = .ok (.ifCond .eq 29, 3) := by decide +kernel
theorem d42_21 : decode (pm_code 42) 21 = .ok (.aload_n 0, 1) := by decide +kernel
theorem d42_22 : decode (pm_code 42) 22 = .ok (.iload_n 1, 1) := by decide +kernel
theorem d42_23 : decode (pm_code 42) 23 = .ok (.invokevirtual 93, 3) := by decide +kernel
theorem d42_26 : decode (pm_code 42) 26 = .ok (.istore 5, 2) := by decide +kernel
theorem d42_28 : decode (pm_code 42) 28 = .ok (.iload 5, 2) := by decide +kernel
theorem d42_30 : decode (pm_code 42) 30 = .ok (.iload_n 2, 1) := by decide +kernel
theorem d42_31 : decode (pm_code 42) 31 = .ok (.if_icmp .ge 7, 3) := by decide +kernel
theorem d42_34 : decode (pm_code 42) 34 = .ok (.iload_n 1, 1) := by decide +kernel
theorem d42_35 : decode (pm_code 42) 35 = .ok (.goto 11, 3) := by decide +kernel
theorem d42_38 : decode (pm_code 42) 38 = .ok (.aload_n 0, 1) := by decide +kernel
theorem d42_39 : decode (pm_code 42) 39 = .ok (.iload 5, 2) := by decide +kernel
theorem d42_41 : decode (pm_code 42) 41 = .ok (.iload_n 3, 1) := by decide +kernel
theorem d42_42 : decode (pm_code 42) 42 = .ok (.iadd, 1) := by decide +kernel
theorem d42_43 : decode (pm_code 42) 43 = .ok (.invokevirtual 97, 3) := by decide +kernel
theorem d42_46 : decode (pm_code 42) 46 = .ok (.ireturn, 1) := by decide +kernel
theorem d42_47 : decode (pm_code 42) 47 = .ok (.aload_n 0, 1) := by decide +kernel
theorem d42_48 : decode (pm_code 42) 48 = .ok (.getfield 11, 3) := by decide +kernel
theorem d42_51 : decode (pm_code 42) 51 = .ok (.iload_n 1, 1) := by decide +kernel
theorem d42_52 : decode (pm_code 42) 52 = .ok (.iaload, 1) := by decide +kernel
theorem d42_53 : decode (pm_code 42) 53 = .ok (.iconst 0, 1) := by decide +kernel
theorem d42_54 : decode (pm_code 42) 54 = .ok (.invokestatic 38, 3) := by decide +kernel
theorem d42_57 : decode (pm_code 42) 57 = .ok (.ifCond .eq 22, 3) := by decide +kernel
theorem d42_60 : decode (pm_code 42) 60 = .ok (.aload_n 0, 1) := by decide +kernel
theorem d42_61 : decode (pm_code 42) 61 = .ok (.aload_n 0, 1) := by decide +kernel
theorem d42_62 : decode (pm_code 42) 62 = .ok (.getfield 15, 3) := by decide +kernel
theorem d42_65 : decode (pm_code 42) 65 = .ok (.iload_n 1, 1) := by decide +kernel
theorem d42_66 : decode (pm_code 42) 66 = .ok (.iaload, 1) := by decide +kernel
theorem d42_67 : decode (pm_code 42) 67 = .ok (.iload_n 2, 1) := by decide +kernel
theorem d42_68 : decode (pm_code 42) 68 = .ok (.iload_n 3, 1) := by decide +kernel
theorem d42_69 : decode (pm_code 42) 69 = .ok (.iload 4, 2) := by decide +kernel
theorem d42_71 : decode (pm_code 42) 71 = .ok (.iconst 1, 1) := by decide +kernel
theorem d42_72 : decode (pm_code 42) 72 = .ok (.iadd, 1) := by decide +kernel
theorem d42_73 : decode (pm_code 42) 73 = .ok (.invokevirtual 100, 3) := by decide +kernel
theorem d42_76 : decode (pm_code 42) 76 = .ok (.goto 9, 3) := by decide +kernel
theorem d42_79 : decode (pm_code 42) 79 = .ok (.aload_n 0, 1) := by decide +kernel
theorem d42_80 : decode (pm_code 42) 80 = .ok (.getfield 15, 3) := by decide +kernel
theorem d42_83 : decode (pm_code 42) 83 = .ok (.iload_n 1, 1) := by decide +kernel
theorem d42_84 : decode (pm_code 42) 84 = .ok (.iaload, 1) := by decide +kernel
theorem d42_85 : decode (pm_code 42) 85 = .ok (.istore 5, 2) := by decide +kernel
theorem d42_87 : decode (pm_code 42) 87 = .ok (.aload_n 0, 1) := by decide +kernel
theorem d42_88 : decode (pm_code 42) 88 = .ok (.getfield 11, 3) := by decide +kernel
theorem d42_91 : decode (pm_code 42) 91 = .ok (.iload_n 1, 1) := by decide +kernel
theorem d42_92 : decode (pm_code 42) 92 = .ok (.iaload, 1) := by decide +kernel
theorem d42_93 : decode (pm_code 42) 93 = .ok (.iconst 1, 1) := by decide +kernel
theorem d42_94 : decode (pm_code 42) 94 = .ok (.invokestatic 38, 3) := by decide +kernel
theorem d42_97 : decode (pm_code 42) 97 = .ok (.ifCond .eq 22, 3) := by decide +kernel
theorem d42_100 : decode (pm_code 42) 100 = .ok (.aload_n 0, 1) := by decide +kernel
theorem d42_101 : decode (pm_code 42) 101 = .ok (.aload_n 0, 1) := by decide +kernel
theorem d42_102 : decode (pm_code 42) 102 = .ok (.getfield 18, 3) := by decide +kernel
theorem d42_105 : decode (pm_code 42) 105 = .ok (.iload_n 1, 1) := by decide +kernel
theorem d42_106 : decode (pm_code 42) 106 = .ok (.iaload, 1) := by decide +kernel
theorem d42_107 : decode (pm_code 42) 107 = .ok (.iload_n 2, 1) := by decide +kernel
theorem d42_108 : decode (pm_code 42) 108 = .ok (.iload_n 3, 1) := by decide +kernel
theorem d42_109 : decode (pm_code 42) 109 = .ok (.iload 4, 2) := by decide +kernel
theorem d42_111 : decode (pm_code 42) 111 = .ok (.iconst 1, 1) := by decide +kernel
theorem d42_112 : decode (pm_code 42) 112 = .ok (.iadd, 1) := by decide +kernel
theorem d42_113 : decode (pm_code 42) 113 = .ok (.invokevirtual 100, 3) := by decide +kernel
theorem d42_116 : decode (pm_code 42) 116 = .ok (.goto 9, 3) := by decide +kernel
theorem d42_119 : decode (pm_code 42) 119 = .ok (.aload_n 0, 1) := by decide +kernel
theorem d42_120 : decode (pm_code 42) 120 = .ok (.getfield 18, 3) := by decide +kernel
theorem d42_123 : decode (pm_code 42) 123 = .ok (.iload_n 1, 1) := by decide +kernel
theorem d42_124 : decode (pm_code 42) 124 = .ok (.iaload, 1) := by decide +kernel
theorem d42_125 : decode (pm_code 42) 125 = .ok (.istore 6, 2) := by decide +kernel
theorem d42_127 : decode (pm_code 42) 127 = .ok (.aload_n 0, 1) := by decide +kernel
theorem d42_128 : decode (pm_code 42) 128 = .ok (.getfield 11, 3) := by decide +kernel
theorem d42_131 : decode (pm_code 42) 131 = .ok (.iload_n 1, 1) := by decide +kernel
theorem d42_132 : decode (pm_code 42) 132 = .ok (.iaload, 1) := by decide +kernel
theorem d42_133 : decode (pm_code 42) 133 = .ok (.iconst 2, 1) := by decide +kernel
theorem d42_134 : decode (pm_code 42) 134 = .ok (.invokestatic 38, 3) := by decide +kernel
theorem d42_137 : decode (pm_code 42) 137 = .ok (.ifCond .eq 22, 3) := by decide +kernel
theorem d42_140 : decode (pm_code 42) 140 = .ok (.aload_n 0, 1) := by decide +kernel
theorem d42_141 : decode (pm_code 42) 141 = .ok (.aload_n 0, 1) := by decide +kernel
theorem d42_142 : decode (pm_code 42) 142 = .ok (.getfield 21, 3) := by decide +kernel
theorem d42_145 : decode (pm_code 42) 145 = .ok (.iload_n 1, 1) := by decide +kernel
theorem d42_146 : decode (pm_code 42) 146 = .ok (.iaload, 1) := by decide +kernel
theorem d42_147 : decode (pm_code 42) 147 = .ok (.iload_n 2, 1) := by decide +kernel
theorem d42_148 : decode (pm_code 42) 148 = .ok (.iload_n 3, 1) := by decide +kernel
theorem d42_149 : decode (pm_code 42) 149 = .ok (.iload 4, 2) := by decide +kernel
theorem d42_151 : decode (pm_code 42) 151 = .ok (.iconst 1, 1) := by decide +kernel
theorem d42_152 : decode (pm_code 42) 152 = .ok (.iadd, 1) := by decide +kernel
theorem d42_153 : decode (pm_code 42) 153 = .ok (.invokevirtual 100, 3) := by decide +kernel
theorem d42_156 : decode (pm_code 42) 156 = .ok (.goto 9, 3) := by decide +kernel
theorem d42_159 : decode (pm_code 42) 159 = .ok (.aload_n 0, 1) := by decide +kernel
theorem d42_160 : decode (pm_code 42) 160 = .ok (.getfield 21, 3) := by decide +kernel
theorem d42_163 : decode (pm_code 42) 163 = .ok (.iload_n 1, 1) := by decide +kernel
theorem d42_164 : decode (pm_code 42) 164 = .ok (.iaload, 1) := by decide +kernel
theorem d42_165 : decode (pm_code 42) 165 = .ok (.istore 7, 2) := by decide +kernel
theorem d42_167 : decode (pm_code 42) 167 = .ok (.aload_n 0, 1) := by decide +kernel
theorem d42_168 : decode (pm_code 42) 168 = .ok (.iload_n 1, 1) := by decide +kernel
theorem d42_169 : decode (pm_code 42) 169 = .ok (.iload 5, 2) := by decide +kernel
theorem d42_171 : decode (pm_code 42) 171 = .ok (.iload 6, 2) := by decide +kernel
theorem d42_173 : decode (pm_code 42) 173 = .ok (.iload 7, 2) := by decide +kernel
theorem d42_175 : decode (pm_code 42) 175 = .ok (.invokevirtual 103, 3) := by decide +kernel
theorem d42_178 : decode (pm_code 42) 178 = .ok (.ireturn, 1) := by decide +kernel
theorem d43_0 : decode (pm_code 43) 0 = .ok (.iload_n 2, 1) := by decide +kernel
theorem d43_1 : decode (pm_code 43) 1 = .ok (.aload_n 0, 1) := by decide +kernel
theorem d43_2 : decode (pm_code 43) 2 = .ok (.getfield 15, 3) := by decide +kernel
theorem d43_5 : decode (pm_code 43) 5 = .ok (.iload_n 1, 1) := by decide +kernel
theorem d43_6 : decode (pm_code 43) 6 = .ok (.iaload, 1) := by decide +kernel
theorem d43_7 : decode (pm_code 43) 7 = .ok (.if_icmp .ne 26, 3) := by decide +kernel
theorem d43_10 : decode (pm_code 43) 10 = .ok (.iload_n 3, 1) := by decide +kernel
theorem d43_11 : decode (pm_code 43) 11 = .ok (.aload_n 0, 1) := by decide +kernel
theorem d43_12 : decode (pm_code 43) 12 = .ok (.getfield 18, 3) := by decide +kernel
theorem d43_15 : decode (pm_code 43) 15 = .ok (.iload_n 1, 1) := by decide +kernel
theorem d43_16 : decode (pm_code 43) 16 = .ok (.iaload, 1) := by decide +kernel
theorem d43_17 : decode (pm_code 43) 17 = .ok (.if_icmp .ne 16, 3) := by decide +kernel
theorem d43_20 : decode (pm_code 43) 20 = .ok (.iload 4, 2) := by decide +kernel
theorem d43_22 : decode (pm_code 43) 22 = .ok (.aload_n 0, 1) := by decide +kernel
theorem d43_23 : decode (pm_code 43) 23 = .ok (.getfield 21, 3) := by decide +kernel
theorem d43_26 : decode (pm_code 43) 26 = .ok (.iload_n 1, 1) := by decide +kernel
theorem d43_27 : decode (pm_code 43) 27 = .ok (.iaload, 1) := by decide +kernel
theorem d43_28 : decode (pm_code 43) 28 = .ok (.if_icmp .ne 5, 3) := by decide +kernel
theorem d43_31 : decode (pm_code 43) 31 = .ok (.iload_n 1, 1) := by decide +kernel
theorem d43_32 : decode (pm_code 43) 32 = .ok (.ireturn, 1) := by decide +kernel
theorem d43_33 : decode (pm_code 43) 33 = .ok (.aload_n 0, 1) := by decide +kernel
theorem d43_34 : decode (pm_code 43) 34 = .ok (.aload_n 0, 1) := by decide +kernel
theorem d43_35 : decode (pm_code 43) 35 = .ok (.getfield 11, 3) := by decide +kernel
theorem d43_38 : decode (pm_code 43) 38 = .ok (.iload_n 1, 1) := by decide +kernel
theorem d43_39 : decode (pm_code 43) 39 = .ok (.iaload, 1) := by decide +kernel
theorem d43_40 : decode (pm_code 43) 40 = .ok (.iload_n 2, 1) := by decide +kernel
theorem d43_41 : decode (pm_code 43) 41 = .ok (.iload_n 3, 1) := by decide +kernel
theorem d43_42 : decode (pm_code 43) 42 = .ok (.iload 4, 2) := by decide +kernel
theorem d43_44 : decode (pm_code 43) 44 = .ok (.invokevirtual 54, 3) := by decide +kernel
theorem d43_47 : decode (pm_code 43) 47 = .ok (.ireturn, 1) := by decide +kernel
