/-! DECODE ROWS (by program) of methods 109 to 136. -/
theorem d109_0 : decode (pm_code 109) 0 = .ok (.aload_n 0, 1) := by decide +kernel
theorem d109_1 : decode (pm_code 109) 1 = .ok (.iload_n 1, 1) := by decide +kernel
theorem d109_2 : decode (pm_code 109) 2 = .ok (.iconst 0, 1) := by decide +kernel
theorem d109_3 : decode (pm_code 109) 3 = .ok (.iload_n 2, 1) := by decide +kernel
theorem d109_4 : decode (pm_code 109) 4 = .ok (.iload_n 3, 1) := by decide +kernel
theorem d109_5 : decode (pm_code 109) 5 = .ok (.invokevirtual 105, 3) := by decide +kernel
theorem d109_8 : decode (pm_code 109) 8 = .ok (.istore 4, 2) := by decide +kernel
theorem d109_10 : decode (pm_code 109) 10 = .ok (.iload 4, 2) := by decide +kernel
theorem d109_12 : decode (pm_code 109) 12 = .ok (.iconst (-1), 1) := by decide +kernel
theorem d109_13 : decode (pm_code 109) 13 = .ok (.if_icmp .ne 7, 3) := by decide +kernel
theorem d109_16 : decode (pm_code 109) 16 = .ok (.iconst (-1), 1) := by decide +kernel
theorem d109_17 : decode (pm_code 109) 17 = .ok (.goto 11, 3) := by decide +kernel
theorem d109_20 : decode (pm_code 109) 20 = .ok (.aload_n 0, 1) := by decide +kernel
theorem d109_21 : decode (pm_code 109) 21 = .ok (.iload_n 1, 1) := by decide +kernel
theorem d109_22 : decode (pm_code 109) 22 = .ok (.iconst 1, 1) := by decide +kernel
theorem d109_23 : decode (pm_code 109) 23 = .ok (.iload_n 2, 1) := by decide +kernel
theorem d109_24 : decode (pm_code 109) 24 = .ok (.iload_n 3, 1) := by decide +kernel
theorem d109_25 : decode (pm_code 109) 25 = .ok (.invokevirtual 105, 3) := by decide +kernel
theorem d109_28 : decode (pm_code 109) 28 = .ok (.istore 5, 2) := by decide +kernel
theorem d109_30 : decode (pm_code 109) 30 = .ok (.iload 5, 2) := by decide +kernel
theorem d109_32 : decode (pm_code 109) 32 = .ok (.iconst (-1), 1) := by decide +kernel
theorem d109_33 : decode (pm_code 109) 33 = .ok (.if_icmp .ne 7, 3) := by decide +kernel
theorem d109_36 : decode (pm_code 109) 36 = .ok (.iconst (-1), 1) := by decide +kernel
theorem d109_37 : decode (pm_code 109) 37 = .ok (.goto 11, 3) := by decide +kernel
theorem d109_40 : decode (pm_code 109) 40 = .ok (.aload_n 0, 1) := by decide +kernel
theorem d109_41 : decode (pm_code 109) 41 = .ok (.iload_n 1, 1) := by decide +kernel
theorem d109_42 : decode (pm_code 109) 42 = .ok (.iconst 2, 1) := by decide +kernel
theorem d109_43 : decode (pm_code 109) 43 = .ok (.iload_n 2, 1) := by decide +kernel
theorem d109_44 : decode (pm_code 109) 44 = .ok (.iload_n 3, 1) := by decide +kernel
theorem d109_45 : decode (pm_code 109) 45 = .ok (.invokevirtual 105, 3) := by decide +kernel
theorem d109_48 : decode (pm_code 109) 48 = .ok (.istore 6, 2) := by decide +kernel
theorem d109_50 : decode (pm_code 109) 50 = .ok (.iload 6, 2) := by decide +kernel
theorem d109_52 : decode (pm_code 109) 52 = .ok (.iconst (-1), 1) := by decide +kernel
theorem d109_53 : decode (pm_code 109) 53 = .ok (.if_icmp .ne 7, 3) := by decide +kernel
theorem d109_56 : decode (pm_code 109) 56 = .ok (.iconst (-1), 1) := by decide +kernel
theorem d109_57 : decode (pm_code 109) 57 = .ok (.goto 28, 3) := by decide +kernel
theorem d109_60 : decode (pm_code 109) 60 = .ok (.aload_n 0, 1) := by decide +kernel
theorem d109_61 : decode (pm_code 109) 61 = .ok (.getfield 9, 3) := by decide +kernel
theorem d109_64 : decode (pm_code 109) 64 = .ok (.bipush 8, 2) := by decide +kernel
theorem d109_66 : decode (pm_code 109) 66 = .ok (.aload_n 0, 1) := by decide +kernel
theorem d109_67 : decode (pm_code 109) 67 = .ok (.getfield 15, 3) := by decide +kernel
theorem d109_70 : decode (pm_code 109) 70 = .ok (.getfield 69, 3) := by decide +kernel
theorem d109_73 : decode (pm_code 109) 73 = .ok (.iload_n 1, 1) := by decide +kernel
theorem d109_74 : decode (pm_code 109) 74 = .ok (.iaload, 1) := by decide +kernel
theorem d109_75 : decode (pm_code 109) 75 = .ok (.iadd, 1) := by decide +kernel
theorem d109_76 : decode (pm_code 109) 76 = .ok (.iload 4, 2) := by decide +kernel
theorem d109_78 : decode (pm_code 109) 78 = .ok (.iload 5, 2) := by decide +kernel
theorem d109_80 : decode (pm_code 109) 80 = .ok (.iload 6, 2) := by decide +kernel
theorem d109_82 : decode (pm_code 109) 82 = .ok (.invokevirtual 82, 3) := by decide +kernel
theorem d109_85 : decode (pm_code 109) 85 = .ok (.ireturn, 1) := by decide +kernel
theorem d110_0 : decode (pm_code 110) 0 = .ok (.aload_n 0, 1) := by decide +kernel
theorem d110_1 : decode (pm_code 110) 1 = .ok (.getfield 15, 3) := by decide +kernel
theorem d110_4 : decode (pm_code 110) 4 = .ok (.iload_n 1, 1) := by decide +kernel
theorem d110_5 : decode (pm_code 110) 5 = .ok (.iload_n 2, 1) := by decide +kernel
theorem d110_6 : decode (pm_code 110) 6 = .ok (.invokevirtual 108, 3) := by decide +kernel
theorem d110_9 : decode (pm_code 110) 9 = .ok (.ifCond .ne 5, 3) := by decide +kernel
theorem d110_12 : decode (pm_code 110) 12 = .ok (.iconst 0, 1) := by decide +kernel
theorem d110_13 : decode (pm_code 110) 13 = .ok (.ireturn, 1) := by decide +kernel
theorem d110_14 : decode (pm_code 110) 14 = .ok (.aload_n 0, 1) := by decide +kernel
theorem d110_15 : decode (pm_code 110) 15 = .ok (.aload_n 0, 1) := by decide +kernel
theorem d110_16 : decode (pm_code 110) 16 = .ok (.getfield 15, 3) := by decide +kernel
theorem d110_19 : decode (pm_code 110) 19 = .ok (.iload_n 1, 1) := by decide +kernel
theorem d110_20 : decode (pm_code 110) 20 = .ok (.iload_n 2, 1) := by decide +kernel
theorem d110_21 : decode (pm_code 110) 21 = .ok (.invokevirtual 111, 3) := by decide +kernel
theorem d110_24 : decode (pm_code 110) 24 = .ok (.iload_n 3, 1) := by decide +kernel
theorem d110_25 : decode (pm_code 110) 25 = .ok (.iload 4, 2) := by decide +kernel
theorem d110_27 : decode (pm_code 110) 27 = .ok (.iconst 1, 1) := by decide +kernel
theorem d110_28 : decode (pm_code 110) 28 = .ok (.iadd, 1) := by decide +kernel
theorem d110_29 : decode (pm_code 110) 29 = .ok (.invokevirtual 79, 3) := by decide +kernel
theorem d110_32 : decode (pm_code 110) 32 = .ok (.ireturn, 1) := by decide +kernel
theorem d111_0 : decode (pm_code 111) 0 = .ok (.aload_n 0, 1) := by decide +kernel
theorem d111_1 : decode (pm_code 111) 1 = .ok (.aload_n 0, 1) := by decide +kernel
theorem d111_2 : decode (pm_code 111) 2 = .ok (.getfield 15, 3) := by decide +kernel
theorem d111_5 : decode (pm_code 111) 5 = .ok (.getfield 66, 3) := by decide +kernel
theorem d111_8 : decode (pm_code 111) 8 = .ok (.iload_n 1, 1) := by decide +kernel
theorem d111_9 : decode (pm_code 111) 9 = .ok (.iaload, 1) := by decide +kernel
theorem d111_10 : decode (pm_code 111) 10 = .ok (.iload_n 2, 1) := by decide +kernel
theorem d111_11 : decode (pm_code 111) 11 = .ok (.iload_n 3, 1) := by decide +kernel
theorem d111_12 : decode (pm_code 111) 12 = .ok (.iconst 1, 1) := by decide +kernel
theorem d111_13 : decode (pm_code 111) 13 = .ok (.iadd, 1) := by decide +kernel
theorem d111_14 : decode (pm_code 111) 14 = .ok (.invokevirtual 79, 3) := by decide +kernel
theorem d111_17 : decode (pm_code 111) 17 = .ok (.istore 4, 2) := by decide +kernel
theorem d111_19 : decode (pm_code 111) 19 = .ok (.iload 4, 2) := by decide +kernel
theorem d111_21 : decode (pm_code 111) 21 = .ok (.iconst (-1), 1) := by decide +kernel
theorem d111_22 : decode (pm_code 111) 22 = .ok (.if_icmp .ne 5, 3) := by decide +kernel
theorem d111_25 : decode (pm_code 111) 25 = .ok (.iconst (-1), 1) := by decide +kernel
theorem d111_26 : decode (pm_code 111) 26 = .ok (.ireturn, 1) := by decide +kernel
theorem d111_27 : decode (pm_code 111) 27 = .ok (.aload_n 0, 1) := by decide +kernel
theorem d111_28 : decode (pm_code 111) 28 = .ok (.getfield 9, 3) := by decide +kernel
theorem d111_31 : decode (pm_code 111) 31 = .ok (.iload 4, 2) := by decide +kernel
theorem d111_33 : decode (pm_code 111) 33 = .ok (.iload_n 2, 1) := by decide +kernel
theorem d111_34 : decode (pm_code 111) 34 = .ok (.invokevirtual 85, 3) := by decide +kernel
theorem d111_37 : decode (pm_code 111) 37 = .ok (.istore 5, 2) := by decide +kernel
theorem d111_39 : decode (pm_code 111) 39 = .ok (.aload_n 0, 1) := by decide +kernel
theorem d111_40 : decode (pm_code 111) 40 = .ok (.getfield 15, 3) := by decide +kernel
theorem d111_43 : decode (pm_code 111) 43 = .ok (.getfield 69, 3) := by decide +kernel
theorem d111_46 : decode (pm_code 111) 46 = .ok (.iload_n 1, 1) := by decide +kernel
theorem d111_47 : decode (pm_code 111) 47 = .ok (.iaload, 1) := by decide +kernel
theorem d111_48 : decode (pm_code 111) 48 = .ok (.istore 6, 2) := by decide +kernel
theorem d111_50 : decode (pm_code 111) 50 = .ok (.aload_n 0, 1) := by decide +kernel
theorem d111_51 : decode (pm_code 111) 51 = .ok (.getfield 9, 3) := by decide +kernel
theorem d111_54 : decode (pm_code 111) 54 = .ok (.iload 5, 2) := by decide +kernel
theorem d111_56 : decode (pm_code 111) 56 = .ok (.invokevirtual 114, 3) := by decide +kernel
theorem d111_59 : decode (pm_code 111) 59 = .ok (.ifCond .eq 25, 3) := by decide +kernel
theorem d111_62 : decode (pm_code 111) 62 = .ok (.aload_n 0, 1) := by decide +kernel
theorem d111_63 : decode (pm_code 111) 63 = .ok (.getfield 9, 3) := by decide +kernel
theorem d111_66 : decode (pm_code 111) 66 = .ok (.getfield 88, 3) := by decide +kernel
theorem d111_69 : decode (pm_code 111) 69 = .ok (.iload 5, 2) := by decide +kernel
theorem d111_71 : decode (pm_code 111) 71 = .ok (.iaload, 1) := by decide +kernel
theorem d111_72 : decode (pm_code 111) 72 = .ok (.iload 6, 2) := by decide +kernel
theorem d111_74 : decode (pm_code 111) 74 = .ok (.invokestatic 118, 3) := by decide +kernel
theorem d111_77 : decode (pm_code 111) 77 = .ok (.ifCond .eq 7, 3) := by decide +kernel
theorem d111_80 : decode (pm_code 111) 80 = .ok (.iconst 1, 1) := by decide +kernel
theorem d111_81 : decode (pm_code 111) 81 = .ok (.goto 4, 3) := by decide +kernel
theorem d111_84 : decode (pm_code 111) 84 = .ok (.iconst 0, 1) := by decide +kernel
theorem d111_85 : decode (pm_code 111) 85 = .ok (.istore 7, 2) := by decide +kernel
theorem d111_87 : decode (pm_code 111) 87 = .ok (.iload 7, 2) := by decide +kernel
theorem d111_89 : decode (pm_code 111) 89 = .ok (.ifCond .eq 17, 3) := by decide +kernel
theorem d111_92 : decode (pm_code 111) 92 = .ok (.aload_n 0, 1) := by decide +kernel
theorem d111_93 : decode (pm_code 111) 93 = .ok (.getfield 9, 3) := by decide +kernel
theorem d111_96 : decode (pm_code 111) 96 = .ok (.iload 5, 2) := by decide +kernel
theorem d111_98 : decode (pm_code 111) 98 = .ok (.iload 6, 2) := by decide +kernel
theorem d111_100 : decode (pm_code 111) 100 = .ok (.invokevirtual 119, 3) := by decide +kernel
theorem d111_103 : decode (pm_code 111) 103 = .ok (.goto 4, 3) := by decide +kernel
theorem d111_106 : decode (pm_code 111) 106 = .ok (.iconst (-1), 1) := by decide +kernel
theorem d111_107 : decode (pm_code 111) 107 = .ok (.ireturn, 1) := by decide +kernel
theorem d112_0 : decode (pm_code 112) 0 = .ok (.aload_n 0, 1) := by decide +kernel
theorem d112_1 : decode (pm_code 112) 1 = .ok (.aload_n 0, 1) := by decide +kernel
theorem d112_2 : decode (pm_code 112) 2 = .ok (.getfield 15, 3) := by decide +kernel
theorem d112_5 : decode (pm_code 112) 5 = .ok (.getfield 66, 3) := by decide +kernel
theorem d112_8 : decode (pm_code 112) 8 = .ok (.iload_n 1, 1) := by decide +kernel
theorem d112_9 : decode (pm_code 112) 9 = .ok (.iaload, 1) := by decide +kernel
theorem d112_10 : decode (pm_code 112) 10 = .ok (.iload_n 2, 1) := by decide +kernel
theorem d112_11 : decode (pm_code 112) 11 = .ok (.iload_n 3, 1) := by decide +kernel
theorem d112_12 : decode (pm_code 112) 12 = .ok (.iconst 1, 1) := by decide +kernel
theorem d112_13 : decode (pm_code 112) 13 = .ok (.iadd, 1) := by decide +kernel
theorem d112_14 : decode (pm_code 112) 14 = .ok (.invokevirtual 79, 3) := by decide +kernel
theorem d112_17 : decode (pm_code 112) 17 = .ok (.istore 4, 2) := by decide +kernel
theorem d112_19 : decode (pm_code 112) 19 = .ok (.iload 4, 2) := by decide +kernel
theorem d112_21 : decode (pm_code 112) 21 = .ok (.iconst (-1), 1) := by decide +kernel
theorem d112_22 : decode (pm_code 112) 22 = .ok (.if_icmp .ne 7, 3) := by decide +kernel
theorem d112_25 : decode (pm_code 112) 25 = .ok (.iconst (-1), 1) := by decide +kernel
theorem d112_26 : decode (pm_code 112) 26 = .ok (.goto 20, 3) := by decide +kernel
theorem d112_29 : decode (pm_code 112) 29 = .ok (.aload_n 0, 1) := by decide +kernel
theorem d112_30 : decode (pm_code 112) 30 = .ok (.aload_n 0, 1) := by decide +kernel
theorem d112_31 : decode (pm_code 112) 31 = .ok (.getfield 15, 3) := by decide +kernel
theorem d112_34 : decode (pm_code 112) 34 = .ok (.getfield 76, 3) := by decide +kernel
theorem d112_37 : decode (pm_code 112) 37 = .ok (.iload_n 1, 1) := by decide +kernel
theorem d112_38 : decode (pm_code 112) 38 = .ok (.iaload, 1) := by decide +kernel
theorem d112_39 : decode (pm_code 112) 39 = .ok (.iload_n 2, 1) := by decide +kernel
theorem d112_40 : decode (pm_code 112) 40 = .ok (.iload_n 3, 1) := by decide +kernel
theorem d112_41 : decode (pm_code 112) 41 = .ok (.iconst 1, 1) := by decide +kernel
theorem d112_42 : decode (pm_code 112) 42 = .ok (.iadd, 1) := by decide +kernel
theorem d112_43 : decode (pm_code 112) 43 = .ok (.invokevirtual 79, 3) := by decide +kernel
theorem d112_46 : decode (pm_code 112) 46 = .ok (.istore 5, 2) := by decide +kernel
theorem d112_48 : decode (pm_code 112) 48 = .ok (.iload 5, 2) := by decide +kernel
theorem d112_50 : decode (pm_code 112) 50 = .ok (.iconst (-1), 1) := by decide +kernel
theorem d112_51 : decode (pm_code 112) 51 = .ok (.if_icmp .ne 7, 3) := by decide +kernel
theorem d112_54 : decode (pm_code 112) 54 = .ok (.iconst (-1), 1) := by decide +kernel
theorem d112_55 : decode (pm_code 112) 55 = .ok (.goto 16, 3) := by decide +kernel
theorem d112_58 : decode (pm_code 112) 58 = .ok (.aload_n 0, 1) := by decide +kernel
theorem d112_59 : decode (pm_code 112) 59 = .ok (.getfield 9, 3) := by decide +kernel
theorem d112_62 : decode (pm_code 112) 62 = .ok (.iload 4, 2) := by decide +kernel
theorem d112_64 : decode (pm_code 112) 64 = .ok (.iload 5, 2) := by decide +kernel
theorem d112_66 : decode (pm_code 112) 66 = .ok (.iload_n 2, 1) := by decide +kernel
theorem d112_67 : decode (pm_code 112) 67 = .ok (.iconst 0, 1) := by decide +kernel
theorem d112_68 : decode (pm_code 112) 68 = .ok (.invokevirtual 120, 3) := by decide +kernel
theorem d112_71 : decode (pm_code 112) 71 = .ok (.ireturn, 1) := by decide +kernel
theorem d113_0 : decode (pm_code 113) 0 = .ok (.aload_n 0, 1) := by decide +kernel
theorem d113_1 : decode (pm_code 113) 1 = .ok (.invokespecial 5, 3) := by decide +kernel
theorem d113_4 : decode (pm_code 113) 4 = .ok (.aload_n 0, 1) := by decide +kernel
theorem d113_5 : decode (pm_code 113) 5 = .ok (.bipush 8, 2) := by decide +kernel
theorem d113_7 : decode (pm_code 113) 7 = .ok (.newarray .int, 2) := by decide +kernel
theorem d113_9 : decode (pm_code 113) 9 = .ok (.putfield 11, 3) := by decide +kernel
theorem d113_12 : decode (pm_code 113) 12 = .ok (.aload_n 0, 1) := by decide +kernel
theorem d113_13 : decode (pm_code 113) 13 = .ok (.bipush 8, 2) := by decide +kernel
theorem d113_15 : decode (pm_code 113) 15 = .ok (.newarray .int, 2) := by decide +kernel
theorem d113_17 : decode (pm_code 113) 17 = .ok (.putfield 15, 3) := by decide +kernel
theorem d113_20 : decode (pm_code 113) 20 = .ok (.aload_n 0, 1) := by decide +kernel
theorem d113_21 : decode (pm_code 113) 21 = .ok (.bipush 8, 2) := by decide +kernel
theorem d113_23 : decode (pm_code 113) 23 = .ok (.newarray .int, 2) := by decide +kernel
theorem d113_25 : decode (pm_code 113) 25 = .ok (.putfield 18, 3) := by decide +kernel
theorem d113_28 : decode (pm_code 113) 28 = .ok (.aload_n 0, 1) := by decide +kernel
theorem d113_29 : decode (pm_code 113) 29 = .ok (.bipush 8, 2) := by decide +kernel
theorem d113_31 : decode (pm_code 113) 31 = .ok (.newarray .int, 2) := by decide +kernel
theorem d113_33 : decode (pm_code 113) 33 = .ok (.putfield 21, 3) := by decide +kernel
theorem d113_36 : decode (pm_code 113) 36 = .ok (.aload_n 0, 1) := by decide +kernel
theorem d113_37 : decode (pm_code 113) 37 = .ok (.bipush 61, 2) := by decide +kernel
theorem d113_39 : decode (pm_code 113) 39 = .ok (.newarray .int, 2) := by decide +kernel
theorem d113_41 : decode (pm_code 113) 41 = .ok (.putfield 24, 3) := by decide +kernel
theorem d113_44 : decode (pm_code 113) 44 = .ok (.aload_n 0, 1) := by decide +kernel
theorem d113_45 : decode (pm_code 113) 45 = .ok (.bipush 61, 2) := by decide +kernel
theorem d113_47 : decode (pm_code 113) 47 = .ok (.newarray .int, 2) := by decide +kernel
theorem d113_49 : decode (pm_code 113) 49 = .ok (.putfield 27, 3) := by decide +kernel
theorem d113_52 : decode (pm_code 113) 52 = .ok (.aload_n 0, 1) := by decide +kernel
theorem d113_53 : decode (pm_code 113) 53 = .ok (.bipush 61, 2) := by decide +kernel
theorem d113_55 : decode (pm_code 113) 55 = .ok (.newarray .int, 2) := by decide +kernel
theorem d113_57 : decode (pm_code 113) 57 = .ok (.putfield 30, 3) := by decide +kernel
theorem d113_60 : decode (pm_code 113) 60 = .ok (.aload_n 0, 1) := by decide +kernel
theorem d113_61 : decode (pm_code 113) 61 = .ok (.new 33, 3) := by decide +kernel
theorem d113_64 : decode (pm_code 113) 64 = .ok (.dup, 1) := by decide +kernel
theorem d113_65 : decode (pm_code 113) 65 = .ok (.invokespecial 35, 3) := by decide +kernel
theorem d113_68 : decode (pm_code 113) 68 = .ok (.putfield 36, 3) := by decide +kernel
theorem d113_71 : decode (pm_code 113) 71 = .ok (.aload_n 0, 1) := by decide +kernel
theorem d113_72 : decode (pm_code 113) 72 = .ok (.aload_n 1, 1) := by decide +kernel
theorem d113_73 : decode (pm_code 113) 73 = .ok (.putfield 40, 3) := by decide +kernel
theorem d113_76 : decode (pm_code 113) 76 = .ok (.return_, 1) := by decide +kernel
theorem d114_0 : decode (pm_code 114) 0 = .ok (.aload_n 0, 1) := by decide +kernel
theorem d114_1 : decode (pm_code 114) 1 = .ok (.aload_n 1, 1) := by decide +kernel
theorem d114_2 : decode (pm_code 114) 2 = .ok (.putfield 40, 3) := by decide +kernel
theorem d114_5 : decode (pm_code 114) 5 = .ok (.aload_n 0, 1) := by decide +kernel
theorem d114_6 : decode (pm_code 114) 6 = .ok (.iconst 0, 1) := by decide +kernel
theorem d114_7 : decode (pm_code 114) 7 = .ok (.putfield 44, 3) := by decide +kernel
theorem d114_10 : decode (pm_code 114) 10 = .ok (.aload_n 0, 1) := by decide +kernel
theorem d114_11 : decode (pm_code 114) 11 = .ok (.getfield 36, 3) := by decide +kernel
theorem d114_14 : decode (pm_code 114) 14 = .ok (.iconst 0, 1) := by decide +kernel
theorem d114_15 : decode (pm_code 114) 15 = .ok (.putfield 48, 3) := by decide +kernel
theorem d114_18 : decode (pm_code 114) 18 = .ok (.aload_n 0, 1) := by decide +kernel
theorem d114_19 : decode (pm_code 114) 19 = .ok (.iconst 0, 1) := by decide +kernel
theorem d114_20 : decode (pm_code 114) 20 = .ok (.putfield 51, 3) := by decide +kernel
theorem d114_23 : decode (pm_code 114) 23 = .ok (.aload_n 0, 1) := by decide +kernel
theorem d114_24 : decode (pm_code 114) 24 = .ok (.iconst 0, 1) := by decide +kernel
theorem d114_25 : decode (pm_code 114) 25 = .ok (.putfield 54, 3) := by decide +kernel
theorem d114_28 : decode (pm_code 114) 28 = .ok (.aload_n 0, 1) := by decide +kernel
theorem d114_29 : decode (pm_code 114) 29 = .ok (.iconst 0, 1) := by decide +kernel
theorem d114_30 : decode (pm_code 114) 30 = .ok (.putfield 57, 3) := by decide +kernel
theorem d114_33 : decode (pm_code 114) 33 = .ok (.aload_n 0, 1) := by decide +kernel
theorem d114_34 : decode (pm_code 114) 34 = .ok (.iconst (-1), 1) := by decide +kernel
theorem d114_35 : decode (pm_code 114) 35 = .ok (.putfield 61, 3) := by decide +kernel
theorem d114_38 : decode (pm_code 114) 38 = .ok (.aload_n 0, 1) := by decide +kernel
theorem d114_39 : decode (pm_code 114) 39 = .ok (.iconst 0, 1) := by decide +kernel
theorem d114_40 : decode (pm_code 114) 40 = .ok (.iconst (-1), 1) := by decide +kernel
theorem d114_41 : decode (pm_code 114) 41 = .ok (.invokevirtual 64, 3) := by decide +kernel
theorem d114_44 : decode (pm_code 114) 44 = .ok (.iconst 0, 1) := by decide +kernel
theorem d114_45 : decode (pm_code 114) 45 = .ok (.istore_n 2, 1) := by decide +kernel
theorem d114_46 : decode (pm_code 114) 46 = .ok (.iload_n 2, 1) := by decide +kernel
theorem d114_47 : decode (pm_code 114) 47 = .ok (.ldc 68, 2) := by decide +kernel
theorem d114_49 : decode (pm_code 114) 49 = .ok (.if_icmp .ge 64, 3) := by decide +kernel
theorem d114_52 : decode (pm_code 114) 52 = .ok (.aload_n 0, 1) := by decide +kernel
theorem d114_53 : decode (pm_code 114) 53 = .ok (.getfield 57, 3) := by decide +kernel
theorem d114_56 : decode (pm_code 114) 56 = .ok (.ifCond .ne 57, 3) := by decide +kernel
theorem d114_59 : decode (pm_code 114) 59 = .ok (.aload_n 0, 1) := by decide +kernel
theorem d114_60 : decode (pm_code 114) 60 = .ok (.getfield 69, 3) := by decide +kernel
theorem d114_63 : decode (pm_code 114) 63 = .ok (.iconst (-1), 1) := by decide +kernel
theorem d114_64 : decode (pm_code 114) 64 = .ok (.if_icmp .ne 10, 3) := by decide +kernel
theorem d114_67 : decode (pm_code 114) 67 = .ok (.aload_n 0, 1) := by decide +kernel
theorem d114_68 : decode (pm_code 114) 68 = .ok (.invokevirtual 72, 3) := by decide +kernel
theorem d114_71 : decode (pm_code 114) 71 = .ok (.goto 36, 3) := by decide +kernel
theorem d114_74 : decode (pm_code 114) 74 = .ok (.aload_n 0, 1) := by decide +kernel
theorem d114_75 : decode (pm_code 114) 75 = .ok (.getfield 44, 3) := by decide +kernel
theorem d114_78 : decode (pm_code 114) 78 = .ok (.ifCond .le 16, 3) := by decide +kernel
theorem d114_81 : decode (pm_code 114) 81 = .ok (.aload_n 0, 1) := by decide +kernel
theorem d114_82 : decode (pm_code 114) 82 = .ok (.aload_n 0, 1) := by decide +kernel
theorem d114_83 : decode (pm_code 114) 83 = .ok (.getfield 44, 3) := by decide +kernel
theorem d114_86 : decode (pm_code 114) 86 = .ok (.iconst 1, 1) := by decide +kernel
theorem d114_87 : decode (pm_code 114) 87 = .ok (.isub, 1) := by decide +kernel
theorem d114_88 : decode (pm_code 114) 88 = .ok (.invokevirtual 75, 3) := by decide +kernel
theorem d114_91 : decode (pm_code 114) 91 = .ok (.goto 16, 3) := by decide +kernel
theorem d114_94 : decode (pm_code 114) 94 = .ok (.aload_n 0, 1) := by decide +kernel
theorem d114_95 : decode (pm_code 114) 95 = .ok (.aload_n 0, 1) := by decide +kernel
theorem d114_96 : decode (pm_code 114) 96 = .ok (.getfield 69, 3) := by decide +kernel
theorem d114_99 : decode (pm_code 114) 99 = .ok (.putfield 61, 3) := by decide +kernel
theorem d114_102 : decode (pm_code 114) 102 = .ok (.aload_n 0, 1) := by decide +kernel
theorem d114_103 : decode (pm_code 114) 103 = .ok (.iconst 1, 1) := by decide +kernel
theorem d114_104 : decode (pm_code 114) 104 = .ok (.putfield 57, 3) := by decide +kernel
theorem d114_107 : decode (pm_code 114) 107 = .ok (.iinc 2 1, 3) := by decide +kernel
theorem d114_110 : decode (pm_code 114) 110 = .ok (.goto (-64), 3) := by decide +kernel
theorem d114_113 : decode (pm_code 114) 113 = .ok (.return_, 1) := by decide +kernel
theorem d115_0 : decode (pm_code 115) 0 = .ok (.aload_n 0, 1) := by decide +kernel
theorem d115_1 : decode (pm_code 115) 1 = .ok (.iload_n 1, 1) := by decide +kernel
theorem d115_2 : decode (pm_code 115) 2 = .ok (.putfield 79, 3) := by decide +kernel
theorem d115_5 : decode (pm_code 115) 5 = .ok (.aload_n 0, 1) := by decide +kernel
theorem d115_6 : decode (pm_code 115) 6 = .ok (.iload_n 2, 1) := by decide +kernel
theorem d115_7 : decode (pm_code 115) 7 = .ok (.putfield 82, 3) := by decide +kernel
theorem d115_10 : decode (pm_code 115) 10 = .ok (.aload_n 0, 1) := by decide +kernel
theorem d115_11 : decode (pm_code 115) 11 = .ok (.iconst (-1), 1) := by decide +kernel
theorem d115_12 : decode (pm_code 115) 12 = .ok (.putfield 69, 3) := by decide +kernel
theorem d115_15 : decode (pm_code 115) 15 = .ok (.return_, 1) := by decide +kernel
theorem d116_0 : decode (pm_code 116) 0 = .ok (.aload_n 0, 1) := by decide +kernel
theorem d116_1 : decode (pm_code 116) 1 = .ok (.getfield 54, 3) := by decide +kernel
theorem d116_4 : decode (pm_code 116) 4 = .ok (.bipush 60, 2) := by decide +kernel
theorem d116_6 : decode (pm_code 116) 6 = .ok (.if_icmp .lt 10, 3) := by decide +kernel
theorem d116_9 : decode (pm_code 116) 9 = .ok (.aload_n 0, 1) := by decide +kernel
theorem d116_10 : decode (pm_code 116) 10 = .ok (.iconst 1, 1) := by decide +kernel
theorem d116_11 : decode (pm_code 116) 11 = .ok (.putfield 57, 3) := by decide +kernel
theorem d116_14 : decode (pm_code 116) 14 = .ok (.iconst 0, 1) := by decide +kernel
theorem d116_15 : decode (pm_code 116) 15 = .ok (.ireturn, 1) := by decide +kernel
theorem d116_16 : decode (pm_code 116) 16 = .ok (.aload_n 0, 1) := by decide +kernel
theorem d116_17 : decode (pm_code 116) 17 = .ok (.dup, 1) := by decide +kernel
theorem d116_18 : decode (pm_code 116) 18 = .ok (.getfield 54, 3) := by decide +kernel
theorem d116_21 : decode (pm_code 116) 21 = .ok (.iconst 1, 1) := by decide +kernel
theorem d116_22 : decode (pm_code 116) 22 = .ok (.iadd, 1) := by decide +kernel
theorem d116_23 : decode (pm_code 116) 23 = .ok (.putfield 54, 3) := by decide +kernel
theorem d116_26 : decode (pm_code 116) 26 = .ok (.iconst 1, 1) := by decide +kernel
theorem d116_27 : decode (pm_code 116) 27 = .ok (.ireturn, 1) := by decide +kernel
theorem d117_0 : decode (pm_code 117) 0 = .ok (.aload_n 0, 1) := by decide +kernel
theorem d117_1 : decode (pm_code 117) 1 = .ok (.getfield 40, 3) := by decide +kernel
theorem d117_4 : decode (pm_code 117) 4 = .ok (.getfield 85, 3) := by decide +kernel
theorem d117_7 : decode (pm_code 117) 7 = .ok (.aload_n 0, 1) := by decide +kernel
theorem d117_8 : decode (pm_code 117) 8 = .ok (.getfield 79, 3) := by decide +kernel
theorem d117_11 : decode (pm_code 117) 11 = .ok (.iaload, 1) := by decide +kernel
theorem d117_12 : decode (pm_code 117) 12 = .ok (.tableswitch 194 0 7 #[48, 88, 194, 88, 194, 127, 194, 134], 48) := by decide +kernel
theorem d117_60 : decode (pm_code 117) 60 = .ok (.aload_n 0, 1) := by decide +kernel
theorem d117_61 : decode (pm_code 117) 61 = .ok (.aload_n 0, 1) := by decide +kernel
theorem d117_62 : decode (pm_code 117) 62 = .ok (.aload_n 0, 1) := by decide +kernel
theorem d117_63 : decode (pm_code 117) 63 = .ok (.getfield 40, 3) := by decide +kernel
theorem d117_66 : decode (pm_code 117) 66 = .ok (.getfield 90, 3) := by decide +kernel
theorem d117_69 : decode (pm_code 117) 69 = .ok (.aload_n 0, 1) := by decide +kernel
theorem d117_70 : decode (pm_code 117) 70 = .ok (.getfield 79, 3) := by decide +kernel
theorem d117_73 : decode (pm_code 117) 73 = .ok (.iaload, 1) := by decide +kernel
theorem d117_74 : decode (pm_code 117) 74 = .ok (.invokevirtual 93, 3) := by decide +kernel
theorem d117_77 : decode (pm_code 117) 77 = .ok (.putfield 69, 3) := by decide +kernel
theorem d117_80 : decode (pm_code 117) 80 = .ok (.aload_n 0, 1) := by decide +kernel
theorem d117_81 : decode (pm_code 117) 81 = .ok (.aload_n 0, 1) := by decide +kernel
theorem d117_82 : decode (pm_code 117) 82 = .ok (.getfield 69, 3) := by decide +kernel
theorem d117_85 : decode (pm_code 117) 85 = .ok (.iconst (-1), 1) := by decide +kernel
theorem d117_86 : decode (pm_code 117) 86 = .ok (.if_icmp .ne 7, 3) := by decide +kernel
theorem d117_89 : decode (pm_code 117) 89 = .ok (.iconst 1, 1) := by decide +kernel
theorem d117_90 : decode (pm_code 117) 90 = .ok (.goto 4, 3) := by decide +kernel
theorem d117_93 : decode (pm_code 117) 93 = .ok (.iconst 0, 1) := by decide +kernel
theorem d117_94 : decode (pm_code 117) 94 = .ok (.putfield 57, 3) := by decide +kernel
theorem d117_97 : decode (pm_code 117) 97 = .ok (.goto 135, 3) := by decide +kernel
theorem d117_100 : decode (pm_code 117) 100 = .ok (.aload_n 0, 1) := by decide +kernel
theorem d117_101 : decode (pm_code 117) 101 = .ok (.aload_n 0, 1) := by decide +kernel
theorem d117_102 : decode (pm_code 117) 102 = .ok (.getfield 36, 3) := by decide +kernel
theorem d117_105 : decode (pm_code 117) 105 = .ok (.aload_n 0, 1) := by decide +kernel
theorem d117_106 : decode (pm_code 117) 106 = .ok (.getfield 79, 3) := by decide +kernel
theorem d117_109 : decode (pm_code 117) 109 = .ok (.aload_n 0, 1) := by decide +kernel
theorem d117_110 : decode (pm_code 117) 110 = .ok (.getfield 82, 3) := by decide +kernel
theorem d117_113 : decode (pm_code 117) 113 = .ok (.invokevirtual 97, 3) := by decide +kernel
theorem d117_116 : decode (pm_code 117) 116 = .ok (.putfield 69, 3) := by decide +kernel
theorem d117_119 : decode (pm_code 117) 119 = .ok (.aload_n 0, 1) := by decide +kernel
theorem d117_120 : decode (pm_code 117) 120 = .ok (.aload_n 0, 1) := by decide +kernel
theorem d117_121 : decode (pm_code 117) 121 = .ok (.getfield 69, 3) := by decide +kernel
theorem d117_124 : decode (pm_code 117) 124 = .ok (.iconst (-1), 1) := by decide +kernel
theorem d117_125 : decode (pm_code 117) 125 = .ok (.if_icmp .ne 7, 3) := by decide +kernel
theorem d117_128 : decode (pm_code 117) 128 = .ok (.iconst 1, 1) := by decide +kernel
theorem d117_129 : decode (pm_code 117) 129 = .ok (.goto 4, 3) := by decide +kernel
theorem d117_132 : decode (pm_code 117) 132 = .ok (.iconst 0, 1) := by decide +kernel
theorem d117_133 : decode (pm_code 117) 133 = .ok (.putfield 57, 3) := by decide +kernel
theorem d117_136 : decode (pm_code 117) 136 = .ok (.goto 96, 3) := by decide +kernel
theorem d117_139 : decode (pm_code 117) 139 = .ok (.aload_n 0, 1) := by decide +kernel
theorem d117_140 : decode (pm_code 117) 140 = .ok (.invokevirtual 101, 3) := by decide +kernel
theorem d117_143 : decode (pm_code 117) 143 = .ok (.goto 89, 3) := by decide +kernel
theorem d117_146 : decode (pm_code 117) 146 = .ok (.aload_n 0, 1) := by decide +kernel
theorem d117_147 : decode (pm_code 117) 147 = .ok (.invokevirtual 104, 3) := by decide +kernel
theorem d117_150 : decode (pm_code 117) 150 = .ok (.ifCond .eq 82, 3) := by decide +kernel
theorem d117_153 : decode (pm_code 117) 153 = .ok (.aload_n 0, 1) := by decide +kernel
theorem d117_154 : decode (pm_code 117) 154 = .ok (.aload_n 0, 1) := by decide +kernel
theorem d117_155 : decode (pm_code 117) 155 = .ok (.getfield 40, 3) := by decide +kernel
theorem d117_158 : decode (pm_code 117) 158 = .ok (.getfield 108, 3) := by decide +kernel
theorem d117_161 : decode (pm_code 117) 161 = .ok (.aload_n 0, 1) := by decide +kernel
theorem d117_162 : decode (pm_code 117) 162 = .ok (.getfield 79, 3) := by decide +kernel
theorem d117_165 : decode (pm_code 117) 165 = .ok (.iaload, 1) := by decide +kernel
theorem d117_166 : decode (pm_code 117) 166 = .ok (.ifCond .ne 18, 3) := by decide +kernel
theorem d117_169 : decode (pm_code 117) 169 = .ok (.aload_n 0, 1) := by decide +kernel
theorem d117_170 : decode (pm_code 117) 170 = .ok (.getfield 40, 3) := by decide +kernel
theorem d117_173 : decode (pm_code 117) 173 = .ok (.getfield 90, 3) := by decide +kernel
theorem d117_176 : decode (pm_code 117) 176 = .ok (.aload_n 0, 1) := by decide +kernel
theorem d117_177 : decode (pm_code 117) 177 = .ok (.getfield 79, 3) := by decide +kernel
theorem d117_180 : decode (pm_code 117) 180 = .ok (.iaload, 1) := by decide +kernel
theorem d117_181 : decode (pm_code 117) 181 = .ok (.goto 15, 3) := by decide +kernel
theorem d117_184 : decode (pm_code 117) 184 = .ok (.aload_n 0, 1) := by decide +kernel
theorem d117_185 : decode (pm_code 117) 185 = .ok (.getfield 40, 3) := by decide +kernel
theorem d117_188 : decode (pm_code 117) 188 = .ok (.getfield 111, 3) := by decide +kernel
theorem d117_191 : decode (pm_code 117) 191 = .ok (.aload_n 0, 1) := by decide +kernel
theorem d117_192 : decode (pm_code 117) 192 = .ok (.getfield 79, 3) := by decide +kernel
theorem d117_195 : decode (pm_code 117) 195 = .ok (.iaload, 1) := by decide +kernel
theorem d117_196 : decode (pm_code 117) 196 = .ok (.aload_n 0, 1) := by decide +kernel
theorem d117_197 : decode (pm_code 117) 197 = .ok (.getfield 82, 3) := by decide +kernel
theorem d117_200 : decode (pm_code 117) 200 = .ok (.invokevirtual 64, 3) := by decide +kernel
theorem d117_203 : decode (pm_code 117) 203 = .ok (.goto 29, 3) := by decide +kernel
theorem d117_206 : decode (pm_code 117) 206 = .ok (.aload_n 0, 1) := by decide +kernel
theorem d117_207 : decode (pm_code 117) 207 = .ok (.iconst (-1), 1) := by decide +kernel
theorem d117_208 : decode (pm_code 117) 208 = .ok (.iconst 0, 1) := by decide +kernel
theorem d117_209 : decode (pm_code 117) 209 = .ok (.invokevirtual 114, 3) := by decide +kernel
theorem d117_212 : decode (pm_code 117) 212 = .ok (.aload_n 0, 1) := by decide +kernel
theorem d117_213 : decode (pm_code 117) 213 = .ok (.aload_n 0, 1) := by decide +kernel
theorem d117_214 : decode (pm_code 117) 214 = .ok (.getfield 40, 3) := by decide +kernel
theorem d117_217 : decode (pm_code 117) 217 = .ok (.getfield 90, 3) := by decide +kernel
theorem d117_220 : decode (pm_code 117) 220 = .ok (.aload_n 0, 1) := by decide +kernel
theorem d117_221 : decode (pm_code 117) 221 = .ok (.getfield 79, 3) := by decide +kernel
theorem d117_224 : decode (pm_code 117) 224 = .ok (.iaload, 1) := by decide +kernel
theorem d117_225 : decode (pm_code 117) 225 = .ok (.aload_n 0, 1) := by decide +kernel
theorem d117_226 : decode (pm_code 117) 226 = .ok (.getfield 82, 3) := by decide +kernel
theorem d117_229 : decode (pm_code 117) 229 = .ok (.invokevirtual 64, 3) := by decide +kernel
theorem d117_232 : decode (pm_code 117) 232 = .ok (.return_, 1) := by decide +kernel
theorem d118_0 : decode (pm_code 118) 0 = .ok (.aload_n 0, 1) := by decide +kernel
theorem d118_1 : decode (pm_code 118) 1 = .ok (.getfield 36, 3) := by decide +kernel
theorem d118_4 : decode (pm_code 118) 4 = .ok (.aload_n 0, 1) := by decide +kernel
theorem d118_5 : decode (pm_code 118) 5 = .ok (.getfield 79, 3) := by decide +kernel
theorem d118_8 : decode (pm_code 118) 8 = .ok (.iconst (-1), 1) := by decide +kernel
theorem d118_9 : decode (pm_code 118) 9 = .ok (.invokevirtual 97, 3) := by decide +kernel
theorem d118_12 : decode (pm_code 118) 12 = .ok (.istore_n 1, 1) := by decide +kernel
theorem d118_13 : decode (pm_code 118) 13 = .ok (.aload_n 0, 1) := by decide +kernel
theorem d118_14 : decode (pm_code 118) 14 = .ok (.getfield 40, 3) := by decide +kernel
theorem d118_17 : decode (pm_code 118) 17 = .ok (.aload_n 0, 1) := by decide +kernel
theorem d118_18 : decode (pm_code 118) 18 = .ok (.getfield 79, 3) := by decide +kernel
theorem d118_21 : decode (pm_code 118) 21 = .ok (.iconst 0, 1) := by decide +kernel
theorem d118_22 : decode (pm_code 118) 22 = .ok (.invokevirtual 117, 3) := by decide +kernel
theorem d118_25 : decode (pm_code 118) 25 = .ok (.istore_n 2, 1) := by decide +kernel
theorem d118_26 : decode (pm_code 118) 26 = .ok (.iload_n 1, 1) := by decide +kernel
theorem d118_27 : decode (pm_code 118) 27 = .ok (.iconst (-1), 1) := by decide +kernel
theorem d118_28 : decode (pm_code 118) 28 = .ok (.if_icmp .ne 11, 3) := by decide +kernel
theorem d118_31 : decode (pm_code 118) 31 = .ok (.aload_n 0, 1) := by decide +kernel
theorem d118_32 : decode (pm_code 118) 32 = .ok (.iconst 1, 1) := by decide +kernel
theorem d118_33 : decode (pm_code 118) 33 = .ok (.putfield 57, 3) := by decide +kernel
theorem d118_36 : decode (pm_code 118) 36 = .ok (.goto 42, 3) := by decide +kernel
theorem d118_39 : decode (pm_code 118) 39 = .ok (.iload_n 2, 1) := by decide +kernel
theorem d118_40 : decode (pm_code 118) 40 = .ok (.iconst 3, 1) := by decide +kernel
theorem d118_41 : decode (pm_code 118) 41 = .ok (.if_icmp .ge 32, 3) := by decide +kernel
theorem d118_44 : decode (pm_code 118) 44 = .ok (.aload_n 0, 1) := by decide +kernel
theorem d118_45 : decode (pm_code 118) 45 = .ok (.iload_n 1, 1) := by decide +kernel
theorem d118_46 : decode (pm_code 118) 46 = .ok (.iload_n 2, 1) := by decide +kernel
theorem d118_47 : decode (pm_code 118) 47 = .ok (.invokevirtual 114, 3) := by decide +kernel
theorem d118_50 : decode (pm_code 118) 50 = .ok (.aload_n 0, 1) := by decide +kernel
theorem d118_51 : decode (pm_code 118) 51 = .ok (.aload_n 0, 1) := by decide +kernel
theorem d118_52 : decode (pm_code 118) 52 = .ok (.getfield 40, 3) := by decide +kernel
theorem d118_55 : decode (pm_code 118) 55 = .ok (.aload_n 0, 1) := by decide +kernel
theorem d118_56 : decode (pm_code 118) 56 = .ok (.getfield 79, 3) := by decide +kernel
theorem d118_59 : decode (pm_code 118) 59 = .ok (.iload_n 2, 1) := by decide +kernel
theorem d118_60 : decode (pm_code 118) 60 = .ok (.invokevirtual 120, 3) := by decide +kernel
theorem d118_63 : decode (pm_code 118) 63 = .ok (.aload_n 0, 1) := by decide +kernel
theorem d118_64 : decode (pm_code 118) 64 = .ok (.getfield 82, 3) := by decide +kernel
theorem d118_67 : decode (pm_code 118) 67 = .ok (.invokevirtual 64, 3) := by decide +kernel
theorem d118_70 : decode (pm_code 118) 70 = .ok (.goto 8, 3) := by decide +kernel
theorem d118_73 : decode (pm_code 118) 73 = .ok (.aload_n 0, 1) := by decide +kernel
theorem d118_74 : decode (pm_code 118) 74 = .ok (.iload_n 1, 1) := by decide +kernel
theorem d118_75 : decode (pm_code 118) 75 = .ok (.putfield 69, 3) := by decide +kernel
theorem d118_78 : decode (pm_code 118) 78 = .ok (.return_, 1) := by decide +kernel
theorem d119_0 : decode (pm_code 119) 0 = .ok (.aload_n 0, 1) := by decide +kernel
theorem d119_1 : decode (pm_code 119) 1 = .ok (.getfield 82, 3) := by decide +kernel
theorem d119_4 : decode (pm_code 119) 4 = .ok (.istore_n 2, 1) := by decide +kernel
theorem d119_5 : decode (pm_code 119) 5 = .ok (.iconst 0, 1) := by decide +kernel
theorem d119_6 : decode (pm_code 119) 6 = .ok (.istore_n 3, 1) := by decide +kernel
theorem d119_7 : decode (pm_code 119) 7 = .ok (.iload_n 3, 1) := by decide +kernel
theorem d119_8 : decode (pm_code 119) 8 = .ok (.bipush 61, 2) := by decide +kernel
theorem d119_10 : decode (pm_code 119) 10 = .ok (.if_icmp .ge 45, 3) := by decide +kernel
theorem d119_13 : decode (pm_code 119) 13 = .ok (.iload_n 2, 1) := by decide +kernel
theorem d119_14 : decode (pm_code 119) 14 = .ok (.ifCond .lt 41, 3) := by decide +kernel
theorem d119_17 : decode (pm_code 119) 17 = .ok (.iload_n 2, 1) := by decide +kernel
theorem d119_18 : decode (pm_code 119) 18 = .ok (.aload_n 0, 1) := by decide +kernel
theorem d119_19 : decode (pm_code 119) 19 = .ok (.getfield 51, 3) := by decide +kernel
theorem d119_22 : decode (pm_code 119) 22 = .ok (.if_icmp .ge 33, 3) := by decide +kernel
theorem d119_25 : decode (pm_code 119) 25 = .ok (.aload_n 0, 1) := by decide +kernel
theorem d119_26 : decode (pm_code 119) 26 = .ok (.getfield 24, 3) := by decide +kernel
theorem d119_29 : decode (pm_code 119) 29 = .ok (.iload_n 2, 1) := by decide +kernel
theorem d119_30 : decode (pm_code 119) 30 = .ok (.iaload, 1) := by decide +kernel
theorem d119_31 : decode (pm_code 119) 31 = .ok (.iload_n 1, 1) := by decide +kernel
theorem d119_32 : decode (pm_code 119) 32 = .ok (.if_icmp .ne 10, 3) := by decide +kernel
theorem d119_35 : decode (pm_code 119) 35 = .ok (.aload_n 0, 1) := by decide +kernel
theorem d119_36 : decode (pm_code 119) 36 = .ok (.getfield 27, 3) := by decide +kernel
theorem d119_39 : decode (pm_code 119) 39 = .ok (.iload_n 2, 1) := by decide +kernel
theorem d119_40 : decode (pm_code 119) 40 = .ok (.iaload, 1) := by decide +kernel
theorem d119_41 : decode (pm_code 119) 41 = .ok (.ireturn, 1) := by decide +kernel
theorem d119_42 : decode (pm_code 119) 42 = .ok (.aload_n 0, 1) := by decide +kernel
theorem d119_43 : decode (pm_code 119) 43 = .ok (.getfield 30, 3) := by decide +kernel
theorem d119_46 : decode (pm_code 119) 46 = .ok (.iload_n 2, 1) := by decide +kernel
theorem d119_47 : decode (pm_code 119) 47 = .ok (.iaload, 1) := by decide +kernel
theorem d119_48 : decode (pm_code 119) 48 = .ok (.istore_n 2, 1) := by decide +kernel
theorem d119_49 : decode (pm_code 119) 49 = .ok (.iinc 3 1, 3) := by decide +kernel
theorem d119_52 : decode (pm_code 119) 52 = .ok (.goto (-45), 3) := by decide +kernel
theorem d119_55 : decode (pm_code 119) 55 = .ok (.iconst (-1), 1) := by decide +kernel
theorem d119_56 : decode (pm_code 119) 56 = .ok (.ireturn, 1) := by decide +kernel
theorem d120_0 : decode (pm_code 120) 0 = .ok (.aload_n 0, 1) := by decide +kernel
theorem d120_1 : decode (pm_code 120) 1 = .ok (.getfield 44, 3) := by decide +kernel
theorem d120_4 : decode (pm_code 120) 4 = .ok (.aload_n 0, 1) := by decide +kernel
theorem d120_5 : decode (pm_code 120) 5 = .ok (.getfield 11, 3) := by decide +kernel
theorem d120_8 : decode (pm_code 120) 8 = .ok (.arraylength, 1) := by decide +kernel
theorem d120_9 : decode (pm_code 120) 9 = .ok (.if_icmp .lt 16, 3) := by decide +kernel
theorem d120_12 : decode (pm_code 120) 12 = .ok (.aload_n 0, 1) := by decide +kernel
theorem d120_13 : decode (pm_code 120) 13 = .ok (.invokevirtual 123, 3) := by decide +kernel
theorem d120_16 : decode (pm_code 120) 16 = .ok (.ifCond .ne 9, 3) := by decide +kernel
theorem d120_19 : decode (pm_code 120) 19 = .ok (.aload_n 0, 1) := by decide +kernel
theorem d120_20 : decode (pm_code 120) 20 = .ok (.iconst 1, 1) := by decide +kernel
theorem d120_21 : decode (pm_code 120) 21 = .ok (.putfield 57, 3) := by decide +kernel
theorem d120_24 : decode (pm_code 120) 24 = .ok (.return_, 1) := by decide +kernel
theorem d120_25 : decode (pm_code 120) 25 = .ok (.aload_n 0, 1) := by decide +kernel
theorem d120_26 : decode (pm_code 120) 26 = .ok (.getfield 11, 3) := by decide +kernel
theorem d120_29 : decode (pm_code 120) 29 = .ok (.aload_n 0, 1) := by decide +kernel
theorem d120_30 : decode (pm_code 120) 30 = .ok (.getfield 44, 3) := by decide +kernel
theorem d120_33 : decode (pm_code 120) 33 = .ok (.aload_n 0, 1) := by decide +kernel
theorem d120_34 : decode (pm_code 120) 34 = .ok (.getfield 79, 3) := by decide +kernel
theorem d120_37 : decode (pm_code 120) 37 = .ok (.iastore, 1) := by decide +kernel
theorem d120_38 : decode (pm_code 120) 38 = .ok (.aload_n 0, 1) := by decide +kernel
theorem d120_39 : decode (pm_code 120) 39 = .ok (.getfield 15, 3) := by decide +kernel
theorem d120_42 : decode (pm_code 120) 42 = .ok (.aload_n 0, 1) := by decide +kernel
theorem d120_43 : decode (pm_code 120) 43 = .ok (.getfield 44, 3) := by decide +kernel
theorem d120_46 : decode (pm_code 120) 46 = .ok (.aload_n 0, 1) := by decide +kernel
theorem d120_47 : decode (pm_code 120) 47 = .ok (.getfield 82, 3) := by decide +kernel
theorem d120_50 : decode (pm_code 120) 50 = .ok (.iastore, 1) := by decide +kernel
theorem d120_51 : decode (pm_code 120) 51 = .ok (.aload_n 0, 1) := by decide +kernel
theorem d120_52 : decode (pm_code 120) 52 = .ok (.getfield 18, 3) := by decide +kernel
theorem d120_55 : decode (pm_code 120) 55 = .ok (.aload_n 0, 1) := by decide +kernel
theorem d120_56 : decode (pm_code 120) 56 = .ok (.getfield 44, 3) := by decide +kernel
theorem d120_59 : decode (pm_code 120) 59 = .ok (.iload_n 1, 1) := by decide +kernel
theorem d120_60 : decode (pm_code 120) 60 = .ok (.iastore, 1) := by decide +kernel
theorem d120_61 : decode (pm_code 120) 61 = .ok (.aload_n 0, 1) := by decide +kernel
theorem d120_62 : decode (pm_code 120) 62 = .ok (.getfield 21, 3) := by decide +kernel
theorem d120_65 : decode (pm_code 120) 65 = .ok (.aload_n 0, 1) := by decide +kernel
theorem d120_66 : decode (pm_code 120) 66 = .ok (.getfield 44, 3) := by decide +kernel
theorem d120_69 : decode (pm_code 120) 69 = .ok (.iload_n 2, 1) := by decide +kernel
theorem d120_70 : decode (pm_code 120) 70 = .ok (.iastore, 1) := by decide +kernel
theorem d120_71 : decode (pm_code 120) 71 = .ok (.aload_n 0, 1) := by decide +kernel
theorem d120_72 : decode (pm_code 120) 72 = .ok (.dup, 1) := by decide +kernel
theorem d120_73 : decode (pm_code 120) 73 = .ok (.getfield 44, 3) := by decide +kernel
theorem d120_76 : decode (pm_code 120) 76 = .ok (.iconst 1, 1) := by decide +kernel
theorem d120_77 : decode (pm_code 120) 77 = .ok (.iadd, 1) := by decide +kernel
theorem d120_78 : decode (pm_code 120) 78 = .ok (.putfield 44, 3) := by decide +kernel
theorem d120_81 : decode (pm_code 120) 81 = .ok (.return_, 1) := by decide +kernel
theorem d121_0 : decode (pm_code 121) 0 = .ok (.iconst 2, 1) := by decide +kernel
theorem d121_1 : decode (pm_code 121) 1 = .ok (.aload_n 0, 1) := by decide +kernel
theorem d121_2 : decode (pm_code 121) 2 = .ok (.getfield 11, 3) := by decide +kernel
theorem d121_5 : decode (pm_code 121) 5 = .ok (.arraylength, 1) := by decide +kernel
theorem d121_6 : decode (pm_code 121) 6 = .ok (.imul, 1) := by decide +kernel
theorem d121_7 : decode (pm_code 121) 7 = .ok (.sipush 1464, 3) := by decide +kernel
theorem d121_10 : decode (pm_code 121) 10 = .ok (.invokestatic 126, 3) := by decide +kernel
theorem d121_13 : decode (pm_code 121) 13 = .ok (.istore_n 1, 1) := by decide +kernel
theorem d121_14 : decode (pm_code 121) 14 = .ok (.iload_n 1, 1) := by decide +kernel
theorem d121_15 : decode (pm_code 121) 15 = .ok (.aload_n 0, 1) := by decide +kernel
theorem d121_16 : decode (pm_code 121) 16 = .ok (.getfield 11, 3) := by decide +kernel
theorem d121_19 : decode (pm_code 121) 19 = .ok (.arraylength, 1) := by decide +kernel
theorem d121_20 : decode (pm_code 121) 20 = .ok (.if_icmp .gt 5, 3) := by decide +kernel
theorem d121_23 : decode (pm_code 121) 23 = .ok (.iconst 0, 1) := by decide +kernel
theorem d121_24 : decode (pm_code 121) 24 = .ok (.ireturn, 1) := by decide +kernel
theorem d121_25 : decode (pm_code 121) 25 = .ok (.aload_n 0, 1) := by decide +kernel
theorem d121_26 : decode (pm_code 121) 26 = .ok (.aload_n 0, 1) := by decide +kernel
theorem d121_27 : decode (pm_code 121) 27 = .ok (.getfield 11, 3) := by decide +kernel
theorem d121_30 : decode (pm_code 121) 30 = .ok (.iload_n 1, 1) := by decide +kernel
theorem d121_31 : decode (pm_code 121) 31 = .ok (.invokestatic 131, 3) := by decide +kernel
theorem d121_34 : decode (pm_code 121) 34 = .ok (.putfield 11, 3) := by decide +kernel
theorem d121_37 : decode (pm_code 121) 37 = .ok (.aload_n 0, 1) := by decide +kernel
theorem d121_38 : decode (pm_code 121) 38 = .ok (.aload_n 0, 1) := by decide +kernel
theorem d121_39 : decode (pm_code 121) 39 = .ok (.getfield 15, 3) := by decide +kernel
theorem d121_42 : decode (pm_code 121) 42 = .ok (.iload_n 1, 1) := by decide +kernel
theorem d121_43 : decode (pm_code 121) 43 = .ok (.invokestatic 131, 3) := by decide +kernel
theorem d121_46 : decode (pm_code 121) 46 = .ok (.putfield 15, 3) := by decide +kernel
theorem d121_49 : decode (pm_code 121) 49 = .ok (.aload_n 0, 1) := by decide +kernel
theorem d121_50 : decode (pm_code 121) 50 = .ok (.aload_n 0, 1) := by decide +kernel
theorem d121_51 : decode (pm_code 121) 51 = .ok (.getfield 18, 3) := by decide +kernel
theorem d121_54 : decode (pm_code 121) 54 = .ok (.iload_n 1, 1) := by decide +kernel
theorem d121_55 : decode (pm_code 121) 55 = .ok (.invokestatic 131, 3) := by decide +kernel
theorem d121_58 : decode (pm_code 121) 58 = .ok (.putfield 18, 3) := by decide +kernel
theorem d121_61 : decode (pm_code 121) 61 = .ok (.aload_n 0, 1) := by decide +kernel
theorem d121_62 : decode (pm_code 121) 62 = .ok (.aload_n 0, 1) := by decide +kernel
theorem d121_63 : decode (pm_code 121) 63 = .ok (.getfield 21, 3) := by decide +kernel
theorem d121_66 : decode (pm_code 121) 66 = .ok (.iload_n 1, 1) := by decide +kernel
theorem d121_67 : decode (pm_code 121) 67 = .ok (.invokestatic 131, 3) := by decide +kernel
theorem d121_70 : decode (pm_code 121) 70 = .ok (.putfield 21, 3) := by decide +kernel
theorem d121_73 : decode (pm_code 121) 73 = .ok (.iconst 1, 1) := by decide +kernel
theorem d121_74 : decode (pm_code 121) 74 = .ok (.ireturn, 1) := by decide +kernel
theorem d122_0 : decode (pm_code 122) 0 = .ok (.aload_n 0, 1) := by decide +kernel
theorem d122_1 : decode (pm_code 122) 1 = .ok (.getfield 11, 3) := by decide +kernel
theorem d122_4 : decode (pm_code 122) 4 = .ok (.iload_n 1, 1) := by decide +kernel
theorem d122_5 : decode (pm_code 122) 5 = .ok (.iaload, 1) := by decide +kernel
theorem d122_6 : decode (pm_code 122) 6 = .ok (.istore_n 2, 1) := by decide +kernel
theorem d122_7 : decode (pm_code 122) 7 = .ok (.aload_n 0, 1) := by decide +kernel
theorem d122_8 : decode (pm_code 122) 8 = .ok (.getfield 40, 3) := by decide +kernel
theorem d122_11 : decode (pm_code 122) 11 = .ok (.getfield 85, 3) := by decide +kernel
theorem d122_14 : decode (pm_code 122) 14 = .ok (.iload_n 2, 1) := by decide +kernel
theorem d122_15 : decode (pm_code 122) 15 = .ok (.iaload, 1) := by decide +kernel
theorem d122_16 : decode (pm_code 122) 16 = .ok (.tableswitch 185 2 6 #[36, 185, 44, 185, 112], 36) := by decide +kernel
theorem d122_52 : decode (pm_code 122) 52 = .ok (.aload_n 0, 1) := by decide +kernel
theorem d122_53 : decode (pm_code 122) 53 = .ok (.iload_n 1, 1) := by decide +kernel
theorem d122_54 : decode (pm_code 122) 54 = .ok (.invokevirtual 137, 3) := by decide +kernel
theorem d122_57 : decode (pm_code 122) 57 = .ok (.goto 149, 3) := by decide +kernel
theorem d122_60 : decode (pm_code 122) 60 = .ok (.aload_n 0, 1) := by decide +kernel
theorem d122_61 : decode (pm_code 122) 61 = .ok (.dup, 1) := by decide +kernel
theorem d122_62 : decode (pm_code 122) 62 = .ok (.getfield 44, 3) := by decide +kernel
theorem d122_65 : decode (pm_code 122) 65 = .ok (.iconst 1, 1) := by decide +kernel
theorem d122_66 : decode (pm_code 122) 66 = .ok (.isub, 1) := by decide +kernel
theorem d122_67 : decode (pm_code 122) 67 = .ok (.putfield 44, 3) := by decide +kernel
theorem d122_70 : decode (pm_code 122) 70 = .ok (.aload_n 0, 1) := by decide +kernel
theorem d122_71 : decode (pm_code 122) 71 = .ok (.aload_n 0, 1) := by decide +kernel
theorem d122_72 : decode (pm_code 122) 72 = .ok (.getfield 69, 3) := by decide +kernel
theorem d122_75 : decode (pm_code 122) 75 = .ok (.iconst 3, 1) := by decide +kernel
theorem d122_76 : decode (pm_code 122) 76 = .ok (.invokevirtual 140, 3) := by decide +kernel
theorem d122_79 : decode (pm_code 122) 79 = .ok (.ifCond .eq 127, 3) := by decide +kernel
theorem d122_82 : decode (pm_code 122) 82 = .ok (.aload_n 0, 1) := by decide +kernel
theorem d122_83 : decode (pm_code 122) 83 = .ok (.invokevirtual 104, 3) := by decide +kernel
theorem d122_86 : decode (pm_code 122) 86 = .ok (.ifCond .eq 120, 3) := by decide +kernel
theorem d122_89 : decode (pm_code 122) 89 = .ok (.aload_n 0, 1) := by decide +kernel
theorem d122_90 : decode (pm_code 122) 90 = .ok (.aload_n 0, 1) := by decide +kernel
theorem d122_91 : decode (pm_code 122) 91 = .ok (.getfield 40, 3) := by decide +kernel
theorem d122_94 : decode (pm_code 122) 94 = .ok (.getfield 111, 3) := by decide +kernel
theorem d122_97 : decode (pm_code 122) 97 = .ok (.aload_n 0, 1) := by decide +kernel
theorem d122_98 : decode (pm_code 122) 98 = .ok (.getfield 36, 3) := by decide +kernel
theorem d122_101 : decode (pm_code 122) 101 = .ok (.getfield 144, 3) := by decide +kernel
theorem d122_104 : decode (pm_code 122) 104 = .ok (.aload_n 0, 1) := by decide +kernel
theorem d122_105 : decode (pm_code 122) 105 = .ok (.getfield 69, 3) := by decide +kernel
theorem d122_108 : decode (pm_code 122) 108 = .ok (.iaload, 1) := by decide +kernel
theorem d122_109 : decode (pm_code 122) 109 = .ok (.iaload, 1) := by decide +kernel
theorem d122_110 : decode (pm_code 122) 110 = .ok (.aload_n 0, 1) := by decide +kernel
theorem d122_111 : decode (pm_code 122) 111 = .ok (.getfield 36, 3) := by decide +kernel
theorem d122_114 : decode (pm_code 122) 114 = .ok (.getfield 146, 3) := by decide +kernel
theorem d122_117 : decode (pm_code 122) 117 = .ok (.aload_n 0, 1) := by decide +kernel
theorem d122_118 : decode (pm_code 122) 118 = .ok (.getfield 69, 3) := by decide +kernel
theorem d122_121 : decode (pm_code 122) 121 = .ok (.iaload, 1) := by decide +kernel
theorem d122_122 : decode (pm_code 122) 122 = .ok (.invokevirtual 64, 3) := by decide +kernel
theorem d122_125 : decode (pm_code 122) 125 = .ok (.goto 81, 3) := by decide +kernel
theorem d122_128 : decode (pm_code 122) 128 = .ok (.aload_n 0, 1) := by decide +kernel
theorem d122_129 : decode (pm_code 122) 129 = .ok (.dup, 1) := by decide +kernel
theorem d122_130 : decode (pm_code 122) 130 = .ok (.getfield 44, 3) := by decide +kernel
theorem d122_133 : decode (pm_code 122) 133 = .ok (.iconst 1, 1) := by decide +kernel
theorem d122_134 : decode (pm_code 122) 134 = .ok (.isub, 1) := by decide +kernel
theorem d122_135 : decode (pm_code 122) 135 = .ok (.putfield 44, 3) := by decide +kernel
theorem d122_138 : decode (pm_code 122) 138 = .ok (.aload_n 0, 1) := by decide +kernel
theorem d122_139 : decode (pm_code 122) 139 = .ok (.aload_n 0, 1) := by decide +kernel
theorem d122_140 : decode (pm_code 122) 140 = .ok (.getfield 69, 3) := by decide +kernel
theorem d122_143 : decode (pm_code 122) 143 = .ok (.iconst 5, 1) := by decide +kernel
theorem d122_144 : decode (pm_code 122) 144 = .ok (.invokevirtual 140, 3) := by decide +kernel
theorem d122_147 : decode (pm_code 122) 147 = .ok (.ifCond .eq 59, 3) := by decide +kernel
theorem d122_150 : decode (pm_code 122) 150 = .ok (.aload_n 0, 1) := by decide +kernel
theorem d122_151 : decode (pm_code 122) 151 = .ok (.invokevirtual 104, 3) := by decide +kernel
theorem d122_154 : decode (pm_code 122) 154 = .ok (.ifCond .eq 52, 3) := by decide +kernel
theorem d122_157 : decode (pm_code 122) 157 = .ok (.aload_n 0, 1) := by decide +kernel
theorem d122_158 : decode (pm_code 122) 158 = .ok (.aload_n 0, 1) := by decide +kernel
theorem d122_159 : decode (pm_code 122) 159 = .ok (.getfield 36, 3) := by decide +kernel
theorem d122_162 : decode (pm_code 122) 162 = .ok (.aload_n 0, 1) := by decide +kernel
theorem d122_163 : decode (pm_code 122) 163 = .ok (.getfield 69, 3) := by decide +kernel
theorem d122_166 : decode (pm_code 122) 166 = .ok (.aload_n 0, 1) := by decide +kernel
theorem d122_167 : decode (pm_code 122) 167 = .ok (.getfield 40, 3) := by decide +kernel
theorem d122_170 : decode (pm_code 122) 170 = .ok (.getfield 108, 3) := by decide +kernel
theorem d122_173 : decode (pm_code 122) 173 = .ok (.iload_n 2, 1) := by decide +kernel
theorem d122_174 : decode (pm_code 122) 174 = .ok (.iaload, 1) := by decide +kernel
theorem d122_175 : decode (pm_code 122) 175 = .ok (.invokevirtual 149, 3) := by decide +kernel
theorem d122_178 : decode (pm_code 122) 178 = .ok (.putfield 69, 3) := by decide +kernel
theorem d122_181 : decode (pm_code 122) 181 = .ok (.aload_n 0, 1) := by decide +kernel
theorem d122_182 : decode (pm_code 122) 182 = .ok (.aload_n 0, 1) := by decide +kernel
theorem d122_183 : decode (pm_code 122) 183 = .ok (.getfield 69, 3) := by decide +kernel
theorem d122_186 : decode (pm_code 122) 186 = .ok (.iconst (-1), 1) := by decide +kernel
theorem d122_187 : decode (pm_code 122) 187 = .ok (.if_icmp .ne 7, 3) := by decide +kernel
theorem d122_190 : decode (pm_code 122) 190 = .ok (.iconst 1, 1) := by decide +kernel
theorem d122_191 : decode (pm_code 122) 191 = .ok (.goto 4, 3) := by decide +kernel
theorem d122_194 : decode (pm_code 122) 194 = .ok (.iconst 0, 1) := by decide +kernel
theorem d122_195 : decode (pm_code 122) 195 = .ok (.putfield 57, 3) := by decide +kernel
theorem d122_198 : decode (pm_code 122) 198 = .ok (.goto 8, 3) := by decide +kernel
theorem d122_201 : decode (pm_code 122) 201 = .ok (.aload_n 0, 1) := by decide +kernel
theorem d122_202 : decode (pm_code 122) 202 = .ok (.iload_n 1, 1) := by decide +kernel
theorem d122_203 : decode (pm_code 122) 203 = .ok (.invokevirtual 150, 3) := by decide +kernel
theorem d122_206 : decode (pm_code 122) 206 = .ok (.return_, 1) := by decide +kernel
theorem d123_0 : decode (pm_code 123) 0 = .ok (.aload_n 0, 1) := by decide +kernel
theorem d123_1 : decode (pm_code 123) 1 = .ok (.aload_n 0, 1) := by decide +kernel
theorem d123_2 : decode (pm_code 123) 2 = .ok (.getfield 40, 3) := by decide +kernel
theorem d123_5 : decode (pm_code 123) 5 = .ok (.getfield 85, 3) := by decide +kernel
theorem d123_8 : decode (pm_code 123) 8 = .ok (.aload_n 0, 1) := by decide +kernel
theorem d123_9 : decode (pm_code 123) 9 = .ok (.getfield 36, 3) := by decide +kernel
theorem d123_12 : decode (pm_code 123) 12 = .ok (.getfield 144, 3) := by decide +kernel
theorem d123_15 : decode (pm_code 123) 15 = .ok (.iload_n 1, 1) := by decide +kernel
theorem d123_16 : decode (pm_code 123) 16 = .ok (.iaload, 1) := by decide +kernel
theorem d123_17 : decode (pm_code 123) 17 = .ok (.iaload, 1) := by decide +kernel
theorem d123_18 : decode (pm_code 123) 18 = .ok (.iload_n 2, 1) := by decide +kernel
theorem d123_19 : decode (pm_code 123) 19 = .ok (.if_icmp .eq 7, 3) := by decide +kernel
theorem d123_22 : decode (pm_code 123) 22 = .ok (.iconst 1, 1) := by decide +kernel
theorem d123_23 : decode (pm_code 123) 23 = .ok (.goto 4, 3) := by decide +kernel
theorem d123_26 : decode (pm_code 123) 26 = .ok (.iconst 0, 1) := by decide +kernel
theorem d123_27 : decode (pm_code 123) 27 = .ok (.putfield 57, 3) := by decide +kernel
theorem d123_30 : decode (pm_code 123) 30 = .ok (.aload_n 0, 1) := by decide +kernel
theorem d123_31 : decode (pm_code 123) 31 = .ok (.getfield 57, 3) := by decide +kernel
theorem d123_34 : decode (pm_code 123) 34 = .ok (.ifCond .ne 7, 3) := by decide +kernel
theorem d123_37 : decode (pm_code 123) 37 = .ok (.iconst 1, 1) := by decide +kernel
theorem d123_38 : decode (pm_code 123) 38 = .ok (.goto 4, 3) := by decide +kernel
theorem d123_41 : decode (pm_code 123) 41 = .ok (.iconst 0, 1) := by decide +kernel
theorem d123_42 : decode (pm_code 123) 42 = .ok (.ireturn, 1) := by decide +kernel
theorem d124_0 : decode (pm_code 124) 0 = .ok (.aload_n 0, 1) := by decide +kernel
theorem d124_1 : decode (pm_code 124) 1 = .ok (.getfield 18, 3) := by decide +kernel
theorem d124_4 : decode (pm_code 124) 4 = .ok (.iload_n 1, 1) := by decide +kernel
theorem d124_5 : decode (pm_code 124) 5 = .ok (.iaload, 1) := by decide +kernel
theorem d124_6 : decode (pm_code 124) 6 = .ok (.istore_n 2, 1) := by decide +kernel
theorem d124_7 : decode (pm_code 124) 7 = .ok (.iload_n 2, 1) := by decide +kernel
theorem d124_8 : decode (pm_code 124) 8 = .ok (.iconst (-1), 1) := by decide +kernel
theorem d124_9 : decode (pm_code 124) 9 = .ok (.if_icmp .ne 38, 3) := by decide +kernel
theorem d124_12 : decode (pm_code 124) 12 = .ok (.aload_n 0, 1) := by decide +kernel
theorem d124_13 : decode (pm_code 124) 13 = .ok (.getfield 18, 3) := by decide +kernel
theorem d124_16 : decode (pm_code 124) 16 = .ok (.iload_n 1, 1) := by decide +kernel
theorem d124_17 : decode (pm_code 124) 17 = .ok (.aload_n 0, 1) := by decide +kernel
theorem d124_18 : decode (pm_code 124) 18 = .ok (.getfield 69, 3) := by decide +kernel
theorem d124_21 : decode (pm_code 124) 21 = .ok (.iastore, 1) := by decide +kernel
theorem d124_22 : decode (pm_code 124) 22 = .ok (.aload_n 0, 1) := by decide +kernel
theorem d124_23 : decode (pm_code 124) 23 = .ok (.aload_n 0, 1) := by decide +kernel
theorem d124_24 : decode (pm_code 124) 24 = .ok (.getfield 40, 3) := by decide +kernel
theorem d124_27 : decode (pm_code 124) 27 = .ok (.getfield 111, 3) := by decide +kernel
theorem d124_30 : decode (pm_code 124) 30 = .ok (.aload_n 0, 1) := by decide +kernel
theorem d124_31 : decode (pm_code 124) 31 = .ok (.getfield 11, 3) := by decide +kernel
theorem d124_34 : decode (pm_code 124) 34 = .ok (.iload_n 1, 1) := by decide +kernel
theorem d124_35 : decode (pm_code 124) 35 = .ok (.iaload, 1) := by decide +kernel
theorem d124_36 : decode (pm_code 124) 36 = .ok (.iaload, 1) := by decide +kernel
theorem d124_37 : decode (pm_code 124) 37 = .ok (.aload_n 0, 1) := by decide +kernel
theorem d124_38 : decode (pm_code 124) 38 = .ok (.getfield 15, 3) := by decide +kernel
theorem d124_41 : decode (pm_code 124) 41 = .ok (.iload_n 1, 1) := by decide +kernel
theorem d124_42 : decode (pm_code 124) 42 = .ok (.iaload, 1) := by decide +kernel
theorem d124_43 : decode (pm_code 124) 43 = .ok (.invokevirtual 64, 3) := by decide +kernel
theorem d124_46 : decode (pm_code 124) 46 = .ok (.return_, 1) := by decide +kernel
theorem d124_47 : decode (pm_code 124) 47 = .ok (.aload_n 0, 1) := by decide +kernel
theorem d124_48 : decode (pm_code 124) 48 = .ok (.dup, 1) := by decide +kernel
theorem d124_49 : decode (pm_code 124) 49 = .ok (.getfield 44, 3) := by decide +kernel
theorem d124_52 : decode (pm_code 124) 52 = .ok (.iconst 1, 1) := by decide +kernel
theorem d124_53 : decode (pm_code 124) 53 = .ok (.isub, 1) := by decide +kernel
theorem d124_54 : decode (pm_code 124) 54 = .ok (.putfield 44, 3) := by decide +kernel
theorem d124_57 : decode (pm_code 124) 57 = .ok (.aload_n 0, 1) := by decide +kernel
theorem d124_58 : decode (pm_code 124) 58 = .ok (.iload_n 2, 1) := by decide +kernel
theorem d124_59 : decode (pm_code 124) 59 = .ok (.iconst 1, 1) := by decide +kernel
theorem d124_60 : decode (pm_code 124) 60 = .ok (.invokevirtual 140, 3) := by decide +kernel
theorem d124_63 : decode (pm_code 124) 63 = .ok (.ifCond .eq 51, 3) := by decide +kernel
theorem d124_66 : decode (pm_code 124) 66 = .ok (.aload_n 0, 1) := by decide +kernel
theorem d124_67 : decode (pm_code 124) 67 = .ok (.invokevirtual 104, 3) := by decide +kernel
theorem d124_70 : decode (pm_code 124) 70 = .ok (.ifCond .eq 44, 3) := by decide +kernel
theorem d124_73 : decode (pm_code 124) 73 = .ok (.aload_n 0, 1) := by decide +kernel
theorem d124_74 : decode (pm_code 124) 74 = .ok (.getfield 36, 3) := by decide +kernel
theorem d124_77 : decode (pm_code 124) 77 = .ok (.getfield 144, 3) := by decide +kernel
theorem d124_80 : decode (pm_code 124) 80 = .ok (.iload_n 2, 1) := by decide +kernel
theorem d124_81 : decode (pm_code 124) 81 = .ok (.iaload, 1) := by decide +kernel
theorem d124_82 : decode (pm_code 124) 82 = .ok (.istore_n 3, 1) := by decide +kernel
theorem d124_83 : decode (pm_code 124) 83 = .ok (.aload_n 0, 1) := by decide +kernel
theorem d124_84 : decode (pm_code 124) 84 = .ok (.aload_n 0, 1) := by decide +kernel
theorem d124_85 : decode (pm_code 124) 85 = .ok (.getfield 40, 3) := by decide +kernel
theorem d124_88 : decode (pm_code 124) 88 = .ok (.getfield 111, 3) := by decide +kernel
theorem d124_91 : decode (pm_code 124) 91 = .ok (.iload_n 3, 1) := by decide +kernel
theorem d124_92 : decode (pm_code 124) 92 = .ok (.iaload, 1) := by decide +kernel
theorem d124_93 : decode (pm_code 124) 93 = .ok (.aload_n 0, 1) := by decide +kernel
theorem d124_94 : decode (pm_code 124) 94 = .ok (.iload_n 3, 1) := by decide +kernel
theorem d124_95 : decode (pm_code 124) 95 = .ok (.aload_n 0, 1) := by decide +kernel
theorem d124_96 : decode (pm_code 124) 96 = .ok (.getfield 69, 3) := by decide +kernel
theorem d124_99 : decode (pm_code 124) 99 = .ok (.aload_n 0, 1) := by decide +kernel
theorem d124_100 : decode (pm_code 124) 100 = .ok (.getfield 36, 3) := by decide +kernel
theorem d124_103 : decode (pm_code 124) 103 = .ok (.getfield 146, 3) := by decide +kernel
theorem d124_106 : decode (pm_code 124) 106 = .ok (.iload_n 2, 1) := by decide +kernel
theorem d124_107 : decode (pm_code 124) 107 = .ok (.iaload, 1) := by decide +kernel
theorem d124_108 : decode (pm_code 124) 108 = .ok (.invokevirtual 153, 3) := by decide +kernel
theorem d124_111 : decode (pm_code 124) 111 = .ok (.invokevirtual 64, 3) := by decide +kernel
theorem d124_114 : decode (pm_code 124) 114 = .ok (.return_, 1) := by decide +kernel
theorem d125_0 : decode (pm_code 125) 0 = .ok (.aload_n 0, 1) := by decide +kernel
theorem d125_1 : decode (pm_code 125) 1 = .ok (.getfield 51, 3) := by decide +kernel
theorem d125_4 : decode (pm_code 125) 4 = .ok (.bipush 61, 2) := by decide +kernel
theorem d125_6 : decode (pm_code 125) 6 = .ok (.if_icmp .lt 10, 3) := by decide +kernel
theorem d125_9 : decode (pm_code 125) 9 = .ok (.aload_n 0, 1) := by decide +kernel
theorem d125_10 : decode (pm_code 125) 10 = .ok (.iconst 1, 1) := by decide +kernel
theorem d125_11 : decode (pm_code 125) 11 = .ok (.putfield 57, 3) := by decide +kernel
theorem d125_14 : decode (pm_code 125) 14 = .ok (.iconst (-1), 1) := by decide +kernel
theorem d125_15 : decode (pm_code 125) 15 = .ok (.ireturn, 1) := by decide +kernel
theorem d125_16 : decode (pm_code 125) 16 = .ok (.aload_n 0, 1) := by decide +kernel
theorem d125_17 : decode (pm_code 125) 17 = .ok (.getfield 51, 3) := by decide +kernel
theorem d125_20 : decode (pm_code 125) 20 = .ok (.istore 4, 2) := by decide +kernel
theorem d125_22 : decode (pm_code 125) 22 = .ok (.aload_n 0, 1) := by decide +kernel
theorem d125_23 : decode (pm_code 125) 23 = .ok (.dup, 1) := by decide +kernel
theorem d125_24 : decode (pm_code 125) 24 = .ok (.getfield 51, 3) := by decide +kernel
theorem d125_27 : decode (pm_code 125) 27 = .ok (.iconst 1, 1) := by decide +kernel
theorem d125_28 : decode (pm_code 125) 28 = .ok (.iadd, 1) := by decide +kernel
theorem d125_29 : decode (pm_code 125) 29 = .ok (.putfield 51, 3) := by decide +kernel
theorem d125_32 : decode (pm_code 125) 32 = .ok (.aload_n 0, 1) := by decide +kernel
theorem d125_33 : decode (pm_code 125) 33 = .ok (.getfield 24, 3) := by decide +kernel
theorem d125_36 : decode (pm_code 125) 36 = .ok (.iload 4, 2) := by decide +kernel
theorem d125_38 : decode (pm_code 125) 38 = .ok (.iload_n 1, 1) := by decide +kernel
theorem d125_39 : decode (pm_code 125) 39 = .ok (.iastore, 1) := by decide +kernel
theorem d125_40 : decode (pm_code 125) 40 = .ok (.aload_n 0, 1) := by decide +kernel
theorem d125_41 : decode (pm_code 125) 41 = .ok (.getfield 27, 3) := by decide +kernel
theorem d125_44 : decode (pm_code 125) 44 = .ok (.iload 4, 2) := by decide +kernel
theorem d125_46 : decode (pm_code 125) 46 = .ok (.iload_n 2, 1) := by decide +kernel
theorem d125_47 : decode (pm_code 125) 47 = .ok (.iastore, 1) := by decide +kernel
theorem d125_48 : decode (pm_code 125) 48 = .ok (.aload_n 0, 1) := by decide +kernel
theorem d125_49 : decode (pm_code 125) 49 = .ok (.getfield 30, 3) := by decide +kernel
theorem d125_52 : decode (pm_code 125) 52 = .ok (.iload 4, 2) := by decide +kernel
theorem d125_54 : decode (pm_code 125) 54 = .ok (.iload_n 3, 1) := by decide +kernel
theorem d125_55 : decode (pm_code 125) 55 = .ok (.iastore, 1) := by decide +kernel
theorem d125_56 : decode (pm_code 125) 56 = .ok (.iload 4, 2) := by decide +kernel
theorem d125_58 : decode (pm_code 125) 58 = .ok (.ireturn, 1) := by decide +kernel
theorem d126_0 : decode (pm_code 126) 0 = .ok (.aload_n 0, 1) := by decide +kernel
theorem d126_1 : decode (pm_code 126) 1 = .ok (.getfield 18, 3) := by decide +kernel
theorem d126_4 : decode (pm_code 126) 4 = .ok (.iload_n 1, 1) := by decide +kernel
theorem d126_5 : decode (pm_code 126) 5 = .ok (.iaload, 1) := by decide +kernel
theorem d126_6 : decode (pm_code 126) 6 = .ok (.istore_n 2, 1) := by decide +kernel
theorem d126_7 : decode (pm_code 126) 7 = .ok (.aload_n 0, 1) := by decide +kernel
theorem d126_8 : decode (pm_code 126) 8 = .ok (.getfield 11, 3) := by decide +kernel
theorem d126_11 : decode (pm_code 126) 11 = .ok (.iload_n 1, 1) := by decide +kernel
theorem d126_12 : decode (pm_code 126) 12 = .ok (.iaload, 1) := by decide +kernel
theorem d126_13 : decode (pm_code 126) 13 = .ok (.istore_n 3, 1) := by decide +kernel
theorem d126_14 : decode (pm_code 126) 14 = .ok (.aload_n 0, 1) := by decide +kernel
theorem d126_15 : decode (pm_code 126) 15 = .ok (.getfield 36, 3) := by decide +kernel
theorem d126_18 : decode (pm_code 126) 18 = .ok (.iload_n 2, 1) := by decide +kernel
theorem d126_19 : decode (pm_code 126) 19 = .ok (.aload_n 0, 1) := by decide +kernel
theorem d126_20 : decode (pm_code 126) 20 = .ok (.getfield 21, 3) := by decide +kernel
theorem d126_23 : decode (pm_code 126) 23 = .ok (.iload_n 1, 1) := by decide +kernel
theorem d126_24 : decode (pm_code 126) 24 = .ok (.iaload, 1) := by decide +kernel
theorem d126_25 : decode (pm_code 126) 25 = .ok (.aload_n 0, 1) := by decide +kernel
theorem d126_26 : decode (pm_code 126) 26 = .ok (.getfield 69, 3) := by decide +kernel
theorem d126_29 : decode (pm_code 126) 29 = .ok (.invokevirtual 157, 3) := by decide +kernel
theorem d126_32 : decode (pm_code 126) 32 = .ok (.aload_n 0, 1) := by decide +kernel
theorem d126_33 : decode (pm_code 126) 33 = .ok (.getfield 40, 3) := by decide +kernel
theorem d126_36 : decode (pm_code 126) 36 = .ok (.iload_n 3, 1) := by decide +kernel
theorem d126_37 : decode (pm_code 126) 37 = .ok (.aload_n 0, 1) := by decide +kernel
theorem d126_38 : decode (pm_code 126) 38 = .ok (.getfield 21, 3) := by decide +kernel
theorem d126_41 : decode (pm_code 126) 41 = .ok (.iload_n 1, 1) := by decide +kernel
theorem d126_42 : decode (pm_code 126) 42 = .ok (.iaload, 1) := by decide +kernel
theorem d126_43 : decode (pm_code 126) 43 = .ok (.iconst 1, 1) := by decide +kernel
theorem d126_44 : decode (pm_code 126) 44 = .ok (.iadd, 1) := by decide +kernel
theorem d126_45 : decode (pm_code 126) 45 = .ok (.invokevirtual 117, 3) := by decide +kernel
theorem d126_48 : decode (pm_code 126) 48 = .ok (.istore 4, 2) := by decide +kernel
theorem d126_50 : decode (pm_code 126) 50 = .ok (.iload 4, 2) := by decide +kernel
theorem d126_52 : decode (pm_code 126) 52 = .ok (.iconst 3, 1) := by decide +kernel
theorem d126_53 : decode (pm_code 126) 53 = .ok (.if_icmp .ge 34, 3) := by decide +kernel
theorem d126_56 : decode (pm_code 126) 56 = .ok (.aload_n 0, 1) := by decide +kernel
theorem d126_57 : decode (pm_code 126) 57 = .ok (.getfield 21, 3) := by decide +kernel
theorem d126_60 : decode (pm_code 126) 60 = .ok (.iload_n 1, 1) := by decide +kernel
theorem d126_61 : decode (pm_code 126) 61 = .ok (.iload 4, 2) := by decide +kernel
theorem d126_63 : decode (pm_code 126) 63 = .ok (.iastore, 1) := by decide +kernel
theorem d126_64 : decode (pm_code 126) 64 = .ok (.aload_n 0, 1) := by decide +kernel
theorem d126_65 : decode (pm_code 126) 65 = .ok (.aload_n 0, 1) := by decide +kernel
theorem d126_66 : decode (pm_code 126) 66 = .ok (.getfield 40, 3) := by decide +kernel
theorem d126_69 : decode (pm_code 126) 69 = .ok (.iload_n 3, 1) := by decide +kernel
theorem d126_70 : decode (pm_code 126) 70 = .ok (.iload 4, 2) := by decide +kernel
theorem d126_72 : decode (pm_code 126) 72 = .ok (.invokevirtual 120, 3) := by decide +kernel
theorem d126_75 : decode (pm_code 126) 75 = .ok (.aload_n 0, 1) := by decide +kernel
theorem d126_76 : decode (pm_code 126) 76 = .ok (.getfield 15, 3) := by decide +kernel
theorem d126_79 : decode (pm_code 126) 79 = .ok (.iload_n 1, 1) := by decide +kernel
theorem d126_80 : decode (pm_code 126) 80 = .ok (.iaload, 1) := by decide +kernel
theorem d126_81 : decode (pm_code 126) 81 = .ok (.invokevirtual 64, 3) := by decide +kernel
theorem d126_84 : decode (pm_code 126) 84 = .ok (.goto 18, 3) := by decide +kernel
theorem d126_87 : decode (pm_code 126) 87 = .ok (.aload_n 0, 1) := by decide +kernel
theorem d126_88 : decode (pm_code 126) 88 = .ok (.dup, 1) := by decide +kernel
theorem d126_89 : decode (pm_code 126) 89 = .ok (.getfield 44, 3) := by decide +kernel
theorem d126_92 : decode (pm_code 126) 92 = .ok (.iconst 1, 1) := by decide +kernel
theorem d126_93 : decode (pm_code 126) 93 = .ok (.isub, 1) := by decide +kernel
theorem d126_94 : decode (pm_code 126) 94 = .ok (.putfield 44, 3) := by decide +kernel
theorem d126_97 : decode (pm_code 126) 97 = .ok (.aload_n 0, 1) := by decide +kernel
theorem d126_98 : decode (pm_code 126) 98 = .ok (.iload_n 2, 1) := by decide +kernel
theorem d126_99 : decode (pm_code 126) 99 = .ok (.putfield 69, 3) := by decide +kernel
theorem d126_102 : decode (pm_code 126) 102 = .ok (.return_, 1) := by decide +kernel
theorem d127_0 : decode (pm_code 127) 0 = .ok (.iload_n 2, 1) := by decide +kernel
theorem d127_1 : decode (pm_code 127) 1 = .ok (.iconst (-1), 1) := by decide +kernel
theorem d127_2 : decode (pm_code 127) 2 = .ok (.if_icmp .eq 16, 3) := by decide +kernel
theorem d127_5 : decode (pm_code 127) 5 = .ok (.iload_n 3, 1) := by decide +kernel
theorem d127_6 : decode (pm_code 127) 6 = .ok (.bipush 40, 2) := by decide +kernel
theorem d127_8 : decode (pm_code 127) 8 = .ok (.if_icmp .ge 10, 3) := by decide +kernel
theorem d127_11 : decode (pm_code 127) 11 = .ok (.aload_n 1, 1) := by decide +kernel
theorem d127_12 : decode (pm_code 127) 12 = .ok (.invokevirtual 161, 3) := by decide +kernel
theorem d127_15 : decode (pm_code 127) 15 = .ok (.ifCond .eq 4, 3) := by decide +kernel
theorem d127_18 : decode (pm_code 127) 18 = .ok (.return_, 1) := by decide +kernel
theorem d127_19 : decode (pm_code 127) 19 = .ok (.aload_n 0, 1) := by decide +kernel
theorem d127_20 : decode (pm_code 127) 20 = .ok (.getfield 40, 3) := by decide +kernel
theorem d127_23 : decode (pm_code 127) 23 = .ok (.getfield 85, 3) := by decide +kernel
theorem d127_26 : decode (pm_code 127) 26 = .ok (.aload_n 0, 1) := by decide +kernel
theorem d127_27 : decode (pm_code 127) 27 = .ok (.getfield 36, 3) := by decide +kernel
theorem d127_30 : decode (pm_code 127) 30 = .ok (.getfield 144, 3) := by decide +kernel
theorem d127_33 : decode (pm_code 127) 33 = .ok (.iload_n 2, 1) := by decide +kernel
theorem d127_34 : decode (pm_code 127) 34 = .ok (.iaload, 1) := by decide +kernel
theorem d127_35 : decode (pm_code 127) 35 = .ok (.iaload, 1) := by decide +kernel
theorem d127_36 : decode (pm_code 127) 36 = .ok (.istore 4, 2) := by decide +kernel
theorem d127_38 : decode (pm_code 127) 38 = .ok (.iload 4, 2) := by decide +kernel
theorem d127_40 : decode (pm_code 127) 40 = .ok (.iconst 1, 1) := by decide +kernel
theorem d127_41 : decode (pm_code 127) 41 = .ok (.if_icmp .ne 12, 3) := by decide +kernel
theorem d127_44 : decode (pm_code 127) 44 = .ok (.aload_n 1, 1) := by decide +kernel
theorem d127_45 : decode (pm_code 127) 45 = .ok (.bipush 102, 2) := by decide +kernel
theorem d127_47 : decode (pm_code 127) 47 = .ok (.invokevirtual 166, 3) := by decide +kernel
theorem d127_50 : decode (pm_code 127) 50 = .ok (.goto 25, 3) := by decide +kernel
theorem d127_53 : decode (pm_code 127) 53 = .ok (.iload 4, 2) := by decide +kernel
theorem d127_55 : decode (pm_code 127) 55 = .ok (.iconst 3, 1) := by decide +kernel
theorem d127_56 : decode (pm_code 127) 56 = .ok (.if_icmp .ne 12, 3) := by decide +kernel
theorem d127_59 : decode (pm_code 127) 59 = .ok (.aload_n 1, 1) := by decide +kernel
theorem d127_60 : decode (pm_code 127) 60 = .ok (.bipush 103, 2) := by decide +kernel
theorem d127_62 : decode (pm_code 127) 62 = .ok (.invokevirtual 166, 3) := by decide +kernel
theorem d127_65 : decode (pm_code 127) 65 = .ok (.goto 10, 3) := by decide +kernel
theorem d127_68 : decode (pm_code 127) 68 = .ok (.aload_n 0, 1) := by decide +kernel
theorem d127_69 : decode (pm_code 127) 69 = .ok (.aload_n 1, 1) := by decide +kernel
theorem d127_70 : decode (pm_code 127) 70 = .ok (.iload_n 2, 1) := by decide +kernel
theorem d127_71 : decode (pm_code 127) 71 = .ok (.iload_n 3, 1) := by decide +kernel
theorem d127_72 : decode (pm_code 127) 72 = .ok (.invokevirtual 170, 3) := by decide +kernel
theorem d127_75 : decode (pm_code 127) 75 = .ok (.return_, 1) := by decide +kernel
theorem d128_0 : decode (pm_code 128) 0 = .ok (.aload_n 1, 1) := by decide +kernel
theorem d128_1 : decode (pm_code 128) 1 = .ok (.bipush 123, 2) := by decide +kernel
theorem d128_3 : decode (pm_code 128) 3 = .ok (.invokevirtual 166, 3) := by decide +kernel
theorem d128_6 : decode (pm_code 128) 6 = .ok (.iconst 0, 1) := by decide +kernel
theorem d128_7 : decode (pm_code 128) 7 = .ok (.istore 4, 2) := by decide +kernel
theorem d128_9 : decode (pm_code 128) 9 = .ok (.iconst 0, 1) := by decide +kernel
theorem d128_10 : decode (pm_code 128) 10 = .ok (.istore 5, 2) := by decide +kernel
theorem d128_12 : decode (pm_code 128) 12 = .ok (.iload 5, 2) := by decide +kernel
theorem d128_14 : decode (pm_code 128) 14 = .ok (.iconst 3, 1) := by decide +kernel
theorem d128_15 : decode (pm_code 128) 15 = .ok (.if_icmp .ge 78, 3) := by decide +kernel
theorem d128_18 : decode (pm_code 128) 18 = .ok (.aload_n 0, 1) := by decide +kernel
theorem d128_19 : decode (pm_code 128) 19 = .ok (.getfield 40, 3) := by decide +kernel
theorem d128_22 : decode (pm_code 128) 22 = .ok (.aload_n 0, 1) := by decide +kernel
theorem d128_23 : decode (pm_code 128) 23 = .ok (.getfield 36, 3) := by decide +kernel
theorem d128_26 : decode (pm_code 128) 26 = .ok (.getfield 144, 3) := by decide +kernel
theorem d128_29 : decode (pm_code 128) 29 = .ok (.iload_n 2, 1) := by decide +kernel
theorem d128_30 : decode (pm_code 128) 30 = .ok (.iaload, 1) := by decide +kernel
theorem d128_31 : decode (pm_code 128) 31 = .ok (.iload 5, 2) := by decide +kernel
theorem d128_33 : decode (pm_code 128) 33 = .ok (.invokevirtual 174, 3) := by decide +kernel
theorem d128_36 : decode (pm_code 128) 36 = .ok (.ifCond .eq 51, 3) := by decide +kernel
theorem d128_39 : decode (pm_code 128) 39 = .ok (.iload 4, 2) := by decide +kernel
theorem d128_41 : decode (pm_code 128) 41 = .ok (.ifCond .eq 9, 3) := by decide +kernel
theorem d128_44 : decode (pm_code 128) 44 = .ok (.aload_n 1, 1) := by decide +kernel
theorem d128_45 : decode (pm_code 128) 45 = .ok (.bipush 44, 2) := by decide +kernel
theorem d128_47 : decode (pm_code 128) 47 = .ok (.invokevirtual 166, 3) := by decide +kernel
theorem d128_50 : decode (pm_code 128) 50 = .ok (.iconst 1, 1) := by decide +kernel
theorem d128_51 : decode (pm_code 128) 51 = .ok (.istore 4, 2) := by decide +kernel
theorem d128_53 : decode (pm_code 128) 53 = .ok (.aload_n 1, 1) := by decide +kernel
theorem d128_54 : decode (pm_code 128) 54 = .ok (.bipush 120, 2) := by decide +kernel
theorem d128_56 : decode (pm_code 128) 56 = .ok (.iload 5, 2) := by decide +kernel
theorem d128_58 : decode (pm_code 128) 58 = .ok (.iadd, 1) := by decide +kernel
theorem d128_59 : decode (pm_code 128) 59 = .ok (.i2c, 1) := by decide +kernel
theorem d128_60 : decode (pm_code 128) 60 = .ok (.invokevirtual 166, 3) := by decide +kernel
theorem d128_63 : decode (pm_code 128) 63 = .ok (.aload_n 1, 1) := by decide +kernel
theorem d128_64 : decode (pm_code 128) 64 = .ok (.bipush 61, 2) := by decide +kernel
theorem d128_66 : decode (pm_code 128) 66 = .ok (.invokevirtual 166, 3) := by decide +kernel
theorem d128_69 : decode (pm_code 128) 69 = .ok (.aload_n 0, 1) := by decide +kernel
theorem d128_70 : decode (pm_code 128) 70 = .ok (.aload_n 1, 1) := by decide +kernel
theorem d128_71 : decode (pm_code 128) 71 = .ok (.aload_n 0, 1) := by decide +kernel
theorem d128_72 : decode (pm_code 128) 72 = .ok (.getfield 36, 3) := by decide +kernel
theorem d128_75 : decode (pm_code 128) 75 = .ok (.iload_n 2, 1) := by decide +kernel
theorem d128_76 : decode (pm_code 128) 76 = .ok (.iload 5, 2) := by decide +kernel
theorem d128_78 : decode (pm_code 128) 78 = .ok (.invokevirtual 149, 3) := by decide +kernel
theorem d128_81 : decode (pm_code 128) 81 = .ok (.iload_n 3, 1) := by decide +kernel
theorem d128_82 : decode (pm_code 128) 82 = .ok (.iconst 1, 1) := by decide +kernel
theorem d128_83 : decode (pm_code 128) 83 = .ok (.iadd, 1) := by decide +kernel
theorem d128_84 : decode (pm_code 128) 84 = .ok (.invokevirtual 177, 3) := by decide +kernel
theorem d128_87 : decode (pm_code 128) 87 = .ok (.iinc 5 1, 3) := by decide +kernel
theorem d128_90 : decode (pm_code 128) 90 = .ok (.goto (-78), 3) := by decide +kernel
theorem d128_93 : decode (pm_code 128) 93 = .ok (.aload_n 1, 1) := by decide +kernel
theorem d128_94 : decode (pm_code 128) 94 = .ok (.bipush 125, 2) := by decide +kernel
theorem d128_96 : decode (pm_code 128) 96 = .ok (.invokevirtual 166, 3) := by decide +kernel
theorem d128_99 : decode (pm_code 128) 99 = .ok (.return_, 1) := by decide +kernel
theorem d129_0 : decode (pm_code 129) 0 = .ok (.aload_n 0, 1) := by decide +kernel
theorem d129_1 : decode (pm_code 129) 1 = .ok (.invokespecial 5, 3) := by decide +kernel
theorem d129_4 : decode (pm_code 129) 4 = .ok (.aload_n 0, 1) := by decide +kernel
theorem d129_5 : decode (pm_code 129) 5 = .ok (.bipush 16, 2) := by decide +kernel
theorem d129_7 : decode (pm_code 129) 7 = .ok (.newarray .int, 2) := by decide +kernel
theorem d129_9 : decode (pm_code 129) 9 = .ok (.putfield 13, 3) := by decide +kernel
theorem d129_12 : decode (pm_code 129) 12 = .ok (.aload_n 0, 1) := by decide +kernel
theorem d129_13 : decode (pm_code 129) 13 = .ok (.bipush 16, 2) := by decide +kernel
theorem d129_15 : decode (pm_code 129) 15 = .ok (.newarray .int, 2) := by decide +kernel
theorem d129_17 : decode (pm_code 129) 17 = .ok (.putfield 17, 3) := by decide +kernel
theorem d129_20 : decode (pm_code 129) 20 = .ok (.aload_n 0, 1) := by decide +kernel
theorem d129_21 : decode (pm_code 129) 21 = .ok (.bipush 16, 2) := by decide +kernel
theorem d129_23 : decode (pm_code 129) 23 = .ok (.newarray .int, 2) := by decide +kernel
theorem d129_25 : decode (pm_code 129) 25 = .ok (.putfield 20, 3) := by decide +kernel
theorem d129_28 : decode (pm_code 129) 28 = .ok (.aload_n 0, 1) := by decide +kernel
theorem d129_29 : decode (pm_code 129) 29 = .ok (.bipush 16, 2) := by decide +kernel
theorem d129_31 : decode (pm_code 129) 31 = .ok (.newarray .int, 2) := by decide +kernel
theorem d129_33 : decode (pm_code 129) 33 = .ok (.putfield 23, 3) := by decide +kernel
theorem d129_36 : decode (pm_code 129) 36 = .ok (.return_, 1) := by decide +kernel
theorem d130_0 : decode (pm_code 130) 0 = .ok (.aload_n 0, 1) := by decide +kernel
theorem d130_1 : decode (pm_code 130) 1 = .ok (.getfield 26, 3) := by decide +kernel
theorem d130_4 : decode (pm_code 130) 4 = .ok (.aload_n 0, 1) := by decide +kernel
theorem d130_5 : decode (pm_code 130) 5 = .ok (.getfield 13, 3) := by decide +kernel
theorem d130_8 : decode (pm_code 130) 8 = .ok (.arraylength, 1) := by decide +kernel
theorem d130_9 : decode (pm_code 130) 9 = .ok (.if_icmp .lt 12, 3) := by decide +kernel
theorem d130_12 : decode (pm_code 130) 12 = .ok (.aload_n 0, 1) := by decide +kernel
theorem d130_13 : decode (pm_code 130) 13 = .ok (.invokevirtual 30, 3) := by decide +kernel
theorem d130_16 : decode (pm_code 130) 16 = .ok (.ifCond .ne 5, 3) := by decide +kernel
theorem d130_19 : decode (pm_code 130) 19 = .ok (.iconst (-1), 1) := by decide +kernel
theorem d130_20 : decode (pm_code 130) 20 = .ok (.ireturn, 1) := by decide +kernel
theorem d130_21 : decode (pm_code 130) 21 = .ok (.aload_n 0, 1) := by decide +kernel
theorem d130_22 : decode (pm_code 130) 22 = .ok (.getfield 26, 3) := by decide +kernel
theorem d130_25 : decode (pm_code 130) 25 = .ok (.istore_n 3, 1) := by decide +kernel
theorem d130_26 : decode (pm_code 130) 26 = .ok (.aload_n 0, 1) := by decide +kernel
theorem d130_27 : decode (pm_code 130) 27 = .ok (.dup, 1) := by decide +kernel
theorem d130_28 : decode (pm_code 130) 28 = .ok (.getfield 26, 3) := by decide +kernel
theorem d130_31 : decode (pm_code 130) 31 = .ok (.iconst 1, 1) := by decide +kernel
theorem d130_32 : decode (pm_code 130) 32 = .ok (.iadd, 1) := by decide +kernel
theorem d130_33 : decode (pm_code 130) 33 = .ok (.putfield 26, 3) := by decide +kernel
theorem d130_36 : decode (pm_code 130) 36 = .ok (.aload_n 0, 1) := by decide +kernel
theorem d130_37 : decode (pm_code 130) 37 = .ok (.getfield 13, 3) := by decide +kernel
theorem d130_40 : decode (pm_code 130) 40 = .ok (.iload_n 3, 1) := by decide +kernel
theorem d130_41 : decode (pm_code 130) 41 = .ok (.iload_n 1, 1) := by decide +kernel
theorem d130_42 : decode (pm_code 130) 42 = .ok (.iastore, 1) := by decide +kernel
theorem d130_43 : decode (pm_code 130) 43 = .ok (.aload_n 0, 1) := by decide +kernel
theorem d130_44 : decode (pm_code 130) 44 = .ok (.getfield 17, 3) := by decide +kernel
theorem d130_47 : decode (pm_code 130) 47 = .ok (.iload_n 3, 1) := by decide +kernel
theorem d130_48 : decode (pm_code 130) 48 = .ok (.iload_n 2, 1) := by decide +kernel
theorem d130_49 : decode (pm_code 130) 49 = .ok (.iastore, 1) := by decide +kernel
theorem d130_50 : decode (pm_code 130) 50 = .ok (.aload_n 0, 1) := by decide +kernel
theorem d130_51 : decode (pm_code 130) 51 = .ok (.getfield 20, 3) := by decide +kernel
theorem d130_54 : decode (pm_code 130) 54 = .ok (.iload_n 3, 1) := by decide +kernel
theorem d130_55 : decode (pm_code 130) 55 = .ok (.iconst (-1), 1) := by decide +kernel
theorem d130_56 : decode (pm_code 130) 56 = .ok (.iastore, 1) := by decide +kernel
theorem d130_57 : decode (pm_code 130) 57 = .ok (.aload_n 0, 1) := by decide +kernel
theorem d130_58 : decode (pm_code 130) 58 = .ok (.getfield 23, 3) := by decide +kernel
theorem d130_61 : decode (pm_code 130) 61 = .ok (.iload_n 3, 1) := by decide +kernel
theorem d130_62 : decode (pm_code 130) 62 = .ok (.iconst (-1), 1) := by decide +kernel
theorem d130_63 : decode (pm_code 130) 63 = .ok (.iastore, 1) := by decide +kernel
theorem d130_64 : decode (pm_code 130) 64 = .ok (.iload_n 3, 1) := by decide +kernel
theorem d130_65 : decode (pm_code 130) 65 = .ok (.ireturn, 1) := by decide +kernel
theorem d131_0 : decode (pm_code 131) 0 = .ok (.iconst 2, 1) := by decide +kernel
theorem d131_1 : decode (pm_code 131) 1 = .ok (.aload_n 0, 1) := by decide +kernel
theorem d131_2 : decode (pm_code 131) 2 = .ok (.getfield 13, 3) := by decide +kernel
theorem d131_5 : decode (pm_code 131) 5 = .ok (.arraylength, 1) := by decide +kernel
theorem d131_6 : decode (pm_code 131) 6 = .ok (.imul, 1) := by decide +kernel
theorem d131_7 : decode (pm_code 131) 7 = .ok (.sipush 1220, 3) := by decide +kernel
theorem d131_10 : decode (pm_code 131) 10 = .ok (.invokestatic 34, 3) := by decide +kernel
theorem d131_13 : decode (pm_code 131) 13 = .ok (.istore_n 1, 1) := by decide +kernel
theorem d131_14 : decode (pm_code 131) 14 = .ok (.iload_n 1, 1) := by decide +kernel
theorem d131_15 : decode (pm_code 131) 15 = .ok (.aload_n 0, 1) := by decide +kernel
theorem d131_16 : decode (pm_code 131) 16 = .ok (.getfield 13, 3) := by decide +kernel
theorem d131_19 : decode (pm_code 131) 19 = .ok (.arraylength, 1) := by decide +kernel
theorem d131_20 : decode (pm_code 131) 20 = .ok (.if_icmp .gt 5, 3) := by decide +kernel
theorem d131_23 : decode (pm_code 131) 23 = .ok (.iconst 0, 1) := by decide +kernel
theorem d131_24 : decode (pm_code 131) 24 = .ok (.ireturn, 1) := by decide +kernel
theorem d131_25 : decode (pm_code 131) 25 = .ok (.aload_n 0, 1) := by decide +kernel
theorem d131_26 : decode (pm_code 131) 26 = .ok (.aload_n 0, 1) := by decide +kernel
theorem d131_27 : decode (pm_code 131) 27 = .ok (.getfield 13, 3) := by decide +kernel
theorem d131_30 : decode (pm_code 131) 30 = .ok (.iload_n 1, 1) := by decide +kernel
theorem d131_31 : decode (pm_code 131) 31 = .ok (.invokestatic 40, 3) := by decide +kernel
theorem d131_34 : decode (pm_code 131) 34 = .ok (.putfield 13, 3) := by decide +kernel
theorem d131_37 : decode (pm_code 131) 37 = .ok (.aload_n 0, 1) := by decide +kernel
theorem d131_38 : decode (pm_code 131) 38 = .ok (.aload_n 0, 1) := by decide +kernel
theorem d131_39 : decode (pm_code 131) 39 = .ok (.getfield 17, 3) := by decide +kernel
theorem d131_42 : decode (pm_code 131) 42 = .ok (.iload_n 1, 1) := by decide +kernel
theorem d131_43 : decode (pm_code 131) 43 = .ok (.invokestatic 40, 3) := by decide +kernel
theorem d131_46 : decode (pm_code 131) 46 = .ok (.putfield 17, 3) := by decide +kernel
theorem d131_49 : decode (pm_code 131) 49 = .ok (.aload_n 0, 1) := by decide +kernel
theorem d131_50 : decode (pm_code 131) 50 = .ok (.aload_n 0, 1) := by decide +kernel
theorem d131_51 : decode (pm_code 131) 51 = .ok (.getfield 20, 3) := by decide +kernel
theorem d131_54 : decode (pm_code 131) 54 = .ok (.iload_n 1, 1) := by decide +kernel
theorem d131_55 : decode (pm_code 131) 55 = .ok (.invokestatic 40, 3) := by decide +kernel
theorem d131_58 : decode (pm_code 131) 58 = .ok (.putfield 20, 3) := by decide +kernel
theorem d131_61 : decode (pm_code 131) 61 = .ok (.aload_n 0, 1) := by decide +kernel
theorem d131_62 : decode (pm_code 131) 62 = .ok (.aload_n 0, 1) := by decide +kernel
theorem d131_63 : decode (pm_code 131) 63 = .ok (.getfield 23, 3) := by decide +kernel
theorem d131_66 : decode (pm_code 131) 66 = .ok (.iload_n 1, 1) := by decide +kernel
theorem d131_67 : decode (pm_code 131) 67 = .ok (.invokestatic 40, 3) := by decide +kernel
theorem d131_70 : decode (pm_code 131) 70 = .ok (.putfield 23, 3) := by decide +kernel
theorem d131_73 : decode (pm_code 131) 73 = .ok (.iconst 1, 1) := by decide +kernel
theorem d131_74 : decode (pm_code 131) 74 = .ok (.ireturn, 1) := by decide +kernel
theorem d132_0 : decode (pm_code 132) 0 = .ok (.iload_n 2, 1) := by decide +kernel
theorem d132_1 : decode (pm_code 132) 1 = .ok (.ifCond .ne 12, 3) := by decide +kernel
theorem d132_4 : decode (pm_code 132) 4 = .ok (.aload_n 0, 1) := by decide +kernel
theorem d132_5 : decode (pm_code 132) 5 = .ok (.getfield 17, 3) := by decide +kernel
theorem d132_8 : decode (pm_code 132) 8 = .ok (.iload_n 1, 1) := by decide +kernel
theorem d132_9 : decode (pm_code 132) 9 = .ok (.iaload, 1) := by decide +kernel
theorem d132_10 : decode (pm_code 132) 10 = .ok (.goto 23, 3) := by decide +kernel
theorem d132_13 : decode (pm_code 132) 13 = .ok (.iload_n 2, 1) := by decide +kernel
theorem d132_14 : decode (pm_code 132) 14 = .ok (.iconst 1, 1) := by decide +kernel
theorem d132_15 : decode (pm_code 132) 15 = .ok (.if_icmp .ne 12, 3) := by decide +kernel
theorem d132_18 : decode (pm_code 132) 18 = .ok (.aload_n 0, 1) := by decide +kernel
theorem d132_19 : decode (pm_code 132) 19 = .ok (.getfield 20, 3) := by decide +kernel
theorem d132_22 : decode (pm_code 132) 22 = .ok (.iload_n 1, 1) := by decide +kernel
theorem d132_23 : decode (pm_code 132) 23 = .ok (.iaload, 1) := by decide +kernel
theorem d132_24 : decode (pm_code 132) 24 = .ok (.goto 9, 3) := by decide +kernel
theorem d132_27 : decode (pm_code 132) 27 = .ok (.aload_n 0, 1) := by decide +kernel
theorem d132_28 : decode (pm_code 132) 28 = .ok (.getfield 23, 3) := by decide +kernel
theorem d132_31 : decode (pm_code 132) 31 = .ok (.iload_n 1, 1) := by decide +kernel
theorem d132_32 : decode (pm_code 132) 32 = .ok (.iaload, 1) := by decide +kernel
theorem d132_33 : decode (pm_code 132) 33 = .ok (.ireturn, 1) := by decide +kernel
theorem d133_0 : decode (pm_code 133) 0 = .ok (.iload_n 2, 1) := by decide +kernel
theorem d133_1 : decode (pm_code 133) 1 = .ok (.ifCond .ne 13, 3) := by decide +kernel
theorem d133_4 : decode (pm_code 133) 4 = .ok (.aload_n 0, 1) := by decide +kernel
theorem d133_5 : decode (pm_code 133) 5 = .ok (.getfield 17, 3) := by decide +kernel
theorem d133_8 : decode (pm_code 133) 8 = .ok (.iload_n 1, 1) := by decide +kernel
theorem d133_9 : decode (pm_code 133) 9 = .ok (.iload_n 3, 1) := by decide +kernel
theorem d133_10 : decode (pm_code 133) 10 = .ok (.iastore, 1) := by decide +kernel
theorem d133_11 : decode (pm_code 133) 11 = .ok (.goto 25, 3) := by decide +kernel
theorem d133_14 : decode (pm_code 133) 14 = .ok (.iload_n 2, 1) := by decide +kernel
theorem d133_15 : decode (pm_code 133) 15 = .ok (.iconst 1, 1) := by decide +kernel
theorem d133_16 : decode (pm_code 133) 16 = .ok (.if_icmp .ne 13, 3) := by decide +kernel
theorem d133_19 : decode (pm_code 133) 19 = .ok (.aload_n 0, 1) := by decide +kernel
theorem d133_20 : decode (pm_code 133) 20 = .ok (.getfield 20, 3) := by decide +kernel
theorem d133_23 : decode (pm_code 133) 23 = .ok (.iload_n 1, 1) := by decide +kernel
theorem d133_24 : decode (pm_code 133) 24 = .ok (.iload_n 3, 1) := by decide +kernel
theorem d133_25 : decode (pm_code 133) 25 = .ok (.iastore, 1) := by decide +kernel
theorem d133_26 : decode (pm_code 133) 26 = .ok (.goto 10, 3) := by decide +kernel
theorem d133_29 : decode (pm_code 133) 29 = .ok (.aload_n 0, 1) := by decide +kernel
theorem d133_30 : decode (pm_code 133) 30 = .ok (.getfield 23, 3) := by decide +kernel
theorem d133_33 : decode (pm_code 133) 33 = .ok (.iload_n 1, 1) := by decide +kernel
theorem d133_34 : decode (pm_code 133) 34 = .ok (.iload_n 3, 1) := by decide +kernel
theorem d133_35 : decode (pm_code 133) 35 = .ok (.iastore, 1) := by decide +kernel
theorem d133_36 : decode (pm_code 133) 36 = .ok (.return_, 1) := by decide +kernel
theorem d134_0 : decode (pm_code 134) 0 = .ok (.aload_n 0, 1) := by decide +kernel
theorem d134_1 : decode (pm_code 134) 1 = .ok (.invokespecial 1, 3) := by decide +kernel
theorem d134_4 : decode (pm_code 134) 4 = .ok (.aload_n 0, 1) := by decide +kernel
theorem d134_5 : decode (pm_code 134) 5 = .ok (.bipush 60, 2) := by decide +kernel
theorem d134_7 : decode (pm_code 134) 7 = .ok (.newarray .int, 2) := by decide +kernel
theorem d134_9 : decode (pm_code 134) 9 = .ok (.putfield 7, 3) := by decide +kernel
theorem d134_12 : decode (pm_code 134) 12 = .ok (.aload_n 0, 1) := by decide +kernel
theorem d134_13 : decode (pm_code 134) 13 = .ok (.sipush 128, 3) := by decide +kernel
theorem d134_16 : decode (pm_code 134) 16 = .ok (.newarray .int, 2) := by decide +kernel
theorem d134_18 : decode (pm_code 134) 18 = .ok (.putfield 13, 3) := by decide +kernel
theorem d134_21 : decode (pm_code 134) 21 = .ok (.aload_n 0, 1) := by decide +kernel
theorem d134_22 : decode (pm_code 134) 22 = .ok (.sipush 128, 3) := by decide +kernel
theorem d134_25 : decode (pm_code 134) 25 = .ok (.newarray .int, 2) := by decide +kernel
theorem d134_27 : decode (pm_code 134) 27 = .ok (.putfield 16, 3) := by decide +kernel
theorem d134_30 : decode (pm_code 134) 30 = .ok (.aload_n 0, 1) := by decide +kernel
theorem d134_31 : decode (pm_code 134) 31 = .ok (.sipush 128, 3) := by decide +kernel
theorem d134_34 : decode (pm_code 134) 34 = .ok (.newarray .int, 2) := by decide +kernel
theorem d134_36 : decode (pm_code 134) 36 = .ok (.putfield 19, 3) := by decide +kernel
theorem d134_39 : decode (pm_code 134) 39 = .ok (.aload_n 0, 1) := by decide +kernel
theorem d134_40 : decode (pm_code 134) 40 = .ok (.sipush 128, 3) := by decide +kernel
theorem d134_43 : decode (pm_code 134) 43 = .ok (.newarray .int, 2) := by decide +kernel
theorem d134_45 : decode (pm_code 134) 45 = .ok (.putfield 22, 3) := by decide +kernel
theorem d134_48 : decode (pm_code 134) 48 = .ok (.aload_n 0, 1) := by decide +kernel
theorem d134_49 : decode (pm_code 134) 49 = .ok (.sipush 128, 3) := by decide +kernel
theorem d134_52 : decode (pm_code 134) 52 = .ok (.newarray .int, 2) := by decide +kernel
theorem d134_54 : decode (pm_code 134) 54 = .ok (.putfield 25, 3) := by decide +kernel
theorem d134_57 : decode (pm_code 134) 57 = .ok (.aload_n 0, 1) := by decide +kernel
theorem d134_58 : decode (pm_code 134) 58 = .ok (.sipush 128, 3) := by decide +kernel
theorem d134_61 : decode (pm_code 134) 61 = .ok (.newarray .int, 2) := by decide +kernel
theorem d134_63 : decode (pm_code 134) 63 = .ok (.putfield 28, 3) := by decide +kernel
theorem d134_66 : decode (pm_code 134) 66 = .ok (.aload_n 0, 1) := by decide +kernel
theorem d134_67 : decode (pm_code 134) 67 = .ok (.sipush 128, 3) := by decide +kernel
theorem d134_70 : decode (pm_code 134) 70 = .ok (.newarray .int, 2) := by decide +kernel
theorem d134_72 : decode (pm_code 134) 72 = .ok (.putfield 31, 3) := by decide +kernel
theorem d134_75 : decode (pm_code 134) 75 = .ok (.aload_n 0, 1) := by decide +kernel
theorem d134_76 : decode (pm_code 134) 76 = .ok (.sipush 128, 3) := by decide +kernel
theorem d134_79 : decode (pm_code 134) 79 = .ok (.newarray .int, 2) := by decide +kernel
theorem d134_81 : decode (pm_code 134) 81 = .ok (.putfield 34, 3) := by decide +kernel
theorem d134_84 : decode (pm_code 134) 84 = .ok (.aload_n 0, 1) := by decide +kernel
theorem d134_85 : decode (pm_code 134) 85 = .ok (.sipush 128, 3) := by decide +kernel
theorem d134_88 : decode (pm_code 134) 88 = .ok (.newarray .int, 2) := by decide +kernel
theorem d134_90 : decode (pm_code 134) 90 = .ok (.putfield 37, 3) := by decide +kernel
theorem d134_93 : decode (pm_code 134) 93 = .ok (.aload_n 0, 1) := by decide +kernel
theorem d134_94 : decode (pm_code 134) 94 = .ok (.sipush 128, 3) := by decide +kernel
theorem d134_97 : decode (pm_code 134) 97 = .ok (.newarray .int, 2) := by decide +kernel
theorem d134_99 : decode (pm_code 134) 99 = .ok (.putfield 40, 3) := by decide +kernel
theorem d134_102 : decode (pm_code 134) 102 = .ok (.aload_n 0, 1) := by decide +kernel
theorem d134_103 : decode (pm_code 134) 103 = .ok (.sipush 256, 3) := by decide +kernel
theorem d134_106 : decode (pm_code 134) 106 = .ok (.newarray .int, 2) := by decide +kernel
theorem d134_108 : decode (pm_code 134) 108 = .ok (.putfield 43, 3) := by decide +kernel
theorem d134_111 : decode (pm_code 134) 111 = .ok (.aload_n 0, 1) := by decide +kernel
theorem d134_112 : decode (pm_code 134) 112 = .ok (.sipush 256, 3) := by decide +kernel
theorem d134_115 : decode (pm_code 134) 115 = .ok (.newarray .int, 2) := by decide +kernel
theorem d134_117 : decode (pm_code 134) 117 = .ok (.putfield 46, 3) := by decide +kernel
theorem d134_120 : decode (pm_code 134) 120 = .ok (.aload_n 0, 1) := by decide +kernel
theorem d134_121 : decode (pm_code 134) 121 = .ok (.sipush 256, 3) := by decide +kernel
theorem d134_124 : decode (pm_code 134) 124 = .ok (.newarray .int, 2) := by decide +kernel
theorem d134_126 : decode (pm_code 134) 126 = .ok (.putfield 49, 3) := by decide +kernel
theorem d134_129 : decode (pm_code 134) 129 = .ok (.aload_n 0, 1) := by decide +kernel
theorem d134_130 : decode (pm_code 134) 130 = .ok (.sipush 256, 3) := by decide +kernel
theorem d134_133 : decode (pm_code 134) 133 = .ok (.newarray .int, 2) := by decide +kernel
theorem d134_135 : decode (pm_code 134) 135 = .ok (.putfield 52, 3) := by decide +kernel
theorem d134_138 : decode (pm_code 134) 138 = .ok (.aload_n 0, 1) := by decide +kernel
theorem d134_139 : decode (pm_code 134) 139 = .ok (.iconst 4, 1) := by decide +kernel
theorem d134_140 : decode (pm_code 134) 140 = .ok (.newarray .boolean, 2) := by decide +kernel
theorem d134_142 : decode (pm_code 134) 142 = .ok (.putfield 55, 3) := by decide +kernel
theorem d134_145 : decode (pm_code 134) 145 = .ok (.aload_n 0, 1) := by decide +kernel
theorem d134_146 : decode (pm_code 134) 146 = .ok (.sipush 132, 3) := by decide +kernel
theorem d134_149 : decode (pm_code 134) 149 = .ok (.putfield 59, 3) := by decide +kernel
theorem d134_152 : decode (pm_code 134) 152 = .ok (.aload_n 0, 1) := by decide +kernel
theorem d134_153 : decode (pm_code 134) 153 = .ok (.sipush 18700, 3) := by decide +kernel
theorem d134_156 : decode (pm_code 134) 156 = .ok (.newarray .int, 2) := by decide +kernel
theorem d134_158 : decode (pm_code 134) 158 = .ok (.putfield 63, 3) := by decide +kernel
theorem d134_161 : decode (pm_code 134) 161 = .ok (.aload_n 0, 1) := by decide +kernel
theorem d134_162 : decode (pm_code 134) 162 = .ok (.sipush 900, 3) := by decide +kernel
theorem d134_165 : decode (pm_code 134) 165 = .ok (.newarray .int, 2) := by decide +kernel
theorem d134_167 : decode (pm_code 134) 167 = .ok (.putfield 66, 3) := by decide +kernel
theorem d134_170 : decode (pm_code 134) 170 = .ok (.aload_n 0, 1) := by decide +kernel
theorem d134_171 : decode (pm_code 134) 171 = .ok (.sipush 900, 3) := by decide +kernel
theorem d134_174 : decode (pm_code 134) 174 = .ok (.newarray .int, 2) := by decide +kernel
theorem d134_176 : decode (pm_code 134) 176 = .ok (.putfield 69, 3) := by decide +kernel
theorem d134_179 : decode (pm_code 134) 179 = .ok (.aload_n 0, 1) := by decide +kernel
theorem d134_180 : decode (pm_code 134) 180 = .ok (.sipush 900, 3) := by decide +kernel
theorem d134_183 : decode (pm_code 134) 183 = .ok (.newarray .int, 2) := by decide +kernel
theorem d134_185 : decode (pm_code 134) 185 = .ok (.putfield 72, 3) := by decide +kernel
theorem d134_188 : decode (pm_code 134) 188 = .ok (.aload_n 0, 1) := by decide +kernel
theorem d134_189 : decode (pm_code 134) 189 = .ok (.bipush 64, 2) := by decide +kernel
theorem d134_191 : decode (pm_code 134) 191 = .ok (.newarray .int, 2) := by decide +kernel
theorem d134_193 : decode (pm_code 134) 193 = .ok (.putfield 75, 3) := by decide +kernel
theorem d134_196 : decode (pm_code 134) 196 = .ok (.aload_n 0, 1) := by decide +kernel
theorem d134_197 : decode (pm_code 134) 197 = .ok (.bipush 64, 2) := by decide +kernel
theorem d134_199 : decode (pm_code 134) 199 = .ok (.newarray .boolean, 2) := by decide +kernel
theorem d134_201 : decode (pm_code 134) 201 = .ok (.putfield 78, 3) := by decide +kernel
theorem d134_204 : decode (pm_code 134) 204 = .ok (.aload_n 0, 1) := by decide +kernel
theorem d134_205 : decode (pm_code 134) 205 = .ok (.bipush 64, 2) := by decide +kernel
theorem d134_207 : decode (pm_code 134) 207 = .ok (.newarray .boolean, 2) := by decide +kernel
theorem d134_209 : decode (pm_code 134) 209 = .ok (.putfield 81, 3) := by decide +kernel
theorem d134_212 : decode (pm_code 134) 212 = .ok (.aload_n 0, 1) := by decide +kernel
theorem d134_213 : decode (pm_code 134) 213 = .ok (.sipush 1800, 3) := by decide +kernel
theorem d134_216 : decode (pm_code 134) 216 = .ok (.newarray .int, 2) := by decide +kernel
theorem d134_218 : decode (pm_code 134) 218 = .ok (.putfield 84, 3) := by decide +kernel
theorem d134_221 : decode (pm_code 134) 221 = .ok (.aload_n 0, 1) := by decide +kernel
theorem d134_222 : decode (pm_code 134) 222 = .ok (.sipush 4200, 3) := by decide +kernel
theorem d134_225 : decode (pm_code 134) 225 = .ok (.newarray .int, 2) := by decide +kernel
theorem d134_227 : decode (pm_code 134) 227 = .ok (.putfield 87, 3) := by decide +kernel
theorem d134_230 : decode (pm_code 134) 230 = .ok (.aload_n 0, 1) := by decide +kernel
theorem d134_231 : decode (pm_code 134) 231 = .ok (.sipush 600, 3) := by decide +kernel
theorem d134_234 : decode (pm_code 134) 234 = .ok (.newarray .int, 2) := by decide +kernel
theorem d134_236 : decode (pm_code 134) 236 = .ok (.putfield 90, 3) := by decide +kernel
theorem d134_239 : decode (pm_code 134) 239 = .ok (.aload_n 0, 1) := by decide +kernel
theorem d134_240 : decode (pm_code 134) 240 = .ok (.sipush 600, 3) := by decide +kernel
theorem d134_243 : decode (pm_code 134) 243 = .ok (.newarray .int, 2) := by decide +kernel
theorem d134_245 : decode (pm_code 134) 245 = .ok (.putfield 93, 3) := by decide +kernel
theorem d134_248 : decode (pm_code 134) 248 = .ok (.aload_n 0, 1) := by decide +kernel
theorem d134_249 : decode (pm_code 134) 249 = .ok (.sipush 600, 3) := by decide +kernel
theorem d134_252 : decode (pm_code 134) 252 = .ok (.newarray .int, 2) := by decide +kernel
theorem d134_254 : decode (pm_code 134) 254 = .ok (.putfield 96, 3) := by decide +kernel
theorem d134_257 : decode (pm_code 134) 257 = .ok (.aload_n 0, 1) := by decide +kernel
theorem d134_258 : decode (pm_code 134) 258 = .ok (.sipush 600, 3) := by decide +kernel
theorem d134_261 : decode (pm_code 134) 261 = .ok (.newarray .int, 2) := by decide +kernel
theorem d134_263 : decode (pm_code 134) 263 = .ok (.putfield 99, 3) := by decide +kernel
theorem d134_266 : decode (pm_code 134) 266 = .ok (.aload_n 0, 1) := by decide +kernel
theorem d134_267 : decode (pm_code 134) 267 = .ok (.sipush 600, 3) := by decide +kernel
theorem d134_270 : decode (pm_code 134) 270 = .ok (.newarray .int, 2) := by decide +kernel
theorem d134_272 : decode (pm_code 134) 272 = .ok (.putfield 102, 3) := by decide +kernel
theorem d134_275 : decode (pm_code 134) 275 = .ok (.aload_n 0, 1) := by decide +kernel
theorem d134_276 : decode (pm_code 134) 276 = .ok (.sipush 4000, 3) := by decide +kernel
theorem d134_279 : decode (pm_code 134) 279 = .ok (.newarray .int, 2) := by decide +kernel
theorem d134_281 : decode (pm_code 134) 281 = .ok (.putfield 105, 3) := by decide +kernel
theorem d134_284 : decode (pm_code 134) 284 = .ok (.aload_n 0, 1) := by decide +kernel
theorem d134_285 : decode (pm_code 134) 285 = .ok (.sipush 4000, 3) := by decide +kernel
theorem d134_288 : decode (pm_code 134) 288 = .ok (.newarray .int, 2) := by decide +kernel
theorem d134_290 : decode (pm_code 134) 290 = .ok (.putfield 108, 3) := by decide +kernel
theorem d134_293 : decode (pm_code 134) 293 = .ok (.aload_n 0, 1) := by decide +kernel
theorem d134_294 : decode (pm_code 134) 294 = .ok (.sipush 4000, 3) := by decide +kernel
theorem d134_297 : decode (pm_code 134) 297 = .ok (.newarray .int, 2) := by decide +kernel
theorem d134_299 : decode (pm_code 134) 299 = .ok (.putfield 111, 3) := by decide +kernel
theorem d134_302 : decode (pm_code 134) 302 = .ok (.aload_n 0, 1) := by decide +kernel
theorem d134_303 : decode (pm_code 134) 303 = .ok (.sipush 4000, 3) := by decide +kernel
theorem d134_306 : decode (pm_code 134) 306 = .ok (.newarray .int, 2) := by decide +kernel
theorem d134_308 : decode (pm_code 134) 308 = .ok (.putfield 114, 3) := by decide +kernel
theorem d134_311 : decode (pm_code 134) 311 = .ok (.aload_n 0, 1) := by decide +kernel
theorem d134_312 : decode (pm_code 134) 312 = .ok (.sipush 4000, 3) := by decide +kernel
theorem d134_315 : decode (pm_code 134) 315 = .ok (.newarray .int, 2) := by decide +kernel
theorem d134_317 : decode (pm_code 134) 317 = .ok (.putfield 117, 3) := by decide +kernel
theorem d134_320 : decode (pm_code 134) 320 = .ok (.aload_n 0, 1) := by decide +kernel
theorem d134_321 : decode (pm_code 134) 321 = .ok (.sipush 4000, 3) := by decide +kernel
theorem d134_324 : decode (pm_code 134) 324 = .ok (.newarray .int, 2) := by decide +kernel
theorem d134_326 : decode (pm_code 134) 326 = .ok (.putfield 120, 3) := by decide +kernel
theorem d134_329 : decode (pm_code 134) 329 = .ok (.aload_n 0, 1) := by decide +kernel
theorem d134_330 : decode (pm_code 134) 330 = .ok (.sipush 12000, 3) := by decide +kernel
theorem d134_333 : decode (pm_code 134) 333 = .ok (.newarray .int, 2) := by decide +kernel
theorem d134_335 : decode (pm_code 134) 335 = .ok (.putfield 123, 3) := by decide +kernel
theorem d134_338 : decode (pm_code 134) 338 = .ok (.aload_n 0, 1) := by decide +kernel
theorem d134_339 : decode (pm_code 134) 339 = .ok (.sipush 4000, 3) := by decide +kernel
theorem d134_342 : decode (pm_code 134) 342 = .ok (.newarray .int, 2) := by decide +kernel
theorem d134_344 : decode (pm_code 134) 344 = .ok (.putfield 126, 3) := by decide +kernel
theorem d134_347 : decode (pm_code 134) 347 = .ok (.aload_n 0, 1) := by decide +kernel
theorem d134_348 : decode (pm_code 134) 348 = .ok (.sipush 4000, 3) := by decide +kernel
theorem d134_351 : decode (pm_code 134) 351 = .ok (.newarray .int, 2) := by decide +kernel
theorem d134_353 : decode (pm_code 134) 353 = .ok (.putfield 129, 3) := by decide +kernel
theorem d134_356 : decode (pm_code 134) 356 = .ok (.aload_n 0, 1) := by decide +kernel
theorem d134_357 : decode (pm_code 134) 357 = .ok (.sipush 4000, 3) := by decide +kernel
theorem d134_360 : decode (pm_code 134) 360 = .ok (.newarray .int, 2) := by decide +kernel
theorem d134_362 : decode (pm_code 134) 362 = .ok (.putfield 132, 3) := by decide +kernel
theorem d134_365 : decode (pm_code 134) 365 = .ok (.aload_n 0, 1) := by decide +kernel
theorem d134_366 : decode (pm_code 134) 366 = .ok (.sipush 4000, 3) := by decide +kernel
theorem d134_369 : decode (pm_code 134) 369 = .ok (.newarray .int, 2) := by decide +kernel
theorem d134_371 : decode (pm_code 134) 371 = .ok (.putfield 135, 3) := by decide +kernel
theorem d134_374 : decode (pm_code 134) 374 = .ok (.aload_n 0, 1) := by decide +kernel
theorem d134_375 : decode (pm_code 134) 375 = .ok (.sipush 1600, 3) := by decide +kernel
theorem d134_378 : decode (pm_code 134) 378 = .ok (.newarray .int, 2) := by decide +kernel
theorem d134_380 : decode (pm_code 134) 380 = .ok (.putfield 138, 3) := by decide +kernel
theorem d134_383 : decode (pm_code 134) 383 = .ok (.aload_n 0, 1) := by decide +kernel
theorem d134_384 : decode (pm_code 134) 384 = .ok (.bipush 104, 2) := by decide +kernel
theorem d134_386 : decode (pm_code 134) 386 = .ok (.newarray .int, 2) := by decide +kernel
theorem d134_388 : decode (pm_code 134) 388 = .ok (.putfield 141, 3) := by decide +kernel
theorem d134_391 : decode (pm_code 134) 391 = .ok (.return_, 1) := by decide +kernel
theorem d135_0 : decode (pm_code 135) 0 = .ok (.iload_n 1, 1) := by decide +kernel
theorem d135_1 : decode (pm_code 135) 1 = .ok (.bipush 32, 2) := by decide +kernel
theorem d135_3 : decode (pm_code 135) 3 = .ok (.if_icmp .lt 18, 3) := by decide +kernel
theorem d135_6 : decode (pm_code 135) 6 = .ok (.iload_n 1, 1) := by decide +kernel
theorem d135_7 : decode (pm_code 135) 7 = .ok (.bipush 126, 2) := by decide +kernel
theorem d135_9 : decode (pm_code 135) 9 = .ok (.if_icmp .gt 12, 3) := by decide +kernel
theorem d135_12 : decode (pm_code 135) 12 = .ok (.aload_n 0, 1) := by decide +kernel
theorem d135_13 : decode (pm_code 135) 13 = .ok (.getfield 144, 3) := by decide +kernel
theorem d135_16 : decode (pm_code 135) 16 = .ok (.bipush 60, 2) := by decide +kernel
theorem d135_18 : decode (pm_code 135) 18 = .ok (.if_icmp .ne 5, 3) := by decide +kernel
theorem d135_21 : decode (pm_code 135) 21 = .ok (.iconst 0, 1) := by decide +kernel
theorem d135_22 : decode (pm_code 135) 22 = .ok (.ireturn, 1) := by decide +kernel
theorem d135_23 : decode (pm_code 135) 23 = .ok (.aload_n 0, 1) := by decide +kernel
theorem d135_24 : decode (pm_code 135) 24 = .ok (.getfield 7, 3) := by decide +kernel
theorem d135_27 : decode (pm_code 135) 27 = .ok (.aload_n 0, 1) := by decide +kernel
theorem d135_28 : decode (pm_code 135) 28 = .ok (.getfield 144, 3) := by decide +kernel
theorem d135_31 : decode (pm_code 135) 31 = .ok (.iload_n 1, 1) := by decide +kernel
theorem d135_32 : decode (pm_code 135) 32 = .ok (.iastore, 1) := by decide +kernel
theorem d135_33 : decode (pm_code 135) 33 = .ok (.aload_n 0, 1) := by decide +kernel
theorem d135_34 : decode (pm_code 135) 34 = .ok (.dup, 1) := by decide +kernel
theorem d135_35 : decode (pm_code 135) 35 = .ok (.getfield 144, 3) := by decide +kernel
theorem d135_38 : decode (pm_code 135) 38 = .ok (.iconst 1, 1) := by decide +kernel
theorem d135_39 : decode (pm_code 135) 39 = .ok (.iadd, 1) := by decide +kernel
theorem d135_40 : decode (pm_code 135) 40 = .ok (.putfield 144, 3) := by decide +kernel
theorem d135_43 : decode (pm_code 135) 43 = .ok (.iconst 1, 1) := by decide +kernel
theorem d135_44 : decode (pm_code 135) 44 = .ok (.ireturn, 1) := by decide +kernel
theorem d136_0 : decode (pm_code 136) 0 = .ok (.aload_n 0, 1) := by decide +kernel
theorem d136_1 : decode (pm_code 136) 1 = .ok (.getfield 43, 3) := by decide +kernel
theorem d136_4 : decode (pm_code 136) 4 = .ok (.aload_n 0, 1) := by decide +kernel
theorem d136_5 : decode (pm_code 136) 5 = .ok (.getfield 147, 3) := by decide +kernel
theorem d136_8 : decode (pm_code 136) 8 = .ok (.iload_n 1, 1) := by decide +kernel
theorem d136_9 : decode (pm_code 136) 9 = .ok (.iastore, 1) := by decide +kernel
theorem d136_10 : decode (pm_code 136) 10 = .ok (.aload_n 0, 1) := by decide +kernel
theorem d136_11 : decode (pm_code 136) 11 = .ok (.getfield 46, 3) := by decide +kernel
theorem d136_14 : decode (pm_code 136) 14 = .ok (.aload_n 0, 1) := by decide +kernel
theorem d136_15 : decode (pm_code 136) 15 = .ok (.getfield 147, 3) := by decide +kernel
theorem d136_18 : decode (pm_code 136) 18 = .ok (.iload_n 2, 1) := by decide +kernel
theorem d136_19 : decode (pm_code 136) 19 = .ok (.iastore, 1) := by decide +kernel
theorem d136_20 : decode (pm_code 136) 20 = .ok (.aload_n 0, 1) := by decide +kernel
theorem d136_21 : decode (pm_code 136) 21 = .ok (.getfield 49, 3) := by decide +kernel
theorem d136_24 : decode (pm_code 136) 24 = .ok (.aload_n 0, 1) := by decide +kernel
theorem d136_25 : decode (pm_code 136) 25 = .ok (.getfield 147, 3) := by decide +kernel
theorem d136_28 : decode (pm_code 136) 28 = .ok (.iload_n 3, 1) := by decide +kernel
theorem d136_29 : decode (pm_code 136) 29 = .ok (.iastore, 1) := by decide +kernel
theorem d136_30 : decode (pm_code 136) 30 = .ok (.aload_n 0, 1) := by decide +kernel
theorem d136_31 : decode (pm_code 136) 31 = .ok (.getfield 52, 3) := by decide +kernel
theorem d136_34 : decode (pm_code 136) 34 = .ok (.aload_n 0, 1) := by decide +kernel
theorem d136_35 : decode (pm_code 136) 35 = .ok (.getfield 147, 3) := by decide +kernel
theorem d136_38 : decode (pm_code 136) 38 = .ok (.iload 4, 2) := by decide +kernel
theorem d136_40 : decode (pm_code 136) 40 = .ok (.iastore, 1) := by decide +kernel
theorem d136_41 : decode (pm_code 136) 41 = .ok (.aload_n 0, 1) := by decide +kernel
theorem d136_42 : decode (pm_code 136) 42 = .ok (.dup, 1) := by decide +kernel
theorem d136_43 : decode (pm_code 136) 43 = .ok (.getfield 147, 3) := by decide +kernel
theorem d136_46 : decode (pm_code 136) 46 = .ok (.iconst 1, 1) := by decide +kernel
theorem d136_47 : decode (pm_code 136) 47 = .ok (.iadd, 1) := by decide +kernel
theorem d136_48 : decode (pm_code 136) 48 = .ok (.putfield 147, 3) := by decide +kernel
theorem d136_51 : decode (pm_code 136) 51 = .ok (.return_, 1) := by decide +kernel
