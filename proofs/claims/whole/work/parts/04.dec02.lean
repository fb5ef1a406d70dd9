/-! DECODE ROWS (by program) of methods 74 to 108. -/
theorem d74_0 : decode (pm_code 74) 0 = .ok (.aload_n 0, 1) := by decide +kernel
theorem d74_1 : decode (pm_code 74) 1 = .ok (.iload_n 1, 1) := by decide +kernel
theorem d74_2 : decode (pm_code 74) 2 = .ok (.invokevirtual 33, 3) := by decide +kernel
theorem d74_5 : decode (pm_code 74) 5 = .ok (.aload_n 0, 1) := by decide +kernel
theorem d74_6 : decode (pm_code 74) 6 = .ok (.iconst 1, 1) := by decide +kernel
theorem d74_7 : decode (pm_code 74) 7 = .ok (.invokevirtual 37, 3) := by decide +kernel
theorem d74_10 : decode (pm_code 74) 10 = .ok (.istore_n 2, 1) := by decide +kernel
theorem d74_11 : decode (pm_code 74) 11 = .ok (.aload_n 0, 1) := by decide +kernel
theorem d74_12 : decode (pm_code 74) 12 = .ok (.iload_n 2, 1) := by decide +kernel
theorem d74_13 : decode (pm_code 74) 13 = .ok (.invokevirtual 41, 3) := by decide +kernel
theorem d74_16 : decode (pm_code 74) 16 = .ok (.iload_n 2, 1) := by decide +kernel
theorem d74_17 : decode (pm_code 74) 17 = .ok (.ireturn, 1) := by decide +kernel
theorem d75_0 : decode (pm_code 75) 0 = .ok (.aload_n 0, 1) := by decide +kernel
theorem d75_1 : decode (pm_code 75) 1 = .ok (.iload_n 1, 1) := by decide +kernel
theorem d75_2 : decode (pm_code 75) 2 = .ok (.invokevirtual 33, 3) := by decide +kernel
theorem d75_5 : decode (pm_code 75) 5 = .ok (.aload_n 0, 1) := by decide +kernel
theorem d75_6 : decode (pm_code 75) 6 = .ok (.aload_n 2, 1) := by decide +kernel
theorem d75_7 : decode (pm_code 75) 7 = .ok (.putfield 29, 3) := by decide +kernel
theorem d75_10 : decode (pm_code 75) 10 = .ok (.aload_n 0, 1) := by decide +kernel
theorem d75_11 : decode (pm_code 75) 11 = .ok (.getfield 29, 3) := by decide +kernel
theorem d75_14 : decode (pm_code 75) 14 = .ok (.iconst 0, 1) := by decide +kernel
theorem d75_15 : decode (pm_code 75) 15 = .ok (.putfield 44, 3) := by decide +kernel
theorem d75_18 : decode (pm_code 75) 18 = .ok (.aload_n 0, 1) := by decide +kernel
theorem d75_19 : decode (pm_code 75) 19 = .ok (.aload_n 0, 1) := by decide +kernel
theorem d75_20 : decode (pm_code 75) 20 = .ok (.iconst 1, 1) := by decide +kernel
theorem d75_21 : decode (pm_code 75) 21 = .ok (.invokevirtual 50, 3) := by decide +kernel
theorem d75_24 : decode (pm_code 75) 24 = .ok (.invokevirtual 41, 3) := by decide +kernel
theorem d75_27 : decode (pm_code 75) 27 = .ok (.return_, 1) := by decide +kernel
theorem d76_0 : decode (pm_code 76) 0 = .ok (.aload_n 0, 1) := by decide +kernel
theorem d76_1 : decode (pm_code 76) 1 = .ok (.iload_n 1, 1) := by decide +kernel
theorem d76_2 : decode (pm_code 76) 2 = .ok (.aload_n 0, 1) := by decide +kernel
theorem d76_3 : decode (pm_code 76) 3 = .ok (.getfield 26, 3) := by decide +kernel
theorem d76_6 : decode (pm_code 76) 6 = .ok (.arraylength, 1) := by decide +kernel
theorem d76_7 : decode (pm_code 76) 7 = .ok (.invokestatic 53, 3) := by decide +kernel
theorem d76_10 : decode (pm_code 76) 10 = .ok (.putfield 59, 3) := by decide +kernel
theorem d76_13 : decode (pm_code 76) 13 = .ok (.aload_n 0, 1) := by decide +kernel
theorem d76_14 : decode (pm_code 76) 14 = .ok (.iconst 0, 1) := by decide +kernel
theorem d76_15 : decode (pm_code 76) 15 = .ok (.putfield 62, 3) := by decide +kernel
theorem d76_18 : decode (pm_code 76) 18 = .ok (.aload_n 0, 1) := by decide +kernel
theorem d76_19 : decode (pm_code 76) 19 = .ok (.iconst 0, 1) := by decide +kernel
theorem d76_20 : decode (pm_code 76) 20 = .ok (.putfield 65, 3) := by decide +kernel
theorem d76_23 : decode (pm_code 76) 23 = .ok (.aload_n 0, 1) := by decide +kernel
theorem d76_24 : decode (pm_code 76) 24 = .ok (.iconst 0, 1) := by decide +kernel
theorem d76_25 : decode (pm_code 76) 25 = .ok (.putfield 68, 3) := by decide +kernel
theorem d76_28 : decode (pm_code 76) 28 = .ok (.aload_n 0, 1) := by decide +kernel
theorem d76_29 : decode (pm_code 76) 29 = .ok (.iconst 1, 1) := by decide +kernel
theorem d76_30 : decode (pm_code 76) 30 = .ok (.putfield 71, 3) := by decide +kernel
theorem d76_33 : decode (pm_code 76) 33 = .ok (.aload_n 0, 1) := by decide +kernel
theorem d76_34 : decode (pm_code 76) 34 = .ok (.iconst 0, 1) := by decide +kernel
theorem d76_35 : decode (pm_code 76) 35 = .ok (.putfield 75, 3) := by decide +kernel
theorem d76_38 : decode (pm_code 76) 38 = .ok (.return_, 1) := by decide +kernel
theorem d77_0 : decode (pm_code 77) 0 = .ok (.aload_n 0, 1) := by decide +kernel
theorem d77_1 : decode (pm_code 77) 1 = .ok (.iload_n 1, 1) := by decide +kernel
theorem d77_2 : decode (pm_code 77) 2 = .ok (.iconst (-1), 1) := by decide +kernel
theorem d77_3 : decode (pm_code 77) 3 = .ok (.if_icmp .eq 14, 3) := by decide +kernel
theorem d77_6 : decode (pm_code 77) 6 = .ok (.aload_n 0, 1) := by decide +kernel
theorem d77_7 : decode (pm_code 77) 7 = .ok (.getfield 62, 3) := by decide +kernel
theorem d77_10 : decode (pm_code 77) 10 = .ok (.aload_n 0, 1) := by decide +kernel
theorem d77_11 : decode (pm_code 77) 11 = .ok (.getfield 59, 3) := by decide +kernel
theorem d77_14 : decode (pm_code 77) 14 = .ok (.if_icmp .ge 10, 3) := by decide +kernel
theorem d77_17 : decode (pm_code 77) 17 = .ok (.aload_n 0, 1) := by decide +kernel
theorem d77_18 : decode (pm_code 77) 18 = .ok (.getfield 62, 3) := by decide +kernel
theorem d77_21 : decode (pm_code 77) 21 = .ok (.goto 4, 3) := by decide +kernel
theorem d77_24 : decode (pm_code 77) 24 = .ok (.iconst (-1), 1) := by decide +kernel
theorem d77_25 : decode (pm_code 77) 25 = .ok (.putfield 78, 3) := by decide +kernel
theorem d77_28 : decode (pm_code 77) 28 = .ok (.return_, 1) := by decide +kernel
theorem d78_0 : decode (pm_code 78) 0 = .ok (.aload_n 0, 1) := by decide +kernel
theorem d78_1 : decode (pm_code 78) 1 = .ok (.getfield 62, 3) := by decide +kernel
theorem d78_4 : decode (pm_code 78) 4 = .ok (.aload_n 0, 1) := by decide +kernel
theorem d78_5 : decode (pm_code 78) 5 = .ok (.getfield 59, 3) := by decide +kernel
theorem d78_8 : decode (pm_code 78) 8 = .ok (.if_icmp .ge 15, 3) := by decide +kernel
theorem d78_11 : decode (pm_code 78) 11 = .ok (.aload_n 0, 1) := by decide +kernel
theorem d78_12 : decode (pm_code 78) 12 = .ok (.getfield 26, 3) := by decide +kernel
theorem d78_15 : decode (pm_code 78) 15 = .ok (.aload_n 0, 1) := by decide +kernel
theorem d78_16 : decode (pm_code 78) 16 = .ok (.getfield 62, 3) := by decide +kernel
theorem d78_19 : decode (pm_code 78) 19 = .ok (.caload, 1) := by decide +kernel
theorem d78_20 : decode (pm_code 78) 20 = .ok (.goto 4, 3) := by decide +kernel
theorem d78_23 : decode (pm_code 78) 23 = .ok (.iconst 0, 1) := by decide +kernel
theorem d78_24 : decode (pm_code 78) 24 = .ok (.ireturn, 1) := by decide +kernel
theorem d79_0 : decode (pm_code 79) 0 = .ok (.aload_n 0, 1) := by decide +kernel
theorem d79_1 : decode (pm_code 79) 1 = .ok (.invokevirtual 81, 3) := by decide +kernel
theorem d79_4 : decode (pm_code 79) 4 = .ok (.iload_n 1, 1) := by decide +kernel
theorem d79_5 : decode (pm_code 79) 5 = .ok (.if_icmp .eq 5, 3) := by decide +kernel
theorem d79_8 : decode (pm_code 79) 8 = .ok (.iconst 0, 1) := by decide +kernel
theorem d79_9 : decode (pm_code 79) 9 = .ok (.ireturn, 1) := by decide +kernel
theorem d79_10 : decode (pm_code 79) 10 = .ok (.aload_n 0, 1) := by decide +kernel
theorem d79_11 : decode (pm_code 79) 11 = .ok (.dup, 1) := by decide +kernel
theorem d79_12 : decode (pm_code 79) 12 = .ok (.getfield 62, 3) := by decide +kernel
theorem d79_15 : decode (pm_code 79) 15 = .ok (.iconst 1, 1) := by decide +kernel
theorem d79_16 : decode (pm_code 79) 16 = .ok (.iadd, 1) := by decide +kernel
theorem d79_17 : decode (pm_code 79) 17 = .ok (.putfield 62, 3) := by decide +kernel
theorem d79_20 : decode (pm_code 79) 20 = .ok (.iconst 1, 1) := by decide +kernel
theorem d79_21 : decode (pm_code 79) 21 = .ok (.ireturn, 1) := by decide +kernel
theorem d80_0 : decode (pm_code 80) 0 = .ok (.aload_n 0, 1) := by decide +kernel
theorem d80_1 : decode (pm_code 80) 1 = .ok (.invokevirtual 81, 3) := by decide +kernel
theorem d80_4 : decode (pm_code 80) 4 = .ok (.istore_n 3, 1) := by decide +kernel
theorem d80_5 : decode (pm_code 80) 5 = .ok (.iload_n 3, 1) := by decide +kernel
theorem d80_6 : decode (pm_code 80) 6 = .ok (.iload_n 1, 1) := by decide +kernel
theorem d80_7 : decode (pm_code 80) 7 = .ok (.if_icmp .lt 8, 3) := by decide +kernel
theorem d80_10 : decode (pm_code 80) 10 = .ok (.iload_n 3, 1) := by decide +kernel
theorem d80_11 : decode (pm_code 80) 11 = .ok (.iload_n 2, 1) := by decide +kernel
theorem d80_12 : decode (pm_code 80) 12 = .ok (.if_icmp .le 5, 3) := by decide +kernel
theorem d80_15 : decode (pm_code 80) 15 = .ok (.iconst 0, 1) := by decide +kernel
theorem d80_16 : decode (pm_code 80) 16 = .ok (.ireturn, 1) := by decide +kernel
theorem d80_17 : decode (pm_code 80) 17 = .ok (.aload_n 0, 1) := by decide +kernel
theorem d80_18 : decode (pm_code 80) 18 = .ok (.dup, 1) := by decide +kernel
theorem d80_19 : decode (pm_code 80) 19 = .ok (.getfield 62, 3) := by decide +kernel
theorem d80_22 : decode (pm_code 80) 22 = .ok (.iconst 1, 1) := by decide +kernel
theorem d80_23 : decode (pm_code 80) 23 = .ok (.iadd, 1) := by decide +kernel
theorem d80_24 : decode (pm_code 80) 24 = .ok (.putfield 62, 3) := by decide +kernel
theorem d80_27 : decode (pm_code 80) 27 = .ok (.iload_n 3, 1) := by decide +kernel
theorem d80_28 : decode (pm_code 80) 28 = .ok (.ireturn, 1) := by decide +kernel
theorem d81_0 : decode (pm_code 81) 0 = .ok (.aload_n 0, 1) := by decide +kernel
theorem d81_1 : decode (pm_code 81) 1 = .ok (.invokevirtual 81, 3) := by decide +kernel
theorem d81_4 : decode (pm_code 81) 4 = .ok (.bipush 120, 2) := by decide +kernel
theorem d81_6 : decode (pm_code 81) 6 = .ok (.isub, 1) := by decide +kernel
theorem d81_7 : decode (pm_code 81) 7 = .ok (.istore_n 3, 1) := by decide +kernel
theorem d81_8 : decode (pm_code 81) 8 = .ok (.iload_n 2, 1) := by decide +kernel
theorem d81_9 : decode (pm_code 81) 9 = .ok (.bipush 24, 2) := by decide +kernel
theorem d81_11 : decode (pm_code 81) 11 = .ok (.if_icmp .ge 13, 3) := by decide +kernel
theorem d81_14 : decode (pm_code 81) 14 = .ok (.iload_n 3, 1) := by decide +kernel
theorem d81_15 : decode (pm_code 81) 15 = .ok (.iload_n 1, 1) := by decide +kernel
theorem d81_16 : decode (pm_code 81) 16 = .ok (.if_icmp .lt 8, 3) := by decide +kernel
theorem d81_19 : decode (pm_code 81) 19 = .ok (.iload_n 3, 1) := by decide +kernel
theorem d81_20 : decode (pm_code 81) 20 = .ok (.iconst 3, 1) := by decide +kernel
theorem d81_21 : decode (pm_code 81) 21 = .ok (.if_icmp .lt 5, 3) := by decide +kernel
theorem d81_24 : decode (pm_code 81) 24 = .ok (.iconst (-1), 1) := by decide +kernel
theorem d81_25 : decode (pm_code 81) 25 = .ok (.ireturn, 1) := by decide +kernel
theorem d81_26 : decode (pm_code 81) 26 = .ok (.aload_n 0, 1) := by decide +kernel
theorem d81_27 : decode (pm_code 81) 27 = .ok (.dup, 1) := by decide +kernel
theorem d81_28 : decode (pm_code 81) 28 = .ok (.getfield 62, 3) := by decide +kernel
theorem d81_31 : decode (pm_code 81) 31 = .ok (.iconst 1, 1) := by decide +kernel
theorem d81_32 : decode (pm_code 81) 32 = .ok (.iadd, 1) := by decide +kernel
theorem d81_33 : decode (pm_code 81) 33 = .ok (.putfield 62, 3) := by decide +kernel
theorem d81_36 : decode (pm_code 81) 36 = .ok (.iload_n 3, 1) := by decide +kernel
theorem d81_37 : decode (pm_code 81) 37 = .ok (.ireturn, 1) := by decide +kernel
theorem d82_0 : decode (pm_code 82) 0 = .ok (.aload_n 0, 1) := by decide +kernel
theorem d82_1 : decode (pm_code 82) 1 = .ok (.getfield 65, 3) := by decide +kernel
theorem d82_4 : decode (pm_code 82) 4 = .ok (.bipush 24, 2) := by decide +kernel
theorem d82_6 : decode (pm_code 82) 6 = .ok (.if_icmp .ge 13, 3) := by decide +kernel
theorem d82_9 : decode (pm_code 82) 9 = .ok (.aload_n 0, 1) := by decide +kernel
theorem d82_10 : decode (pm_code 82) 10 = .ok (.getfield 9, 3) := by decide +kernel
theorem d82_13 : decode (pm_code 82) 13 = .ok (.aload_n 0, 1) := by decide +kernel
theorem d82_14 : decode (pm_code 82) 14 = .ok (.getfield 65, 3) := by decide +kernel
theorem d82_17 : decode (pm_code 82) 17 = .ok (.iload_n 1, 1) := by decide +kernel
theorem d82_18 : decode (pm_code 82) 18 = .ok (.castore, 1) := by decide +kernel
theorem d82_19 : decode (pm_code 82) 19 = .ok (.aload_n 0, 1) := by decide +kernel
theorem d82_20 : decode (pm_code 82) 20 = .ok (.dup, 1) := by decide +kernel
theorem d82_21 : decode (pm_code 82) 21 = .ok (.getfield 65, 3) := by decide +kernel
theorem d82_24 : decode (pm_code 82) 24 = .ok (.iconst 1, 1) := by decide +kernel
theorem d82_25 : decode (pm_code 82) 25 = .ok (.iadd, 1) := by decide +kernel
theorem d82_26 : decode (pm_code 82) 26 = .ok (.putfield 65, 3) := by decide +kernel
theorem d82_29 : decode (pm_code 82) 29 = .ok (.return_, 1) := by decide +kernel
theorem d83_0 : decode (pm_code 83) 0 = .ok (.aload_n 0, 1) := by decide +kernel
theorem d83_1 : decode (pm_code 83) 1 = .ok (.getfield 68, 3) := by decide +kernel
theorem d83_4 : decode (pm_code 83) 4 = .ok (.bipush 24, 2) := by decide +kernel
theorem d83_6 : decode (pm_code 83) 6 = .ok (.if_icmp .ge 23, 3) := by decide +kernel
theorem d83_9 : decode (pm_code 83) 9 = .ok (.aload_n 0, 1) := by decide +kernel
theorem d83_10 : decode (pm_code 83) 10 = .ok (.getfield 15, 3) := by decide +kernel
theorem d83_13 : decode (pm_code 83) 13 = .ok (.aload_n 0, 1) := by decide +kernel
theorem d83_14 : decode (pm_code 83) 14 = .ok (.getfield 68, 3) := by decide +kernel
theorem d83_17 : decode (pm_code 83) 17 = .ok (.iload_n 1, 1) := by decide +kernel
theorem d83_18 : decode (pm_code 83) 18 = .ok (.castore, 1) := by decide +kernel
theorem d83_19 : decode (pm_code 83) 19 = .ok (.aload_n 0, 1) := by decide +kernel
theorem d83_20 : decode (pm_code 83) 20 = .ok (.getfield 18, 3) := by decide +kernel
theorem d83_23 : decode (pm_code 83) 23 = .ok (.aload_n 0, 1) := by decide +kernel
theorem d83_24 : decode (pm_code 83) 24 = .ok (.getfield 68, 3) := by decide +kernel
theorem d83_27 : decode (pm_code 83) 27 = .ok (.iload_n 2, 1) := by decide +kernel
theorem d83_28 : decode (pm_code 83) 28 = .ok (.iastore, 1) := by decide +kernel
theorem d83_29 : decode (pm_code 83) 29 = .ok (.aload_n 0, 1) := by decide +kernel
theorem d83_30 : decode (pm_code 83) 30 = .ok (.dup, 1) := by decide +kernel
theorem d83_31 : decode (pm_code 83) 31 = .ok (.getfield 68, 3) := by decide +kernel
theorem d83_34 : decode (pm_code 83) 34 = .ok (.iconst 1, 1) := by decide +kernel
theorem d83_35 : decode (pm_code 83) 35 = .ok (.iadd, 1) := by decide +kernel
theorem d83_36 : decode (pm_code 83) 36 = .ok (.putfield 68, 3) := by decide +kernel
theorem d83_39 : decode (pm_code 83) 39 = .ok (.return_, 1) := by decide +kernel
theorem d84_0 : decode (pm_code 84) 0 = .ok (.aload_n 0, 1) := by decide +kernel
theorem d84_1 : decode (pm_code 84) 1 = .ok (.getfield 65, 3) := by decide +kernel
theorem d84_4 : decode (pm_code 84) 4 = .ok (.bipush 24, 2) := by decide +kernel
theorem d84_6 : decode (pm_code 84) 6 = .ok (.invokestatic 53, 3) := by decide +kernel
theorem d84_9 : decode (pm_code 84) 9 = .ok (.iconst 1, 1) := by decide +kernel
theorem d84_10 : decode (pm_code 84) 10 = .ok (.isub, 1) := by decide +kernel
theorem d84_11 : decode (pm_code 84) 11 = .ok (.istore_n 2, 1) := by decide +kernel
theorem d84_12 : decode (pm_code 84) 12 = .ok (.iload_n 2, 1) := by decide +kernel
theorem d84_13 : decode (pm_code 84) 13 = .ok (.ifCond .lt 21, 3) := by decide +kernel
theorem d84_16 : decode (pm_code 84) 16 = .ok (.aload_n 0, 1) := by decide +kernel
theorem d84_17 : decode (pm_code 84) 17 = .ok (.getfield 9, 3) := by decide +kernel
theorem d84_20 : decode (pm_code 84) 20 = .ok (.iload_n 2, 1) := by decide +kernel
theorem d84_21 : decode (pm_code 84) 21 = .ok (.caload, 1) := by decide +kernel
theorem d84_22 : decode (pm_code 84) 22 = .ok (.iload_n 1, 1) := by decide +kernel
theorem d84_23 : decode (pm_code 84) 23 = .ok (.if_icmp .ne 5, 3) := by decide +kernel
theorem d84_26 : decode (pm_code 84) 26 = .ok (.iload_n 2, 1) := by decide +kernel
theorem d84_27 : decode (pm_code 84) 27 = .ok (.ireturn, 1) := by decide +kernel
theorem d84_28 : decode (pm_code 84) 28 = .ok (.iinc 2 (-1), 3) := by decide +kernel
theorem d84_31 : decode (pm_code 84) 31 = .ok (.goto (-19), 3) := by decide +kernel
theorem d84_34 : decode (pm_code 84) 34 = .ok (.aload_n 0, 1) := by decide +kernel
theorem d84_35 : decode (pm_code 84) 35 = .ok (.iconst 0, 1) := by decide +kernel
theorem d84_36 : decode (pm_code 84) 36 = .ok (.putfield 71, 3) := by decide +kernel
theorem d84_39 : decode (pm_code 84) 39 = .ok (.iconst 0, 1) := by decide +kernel
theorem d84_40 : decode (pm_code 84) 40 = .ok (.ireturn, 1) := by decide +kernel
theorem d85_0 : decode (pm_code 85) 0 = .ok (.aload_n 0, 1) := by decide +kernel
theorem d85_1 : decode (pm_code 85) 1 = .ok (.getfield 68, 3) := by decide +kernel
theorem d85_4 : decode (pm_code 85) 4 = .ok (.bipush 24, 2) := by decide +kernel
theorem d85_6 : decode (pm_code 85) 6 = .ok (.invokestatic 53, 3) := by decide +kernel
theorem d85_9 : decode (pm_code 85) 9 = .ok (.iconst 1, 1) := by decide +kernel
theorem d85_10 : decode (pm_code 85) 10 = .ok (.isub, 1) := by decide +kernel
theorem d85_11 : decode (pm_code 85) 11 = .ok (.istore_n 2, 1) := by decide +kernel
theorem d85_12 : decode (pm_code 85) 12 = .ok (.iload_n 2, 1) := by decide +kernel
theorem d85_13 : decode (pm_code 85) 13 = .ok (.ifCond .lt 26, 3) := by decide +kernel
theorem d85_16 : decode (pm_code 85) 16 = .ok (.aload_n 0, 1) := by decide +kernel
theorem d85_17 : decode (pm_code 85) 17 = .ok (.getfield 15, 3) := by decide +kernel
theorem d85_20 : decode (pm_code 85) 20 = .ok (.iload_n 2, 1) := by decide +kernel
theorem d85_21 : decode (pm_code 85) 21 = .ok (.caload, 1) := by decide +kernel
theorem d85_22 : decode (pm_code 85) 22 = .ok (.iload_n 1, 1) := by decide +kernel
theorem d85_23 : decode (pm_code 85) 23 = .ok (.if_icmp .ne 10, 3) := by decide +kernel
theorem d85_26 : decode (pm_code 85) 26 = .ok (.aload_n 0, 1) := by decide +kernel
theorem d85_27 : decode (pm_code 85) 27 = .ok (.getfield 18, 3) := by decide +kernel
theorem d85_30 : decode (pm_code 85) 30 = .ok (.iload_n 2, 1) := by decide +kernel
theorem d85_31 : decode (pm_code 85) 31 = .ok (.iaload, 1) := by decide +kernel
theorem d85_32 : decode (pm_code 85) 32 = .ok (.ireturn, 1) := by decide +kernel
theorem d85_33 : decode (pm_code 85) 33 = .ok (.iinc 2 (-1), 3) := by decide +kernel
theorem d85_36 : decode (pm_code 85) 36 = .ok (.goto (-24), 3) := by decide +kernel
theorem d85_39 : decode (pm_code 85) 39 = .ok (.aload_n 0, 1) := by decide +kernel
theorem d85_40 : decode (pm_code 85) 40 = .ok (.iconst 0, 1) := by decide +kernel
theorem d85_41 : decode (pm_code 85) 41 = .ok (.putfield 71, 3) := by decide +kernel
theorem d85_44 : decode (pm_code 85) 44 = .ok (.iconst 0, 1) := by decide +kernel
theorem d85_45 : decode (pm_code 85) 45 = .ok (.ireturn, 1) := by decide +kernel
theorem d86_0 : decode (pm_code 86) 0 = .ok (.aload_n 0, 1) := by decide +kernel
theorem d86_1 : decode (pm_code 86) 1 = .ok (.iload_n 1, 1) := by decide +kernel
theorem d86_2 : decode (pm_code 86) 2 = .ok (.invokevirtual 85, 3) := by decide +kernel
theorem d86_5 : decode (pm_code 86) 5 = .ok (.istore_n 2, 1) := by decide +kernel
theorem d86_6 : decode (pm_code 86) 6 = .ok (.iload_n 2, 1) := by decide +kernel
theorem d86_7 : decode (pm_code 86) 7 = .ok (.iconst (-1), 1) := by decide +kernel
theorem d86_8 : decode (pm_code 86) 8 = .ok (.if_icmp .eq 22, 3) := by decide +kernel
theorem d86_11 : decode (pm_code 86) 11 = .ok (.aload_n 0, 1) := by decide +kernel
theorem d86_12 : decode (pm_code 86) 12 = .ok (.getfield 22, 3) := by decide +kernel
theorem d86_15 : decode (pm_code 86) 15 = .ok (.getfield 88, 3) := by decide +kernel
theorem d86_18 : decode (pm_code 86) 18 = .ok (.iload_n 2, 1) := by decide +kernel
theorem d86_19 : decode (pm_code 86) 19 = .ok (.iaload, 1) := by decide +kernel
theorem d86_20 : decode (pm_code 86) 20 = .ok (.bipush 16, 2) := by decide +kernel
theorem d86_22 : decode (pm_code 86) 22 = .ok (.if_icmp .le 8, 3) := by decide +kernel
theorem d86_25 : decode (pm_code 86) 25 = .ok (.aload_n 0, 1) := by decide +kernel
theorem d86_26 : decode (pm_code 86) 26 = .ok (.iconst 1, 1) := by decide +kernel
theorem d86_27 : decode (pm_code 86) 27 = .ok (.putfield 75, 3) := by decide +kernel
theorem d86_30 : decode (pm_code 86) 30 = .ok (.iload_n 2, 1) := by decide +kernel
theorem d86_31 : decode (pm_code 86) 31 = .ok (.ireturn, 1) := by decide +kernel
theorem d87_0 : decode (pm_code 87) 0 = .ok (.aload_n 0, 1) := by decide +kernel
theorem d87_1 : decode (pm_code 87) 1 = .ok (.bipush 84, 2) := by decide +kernel
theorem d87_3 : decode (pm_code 87) 3 = .ok (.invokevirtual 93, 3) := by decide +kernel
theorem d87_6 : decode (pm_code 87) 6 = .ok (.ifCond .eq 5, 3) := by decide +kernel
theorem d87_9 : decode (pm_code 87) 9 = .ok (.iconst 0, 1) := by decide +kernel
theorem d87_10 : decode (pm_code 87) 10 = .ok (.ireturn, 1) := by decide +kernel
theorem d87_11 : decode (pm_code 87) 11 = .ok (.aload_n 0, 1) := by decide +kernel
theorem d87_12 : decode (pm_code 87) 12 = .ok (.bipush 80, 2) := by decide +kernel
theorem d87_14 : decode (pm_code 87) 14 = .ok (.bipush 83, 2) := by decide +kernel
theorem d87_16 : decode (pm_code 87) 16 = .ok (.invokevirtual 97, 3) := by decide +kernel
theorem d87_19 : decode (pm_code 87) 19 = .ok (.istore_n 2, 1) := by decide +kernel
theorem d87_20 : decode (pm_code 87) 20 = .ok (.iload_n 2, 1) := by decide +kernel
theorem d87_21 : decode (pm_code 87) 21 = .ok (.ifCond .eq 16, 3) := by decide +kernel
theorem d87_24 : decode (pm_code 87) 24 = .ok (.aload_n 0, 1) := by decide +kernel
theorem d87_25 : decode (pm_code 87) 25 = .ok (.getfield 22, 3) := by decide +kernel
theorem d87_28 : decode (pm_code 87) 28 = .ok (.aload_n 0, 1) := by decide +kernel
theorem d87_29 : decode (pm_code 87) 29 = .ok (.iload_n 2, 1) := by decide +kernel
theorem d87_30 : decode (pm_code 87) 30 = .ok (.invokevirtual 101, 3) := by decide +kernel
theorem d87_33 : decode (pm_code 87) 33 = .ok (.invokevirtual 105, 3) := by decide +kernel
theorem d87_36 : decode (pm_code 87) 36 = .ok (.ireturn, 1) := by decide +kernel
theorem d87_37 : decode (pm_code 87) 37 = .ok (.iload_n 1, 1) := by decide +kernel
theorem d87_38 : decode (pm_code 87) 38 = .ok (.bipush 24, 2) := by decide +kernel
theorem d87_40 : decode (pm_code 87) 40 = .ok (.if_icmp .le 5, 3) := by decide +kernel
theorem d87_43 : decode (pm_code 87) 43 = .ok (.iconst (-1), 1) := by decide +kernel
theorem d87_44 : decode (pm_code 87) 44 = .ok (.ireturn, 1) := by decide +kernel
theorem d87_45 : decode (pm_code 87) 45 = .ok (.aload_n 0, 1) := by decide +kernel
theorem d87_46 : decode (pm_code 87) 46 = .ok (.bipush 91, 2) := by decide +kernel
theorem d87_48 : decode (pm_code 87) 48 = .ok (.invokevirtual 93, 3) := by decide +kernel
theorem d87_51 : decode (pm_code 87) 51 = .ok (.ifCond .eq 11, 3) := by decide +kernel
theorem d87_54 : decode (pm_code 87) 54 = .ok (.aload_n 0, 1) := by decide +kernel
theorem d87_55 : decode (pm_code 87) 55 = .ok (.iconst 1, 1) := by decide +kernel
theorem d87_56 : decode (pm_code 87) 56 = .ok (.iconst (-1), 1) := by decide +kernel
theorem d87_57 : decode (pm_code 87) 57 = .ok (.iload_n 1, 1) := by decide +kernel
theorem d87_58 : decode (pm_code 87) 58 = .ok (.invokevirtual 108, 3) := by decide +kernel
theorem d87_61 : decode (pm_code 87) 61 = .ok (.ireturn, 1) := by decide +kernel
theorem d87_62 : decode (pm_code 87) 62 = .ok (.iload_n 1, 1) := by decide +kernel
theorem d87_63 : decode (pm_code 87) 63 = .ok (.bipush 24, 2) := by decide +kernel
theorem d87_65 : decode (pm_code 87) 65 = .ok (.if_icmp .ne 5, 3) := by decide +kernel
theorem d87_68 : decode (pm_code 87) 68 = .ok (.iconst (-1), 1) := by decide +kernel
theorem d87_69 : decode (pm_code 87) 69 = .ok (.ireturn, 1) := by decide +kernel
theorem d87_70 : decode (pm_code 87) 70 = .ok (.aload_n 0, 1) := by decide +kernel
theorem d87_71 : decode (pm_code 87) 71 = .ok (.bipush 40, 2) := by decide +kernel
theorem d87_73 : decode (pm_code 87) 73 = .ok (.invokevirtual 93, 3) := by decide +kernel
theorem d87_76 : decode (pm_code 87) 76 = .ok (.ifCond .eq 9, 3) := by decide +kernel
theorem d87_79 : decode (pm_code 87) 79 = .ok (.aload_n 0, 1) := by decide +kernel
theorem d87_80 : decode (pm_code 87) 80 = .ok (.iload_n 1, 1) := by decide +kernel
theorem d87_81 : decode (pm_code 87) 81 = .ok (.invokevirtual 112, 3) := by decide +kernel
theorem d87_84 : decode (pm_code 87) 84 = .ok (.ireturn, 1) := by decide +kernel
theorem d87_85 : decode (pm_code 87) 85 = .ok (.aload_n 0, 1) := by decide +kernel
theorem d87_86 : decode (pm_code 87) 86 = .ok (.bipush 60, 2) := by decide +kernel
theorem d87_88 : decode (pm_code 87) 88 = .ok (.invokevirtual 93, 3) := by decide +kernel
theorem d87_91 : decode (pm_code 87) 91 = .ok (.ifCond .eq 11, 3) := by decide +kernel
theorem d87_94 : decode (pm_code 87) 94 = .ok (.aload_n 0, 1) := by decide +kernel
theorem d87_95 : decode (pm_code 87) 95 = .ok (.iload_n 1, 1) := by decide +kernel
theorem d87_96 : decode (pm_code 87) 96 = .ok (.invokevirtual 115, 3) := by decide +kernel
theorem d87_99 : decode (pm_code 87) 99 = .ok (.goto 4, 3) := by decide +kernel
theorem d87_102 : decode (pm_code 87) 102 = .ok (.iconst (-1), 1) := by decide +kernel
theorem d87_103 : decode (pm_code 87) 103 = .ok (.ireturn, 1) := by decide +kernel
theorem d88_0 : decode (pm_code 88) 0 = .ok (.aload_n 0, 1) := by decide +kernel
theorem d88_1 : decode (pm_code 88) 1 = .ok (.iload_n 1, 1) := by decide +kernel
theorem d88_2 : decode (pm_code 88) 2 = .ok (.iconst 1, 1) := by decide +kernel
theorem d88_3 : decode (pm_code 88) 3 = .ok (.iadd, 1) := by decide +kernel
theorem d88_4 : decode (pm_code 88) 4 = .ok (.invokevirtual 85, 3) := by decide +kernel
theorem d88_7 : decode (pm_code 88) 7 = .ok (.istore_n 2, 1) := by decide +kernel
theorem d88_8 : decode (pm_code 88) 8 = .ok (.iload_n 2, 1) := by decide +kernel
theorem d88_9 : decode (pm_code 88) 9 = .ok (.iconst (-1), 1) := by decide +kernel
theorem d88_10 : decode (pm_code 88) 10 = .ok (.if_icmp .eq 12, 3) := by decide +kernel
theorem d88_13 : decode (pm_code 88) 13 = .ok (.aload_n 0, 1) := by decide +kernel
theorem d88_14 : decode (pm_code 88) 14 = .ok (.bipush 62, 2) := by decide +kernel
theorem d88_16 : decode (pm_code 88) 16 = .ok (.invokevirtual 93, 3) := by decide +kernel
theorem d88_19 : decode (pm_code 88) 19 = .ok (.ifCond .ne 5, 3) := by decide +kernel
theorem d88_22 : decode (pm_code 88) 22 = .ok (.iconst (-1), 1) := by decide +kernel
theorem d88_23 : decode (pm_code 88) 23 = .ok (.ireturn, 1) := by decide +kernel
theorem d88_24 : decode (pm_code 88) 24 = .ok (.aload_n 0, 1) := by decide +kernel
theorem d88_25 : decode (pm_code 88) 25 = .ok (.iload_n 1, 1) := by decide +kernel
theorem d88_26 : decode (pm_code 88) 26 = .ok (.iconst 1, 1) := by decide +kernel
theorem d88_27 : decode (pm_code 88) 27 = .ok (.iadd, 1) := by decide +kernel
theorem d88_28 : decode (pm_code 88) 28 = .ok (.invokevirtual 85, 3) := by decide +kernel
theorem d88_31 : decode (pm_code 88) 31 = .ok (.istore_n 3, 1) := by decide +kernel
theorem d88_32 : decode (pm_code 88) 32 = .ok (.iload_n 3, 1) := by decide +kernel
theorem d88_33 : decode (pm_code 88) 33 = .ok (.iconst (-1), 1) := by decide +kernel
theorem d88_34 : decode (pm_code 88) 34 = .ok (.if_icmp .eq 12, 3) := by decide +kernel
theorem d88_37 : decode (pm_code 88) 37 = .ok (.aload_n 0, 1) := by decide +kernel
theorem d88_38 : decode (pm_code 88) 38 = .ok (.bipush 41, 2) := by decide +kernel
theorem d88_40 : decode (pm_code 88) 40 = .ok (.invokevirtual 93, 3) := by decide +kernel
theorem d88_43 : decode (pm_code 88) 43 = .ok (.ifCond .ne 5, 3) := by decide +kernel
theorem d88_46 : decode (pm_code 88) 46 = .ok (.iconst (-1), 1) := by decide +kernel
theorem d88_47 : decode (pm_code 88) 47 = .ok (.ireturn, 1) := by decide +kernel
theorem d88_48 : decode (pm_code 88) 48 = .ok (.aload_n 0, 1) := by decide +kernel
theorem d88_49 : decode (pm_code 88) 49 = .ok (.getfield 22, 3) := by decide +kernel
theorem d88_52 : decode (pm_code 88) 52 = .ok (.bipush 19, 2) := by decide +kernel
theorem d88_54 : decode (pm_code 88) 54 = .ok (.iload_n 2, 1) := by decide +kernel
theorem d88_55 : decode (pm_code 88) 55 = .ok (.iload_n 3, 1) := by decide +kernel
theorem d88_56 : decode (pm_code 88) 56 = .ok (.iconst 0, 1) := by decide +kernel
theorem d88_57 : decode (pm_code 88) 57 = .ok (.invokevirtual 118, 3) := by decide +kernel
theorem d88_60 : decode (pm_code 88) 60 = .ok (.ireturn, 1) := by decide +kernel
theorem d89_0 : decode (pm_code 89) 0 = .ok (.aload_n 0, 1) := by decide +kernel
theorem d89_1 : decode (pm_code 89) 1 = .ok (.bipush 80, 2) := by decide +kernel
theorem d89_3 : decode (pm_code 89) 3 = .ok (.bipush 83, 2) := by decide +kernel
theorem d89_5 : decode (pm_code 89) 5 = .ok (.invokevirtual 97, 3) := by decide +kernel
theorem d89_8 : decode (pm_code 89) 8 = .ok (.istore_n 2, 1) := by decide +kernel
theorem d89_9 : decode (pm_code 89) 9 = .ok (.iload_n 2, 1) := by decide +kernel
theorem d89_10 : decode (pm_code 89) 10 = .ok (.ifCond .eq 12, 3) := by decide +kernel
theorem d89_13 : decode (pm_code 89) 13 = .ok (.aload_n 0, 1) := by decide +kernel
theorem d89_14 : decode (pm_code 89) 14 = .ok (.bipush 58, 2) := by decide +kernel
theorem d89_16 : decode (pm_code 89) 16 = .ok (.invokevirtual 93, 3) := by decide +kernel
theorem d89_19 : decode (pm_code 89) 19 = .ok (.ifCond .ne 5, 3) := by decide +kernel
theorem d89_22 : decode (pm_code 89) 22 = .ok (.iconst (-1), 1) := by decide +kernel
theorem d89_23 : decode (pm_code 89) 23 = .ok (.ireturn, 1) := by decide +kernel
theorem d89_24 : decode (pm_code 89) 24 = .ok (.aload_n 0, 1) := by decide +kernel
theorem d89_25 : decode (pm_code 89) 25 = .ok (.iload_n 1, 1) := by decide +kernel
theorem d89_26 : decode (pm_code 89) 26 = .ok (.iconst 1, 1) := by decide +kernel
theorem d89_27 : decode (pm_code 89) 27 = .ok (.iadd, 1) := by decide +kernel
theorem d89_28 : decode (pm_code 89) 28 = .ok (.invokevirtual 85, 3) := by decide +kernel
theorem d89_31 : decode (pm_code 89) 31 = .ok (.istore_n 3, 1) := by decide +kernel
theorem d89_32 : decode (pm_code 89) 32 = .ok (.iload_n 3, 1) := by decide +kernel
theorem d89_33 : decode (pm_code 89) 33 = .ok (.iconst (-1), 1) := by decide +kernel
theorem d89_34 : decode (pm_code 89) 34 = .ok (.if_icmp .eq 12, 3) := by decide +kernel
theorem d89_37 : decode (pm_code 89) 37 = .ok (.aload_n 0, 1) := by decide +kernel
theorem d89_38 : decode (pm_code 89) 38 = .ok (.bipush 62, 2) := by decide +kernel
theorem d89_40 : decode (pm_code 89) 40 = .ok (.invokevirtual 93, 3) := by decide +kernel
theorem d89_43 : decode (pm_code 89) 43 = .ok (.ifCond .ne 5, 3) := by decide +kernel
theorem d89_46 : decode (pm_code 89) 46 = .ok (.iconst (-1), 1) := by decide +kernel
theorem d89_47 : decode (pm_code 89) 47 = .ok (.ireturn, 1) := by decide +kernel
theorem d89_48 : decode (pm_code 89) 48 = .ok (.aload_n 0, 1) := by decide +kernel
theorem d89_49 : decode (pm_code 89) 49 = .ok (.iload_n 2, 1) := by decide +kernel
theorem d89_50 : decode (pm_code 89) 50 = .ok (.invokevirtual 122, 3) := by decide +kernel
theorem d89_53 : decode (pm_code 89) 53 = .ok (.aload_n 0, 1) := by decide +kernel
theorem d89_54 : decode (pm_code 89) 54 = .ok (.iload_n 1, 1) := by decide +kernel
theorem d89_55 : decode (pm_code 89) 55 = .ok (.iconst 1, 1) := by decide +kernel
theorem d89_56 : decode (pm_code 89) 56 = .ok (.iadd, 1) := by decide +kernel
theorem d89_57 : decode (pm_code 89) 57 = .ok (.invokevirtual 85, 3) := by decide +kernel
theorem d89_60 : decode (pm_code 89) 60 = .ok (.istore 4, 2) := by decide +kernel
theorem d89_62 : decode (pm_code 89) 62 = .ok (.aload_n 0, 1) := by decide +kernel
theorem d89_63 : decode (pm_code 89) 63 = .ok (.dup, 1) := by decide +kernel
theorem d89_64 : decode (pm_code 89) 64 = .ok (.getfield 65, 3) := by decide +kernel
theorem d89_67 : decode (pm_code 89) 67 = .ok (.iconst 1, 1) := by decide +kernel
theorem d89_68 : decode (pm_code 89) 68 = .ok (.isub, 1) := by decide +kernel
theorem d89_69 : decode (pm_code 89) 69 = .ok (.putfield 65, 3) := by decide +kernel
theorem d89_72 : decode (pm_code 89) 72 = .ok (.iload 4, 2) := by decide +kernel
theorem d89_74 : decode (pm_code 89) 74 = .ok (.iconst (-1), 1) := by decide +kernel
theorem d89_75 : decode (pm_code 89) 75 = .ok (.if_icmp .ne 7, 3) := by decide +kernel
theorem d89_78 : decode (pm_code 89) 78 = .ok (.iconst (-1), 1) := by decide +kernel
theorem d89_79 : decode (pm_code 89) 79 = .ok (.goto 16, 3) := by decide +kernel
theorem d89_82 : decode (pm_code 89) 82 = .ok (.aload_n 0, 1) := by decide +kernel
theorem d89_83 : decode (pm_code 89) 83 = .ok (.getfield 22, 3) := by decide +kernel
theorem d89_86 : decode (pm_code 89) 86 = .ok (.bipush 35, 2) := by decide +kernel
theorem d89_88 : decode (pm_code 89) 88 = .ok (.iload_n 3, 1) := by decide +kernel
theorem d89_89 : decode (pm_code 89) 89 = .ok (.iload 4, 2) := by decide +kernel
theorem d89_91 : decode (pm_code 89) 91 = .ok (.iconst 0, 1) := by decide +kernel
theorem d89_92 : decode (pm_code 89) 92 = .ok (.invokevirtual 118, 3) := by decide +kernel
theorem d89_95 : decode (pm_code 89) 95 = .ok (.ireturn, 1) := by decide +kernel
theorem d90_0 : decode (pm_code 90) 0 = .ok (.iload_n 1, 1) := by decide +kernel
theorem d90_1 : decode (pm_code 90) 1 = .ok (.ifCond .eq 8, 3) := by decide +kernel
theorem d90_4 : decode (pm_code 90) 4 = .ok (.bipush 93, 2) := by decide +kernel
theorem d90_6 : decode (pm_code 90) 6 = .ok (.goto 5, 3) := by decide +kernel
theorem d90_9 : decode (pm_code 90) 9 = .ok (.bipush 125, 2) := by decide +kernel
theorem d90_11 : decode (pm_code 90) 11 = .ok (.istore 4, 2) := by decide +kernel
theorem d90_13 : decode (pm_code 90) 13 = .ok (.iconst 0, 1) := by decide +kernel
theorem d90_14 : decode (pm_code 90) 14 = .ok (.istore 5, 2) := by decide +kernel
theorem d90_16 : decode (pm_code 90) 16 = .ok (.iconst 0, 1) := by decide +kernel
theorem d90_17 : decode (pm_code 90) 17 = .ok (.istore 6, 2) := by decide +kernel
theorem d90_19 : decode (pm_code 90) 19 = .ok (.iconst 0, 1) := by decide +kernel
theorem d90_20 : decode (pm_code 90) 20 = .ok (.istore 7, 2) := by decide +kernel
theorem d90_22 : decode (pm_code 90) 22 = .ok (.iconst 0, 1) := by decide +kernel
theorem d90_23 : decode (pm_code 90) 23 = .ok (.istore 8, 2) := by decide +kernel
theorem d90_25 : decode (pm_code 90) 25 = .ok (.iconst 0, 1) := by decide +kernel
theorem d90_26 : decode (pm_code 90) 26 = .ok (.istore 9, 2) := by decide +kernel
theorem d90_28 : decode (pm_code 90) 28 = .ok (.aload_n 0, 1) := by decide +kernel
theorem d90_29 : decode (pm_code 90) 29 = .ok (.iload 4, 2) := by decide +kernel
theorem d90_31 : decode (pm_code 90) 31 = .ok (.invokevirtual 93, 3) := by decide +kernel
theorem d90_34 : decode (pm_code 90) 34 = .ok (.istore 10, 2) := by decide +kernel
theorem d90_36 : decode (pm_code 90) 36 = .ok (.iconst 0, 1) := by decide +kernel
theorem d90_37 : decode (pm_code 90) 37 = .ok (.istore 11, 2) := by decide +kernel
theorem d90_39 : decode (pm_code 90) 39 = .ok (.iload 11, 2) := by decide +kernel
theorem d90_41 : decode (pm_code 90) 41 = .ok (.iconst 3, 1) := by decide +kernel
theorem d90_42 : decode (pm_code 90) 42 = .ok (.if_icmp .ge 138, 3) := by decide +kernel
theorem d90_45 : decode (pm_code 90) 45 = .ok (.iload 10, 2) := by decide +kernel
theorem d90_47 : decode (pm_code 90) 47 = .ok (.ifCond .ne 133, 3) := by decide +kernel
theorem d90_50 : decode (pm_code 90) 50 = .ok (.aload_n 0, 1) := by decide +kernel
theorem d90_51 : decode (pm_code 90) 51 = .ok (.iload 9, 2) := by decide +kernel
theorem d90_53 : decode (pm_code 90) 53 = .ok (.iload_n 3, 1) := by decide +kernel
theorem d90_54 : decode (pm_code 90) 54 = .ok (.invokevirtual 126, 3) := by decide +kernel
theorem d90_57 : decode (pm_code 90) 57 = .ok (.istore 12, 2) := by decide +kernel
theorem d90_59 : decode (pm_code 90) 59 = .ok (.iload 12, 2) := by decide +kernel
theorem d90_61 : decode (pm_code 90) 61 = .ok (.iconst (-1), 1) := by decide +kernel
theorem d90_62 : decode (pm_code 90) 62 = .ok (.if_icmp .ne 7, 3) := by decide +kernel
theorem d90_65 : decode (pm_code 90) 65 = .ok (.iconst (-1), 1) := by decide +kernel
theorem d90_66 : decode (pm_code 90) 66 = .ok (.goto 9, 3) := by decide +kernel
theorem d90_69 : decode (pm_code 90) 69 = .ok (.aload_n 0, 1) := by decide +kernel
theorem d90_70 : decode (pm_code 90) 70 = .ok (.iload_n 1, 1) := by decide +kernel
theorem d90_71 : decode (pm_code 90) 71 = .ok (.iload_n 3, 1) := by decide +kernel
theorem d90_72 : decode (pm_code 90) 72 = .ok (.invokevirtual 129, 3) := by decide +kernel
theorem d90_75 : decode (pm_code 90) 75 = .ok (.istore 13, 2) := by decide +kernel
theorem d90_77 : decode (pm_code 90) 77 = .ok (.iload 13, 2) := by decide +kernel
theorem d90_79 : decode (pm_code 90) 79 = .ok (.iconst (-1), 1) := by decide +kernel
theorem d90_80 : decode (pm_code 90) 80 = .ok (.if_icmp .ne 5, 3) := by decide +kernel
theorem d90_83 : decode (pm_code 90) 83 = .ok (.iconst (-1), 1) := by decide +kernel
theorem d90_84 : decode (pm_code 90) 84 = .ok (.ireturn, 1) := by decide +kernel
theorem d90_85 : decode (pm_code 90) 85 = .ok (.iload 5, 2) := by decide +kernel
theorem d90_87 : decode (pm_code 90) 87 = .ok (.iconst 1, 1) := by decide +kernel
theorem d90_88 : decode (pm_code 90) 88 = .ok (.iload 12, 2) := by decide +kernel
theorem d90_90 : decode (pm_code 90) 90 = .ok (.ishl, 1) := by decide +kernel
theorem d90_91 : decode (pm_code 90) 91 = .ok (.ior, 1) := by decide +kernel
theorem d90_92 : decode (pm_code 90) 92 = .ok (.istore 5, 2) := by decide +kernel
theorem d90_94 : decode (pm_code 90) 94 = .ok (.iload 12, 2) := by decide +kernel
theorem d90_96 : decode (pm_code 90) 96 = .ok (.ifCond .ne 8, 3) := by decide +kernel
theorem d90_99 : decode (pm_code 90) 99 = .ok (.iload 13, 2) := by decide +kernel
theorem d90_101 : decode (pm_code 90) 101 = .ok (.goto 5, 3) := by decide +kernel
theorem d90_104 : decode (pm_code 90) 104 = .ok (.iload 6, 2) := by decide +kernel
theorem d90_106 : decode (pm_code 90) 106 = .ok (.istore 6, 2) := by decide +kernel
theorem d90_108 : decode (pm_code 90) 108 = .ok (.iload 12, 2) := by decide +kernel
theorem d90_110 : decode (pm_code 90) 110 = .ok (.iconst 1, 1) := by decide +kernel
theorem d90_111 : decode (pm_code 90) 111 = .ok (.if_icmp .ne 8, 3) := by decide +kernel
theorem d90_114 : decode (pm_code 90) 114 = .ok (.iload 13, 2) := by decide +kernel
theorem d90_116 : decode (pm_code 90) 116 = .ok (.goto 5, 3) := by decide +kernel
theorem d90_119 : decode (pm_code 90) 119 = .ok (.iload 7, 2) := by decide +kernel
theorem d90_121 : decode (pm_code 90) 121 = .ok (.istore 7, 2) := by decide +kernel
theorem d90_123 : decode (pm_code 90) 123 = .ok (.iload 12, 2) := by decide +kernel
theorem d90_125 : decode (pm_code 90) 125 = .ok (.iconst 2, 1) := by decide +kernel
theorem d90_126 : decode (pm_code 90) 126 = .ok (.if_icmp .ne 8, 3) := by decide +kernel
theorem d90_129 : decode (pm_code 90) 129 = .ok (.iload 13, 2) := by decide +kernel
theorem d90_131 : decode (pm_code 90) 131 = .ok (.goto 5, 3) := by decide +kernel
theorem d90_134 : decode (pm_code 90) 134 = .ok (.iload 8, 2) := by decide +kernel
theorem d90_136 : decode (pm_code 90) 136 = .ok (.istore 8, 2) := by decide +kernel
theorem d90_138 : decode (pm_code 90) 138 = .ok (.iload 12, 2) := by decide +kernel
theorem d90_140 : decode (pm_code 90) 140 = .ok (.iconst 1, 1) := by decide +kernel
theorem d90_141 : decode (pm_code 90) 141 = .ok (.iadd, 1) := by decide +kernel
theorem d90_142 : decode (pm_code 90) 142 = .ok (.istore 9, 2) := by decide +kernel
theorem d90_144 : decode (pm_code 90) 144 = .ok (.aload_n 0, 1) := by decide +kernel
theorem d90_145 : decode (pm_code 90) 145 = .ok (.iload 4, 2) := by decide +kernel
theorem d90_147 : decode (pm_code 90) 147 = .ok (.invokevirtual 93, 3) := by decide +kernel
theorem d90_150 : decode (pm_code 90) 150 = .ok (.istore 10, 2) := by decide +kernel
theorem d90_152 : decode (pm_code 90) 152 = .ok (.iload 10, 2) := by decide +kernel
theorem d90_154 : decode (pm_code 90) 154 = .ok (.ifCond .ne 20, 3) := by decide +kernel
theorem d90_157 : decode (pm_code 90) 157 = .ok (.iload 9, 2) := by decide +kernel
theorem d90_159 : decode (pm_code 90) 159 = .ok (.iconst 3, 1) := by decide +kernel
theorem d90_160 : decode (pm_code 90) 160 = .ok (.if_icmp .ge 12, 3) := by decide +kernel
theorem d90_163 : decode (pm_code 90) 163 = .ok (.aload_n 0, 1) := by decide +kernel
theorem d90_164 : decode (pm_code 90) 164 = .ok (.bipush 44, 2) := by decide +kernel
theorem d90_166 : decode (pm_code 90) 166 = .ok (.invokevirtual 93, 3) := by decide +kernel
theorem d90_169 : decode (pm_code 90) 169 = .ok (.ifCond .ne 5, 3) := by decide +kernel
theorem d90_172 : decode (pm_code 90) 172 = .ok (.iconst (-1), 1) := by decide +kernel
theorem d90_173 : decode (pm_code 90) 173 = .ok (.ireturn, 1) := by decide +kernel
theorem d90_174 : decode (pm_code 90) 174 = .ok (.iinc 11 1, 3) := by decide +kernel
theorem d90_177 : decode (pm_code 90) 177 = .ok (.goto (-138), 3) := by decide +kernel
theorem d90_180 : decode (pm_code 90) 180 = .ok (.iload_n 1, 1) := by decide +kernel
theorem d90_181 : decode (pm_code 90) 181 = .ok (.ifCond .eq 22, 3) := by decide +kernel
theorem d90_184 : decode (pm_code 90) 184 = .ok (.aload_n 0, 1) := by decide +kernel
theorem d90_185 : decode (pm_code 90) 185 = .ok (.getfield 22, 3) := by decide +kernel
theorem d90_188 : decode (pm_code 90) 188 = .ok (.bipush 8, 2) := by decide +kernel
theorem d90_190 : decode (pm_code 90) 190 = .ok (.iload 5, 2) := by decide +kernel
theorem d90_192 : decode (pm_code 90) 192 = .ok (.iadd, 1) := by decide +kernel
theorem d90_193 : decode (pm_code 90) 193 = .ok (.iload 6, 2) := by decide +kernel
theorem d90_195 : decode (pm_code 90) 195 = .ok (.iload 7, 2) := by decide +kernel
theorem d90_197 : decode (pm_code 90) 197 = .ok (.iload 8, 2) := by decide +kernel
theorem d90_199 : decode (pm_code 90) 199 = .ok (.invokevirtual 118, 3) := by decide +kernel
theorem d90_202 : decode (pm_code 90) 202 = .ok (.ireturn, 1) := by decide +kernel
theorem d90_203 : decode (pm_code 90) 203 = .ok (.aload_n 0, 1) := by decide +kernel
theorem d90_204 : decode (pm_code 90) 204 = .ok (.getfield 29, 3) := by decide +kernel
theorem d90_207 : decode (pm_code 90) 207 = .ok (.iload_n 2, 1) := by decide +kernel
theorem d90_208 : decode (pm_code 90) 208 = .ok (.iload 5, 2) := by decide +kernel
theorem d90_210 : decode (pm_code 90) 210 = .ok (.iload 6, 2) := by decide +kernel
theorem d90_212 : decode (pm_code 90) 212 = .ok (.iload 7, 2) := by decide +kernel
theorem d90_214 : decode (pm_code 90) 214 = .ok (.iload 8, 2) := by decide +kernel
theorem d90_216 : decode (pm_code 90) 216 = .ok (.invokevirtual 133, 3) := by decide +kernel
theorem d90_219 : decode (pm_code 90) 219 = .ok (.iload_n 2, 1) := by decide +kernel
theorem d90_220 : decode (pm_code 90) 220 = .ok (.ireturn, 1) := by decide +kernel
theorem d91_0 : decode (pm_code 91) 0 = .ok (.iload_n 1, 1) := by decide +kernel
theorem d91_1 : decode (pm_code 91) 1 = .ok (.ifCond .eq 11, 3) := by decide +kernel
theorem d91_4 : decode (pm_code 91) 4 = .ok (.aload_n 0, 1) := by decide +kernel
theorem d91_5 : decode (pm_code 91) 5 = .ok (.iload_n 2, 1) := by decide +kernel
theorem d91_6 : decode (pm_code 91) 6 = .ok (.iconst 1, 1) := by decide +kernel
theorem d91_7 : decode (pm_code 91) 7 = .ok (.iadd, 1) := by decide +kernel
theorem d91_8 : decode (pm_code 91) 8 = .ok (.invokevirtual 85, 3) := by decide +kernel
theorem d91_11 : decode (pm_code 91) 11 = .ok (.ireturn, 1) := by decide +kernel
theorem d91_12 : decode (pm_code 91) 12 = .ok (.aload_n 0, 1) := by decide +kernel
theorem d91_13 : decode (pm_code 91) 13 = .ok (.bipush 61, 2) := by decide +kernel
theorem d91_15 : decode (pm_code 91) 15 = .ok (.invokevirtual 93, 3) := by decide +kernel
theorem d91_18 : decode (pm_code 91) 18 = .ok (.ifCond .eq 13, 3) := by decide +kernel
theorem d91_21 : decode (pm_code 91) 21 = .ok (.aload_n 0, 1) := by decide +kernel
theorem d91_22 : decode (pm_code 91) 22 = .ok (.iload_n 2, 1) := by decide +kernel
theorem d91_23 : decode (pm_code 91) 23 = .ok (.iconst 1, 1) := by decide +kernel
theorem d91_24 : decode (pm_code 91) 24 = .ok (.iadd, 1) := by decide +kernel
theorem d91_25 : decode (pm_code 91) 25 = .ok (.invokevirtual 50, 3) := by decide +kernel
theorem d91_28 : decode (pm_code 91) 28 = .ok (.goto 4, 3) := by decide +kernel
theorem d91_31 : decode (pm_code 91) 31 = .ok (.iconst (-1), 1) := by decide +kernel
theorem d91_32 : decode (pm_code 91) 32 = .ok (.ireturn, 1) := by decide +kernel
theorem d92_0 : decode (pm_code 92) 0 = .ok (.aload_n 0, 1) := by decide +kernel
theorem d92_1 : decode (pm_code 92) 1 = .ok (.getfield 62, 3) := by decide +kernel
theorem d92_4 : decode (pm_code 92) 4 = .ok (.istore_n 2, 1) := by decide +kernel
theorem d92_5 : decode (pm_code 92) 5 = .ok (.aload_n 0, 1) := by decide +kernel
theorem d92_6 : decode (pm_code 92) 6 = .ok (.bipush 97, 2) := by decide +kernel
theorem d92_8 : decode (pm_code 92) 8 = .ok (.bipush 100, 2) := by decide +kernel
theorem d92_10 : decode (pm_code 92) 10 = .ok (.invokevirtual 97, 3) := by decide +kernel
theorem d92_13 : decode (pm_code 92) 13 = .ok (.istore_n 3, 1) := by decide +kernel
theorem d92_14 : decode (pm_code 92) 14 = .ok (.iload_n 3, 1) := by decide +kernel
theorem d92_15 : decode (pm_code 92) 15 = .ok (.ifCond .eq 34, 3) := by decide +kernel
theorem d92_18 : decode (pm_code 92) 18 = .ok (.aload_n 0, 1) := by decide +kernel
theorem d92_19 : decode (pm_code 92) 19 = .ok (.getfield 29, 3) := by decide +kernel
theorem d92_22 : decode (pm_code 92) 22 = .ok (.iconst 0, 1) := by decide +kernel
theorem d92_23 : decode (pm_code 92) 23 = .ok (.iload_n 2, 1) := by decide +kernel
theorem d92_24 : decode (pm_code 92) 24 = .ok (.invokevirtual 137, 3) := by decide +kernel
theorem d92_27 : decode (pm_code 92) 27 = .ok (.istore 4, 2) := by decide +kernel
theorem d92_29 : decode (pm_code 92) 29 = .ok (.aload_n 0, 1) := by decide +kernel
theorem d92_30 : decode (pm_code 92) 30 = .ok (.getfield 29, 3) := by decide +kernel
theorem d92_33 : decode (pm_code 92) 33 = .ok (.iload 4, 2) := by decide +kernel
theorem d92_35 : decode (pm_code 92) 35 = .ok (.iconst 0, 1) := by decide +kernel
theorem d92_36 : decode (pm_code 92) 36 = .ok (.aload_n 0, 1) := by decide +kernel
theorem d92_37 : decode (pm_code 92) 37 = .ok (.iload_n 3, 1) := by decide +kernel
theorem d92_38 : decode (pm_code 92) 38 = .ok (.invokevirtual 140, 3) := by decide +kernel
theorem d92_41 : decode (pm_code 92) 41 = .ok (.iconst 0, 1) := by decide +kernel
theorem d92_42 : decode (pm_code 92) 42 = .ok (.iconst 0, 1) := by decide +kernel
theorem d92_43 : decode (pm_code 92) 43 = .ok (.invokevirtual 133, 3) := by decide +kernel
theorem d92_46 : decode (pm_code 92) 46 = .ok (.iload 4, 2) := by decide +kernel
theorem d92_48 : decode (pm_code 92) 48 = .ok (.ireturn, 1) := by decide +kernel
theorem d92_49 : decode (pm_code 92) 49 = .ok (.iload_n 1, 1) := by decide +kernel
theorem d92_50 : decode (pm_code 92) 50 = .ok (.bipush 24, 2) := by decide +kernel
theorem d92_52 : decode (pm_code 92) 52 = .ok (.if_icmp .le 5, 3) := by decide +kernel
theorem d92_55 : decode (pm_code 92) 55 = .ok (.iconst (-1), 1) := by decide +kernel
theorem d92_56 : decode (pm_code 92) 56 = .ok (.ireturn, 1) := by decide +kernel
theorem d92_57 : decode (pm_code 92) 57 = .ok (.aload_n 0, 1) := by decide +kernel
theorem d92_58 : decode (pm_code 92) 58 = .ok (.bipush 123, 2) := by decide +kernel
theorem d92_60 : decode (pm_code 92) 60 = .ok (.invokevirtual 93, 3) := by decide +kernel
theorem d92_63 : decode (pm_code 92) 63 = .ok (.ifCond .eq 19, 3) := by decide +kernel
theorem d92_66 : decode (pm_code 92) 66 = .ok (.aload_n 0, 1) := by decide +kernel
theorem d92_67 : decode (pm_code 92) 67 = .ok (.iconst 0, 1) := by decide +kernel
theorem d92_68 : decode (pm_code 92) 68 = .ok (.aload_n 0, 1) := by decide +kernel
theorem d92_69 : decode (pm_code 92) 69 = .ok (.getfield 29, 3) := by decide +kernel
theorem d92_72 : decode (pm_code 92) 72 = .ok (.iconst 5, 1) := by decide +kernel
theorem d92_73 : decode (pm_code 92) 73 = .ok (.iload_n 2, 1) := by decide +kernel
theorem d92_74 : decode (pm_code 92) 74 = .ok (.invokevirtual 137, 3) := by decide +kernel
theorem d92_77 : decode (pm_code 92) 77 = .ok (.iload_n 1, 1) := by decide +kernel
theorem d92_78 : decode (pm_code 92) 78 = .ok (.invokevirtual 108, 3) := by decide +kernel
theorem d92_81 : decode (pm_code 92) 81 = .ok (.ireturn, 1) := by decide +kernel
theorem d92_82 : decode (pm_code 92) 82 = .ok (.iload_n 1, 1) := by decide +kernel
theorem d92_83 : decode (pm_code 92) 83 = .ok (.bipush 24, 2) := by decide +kernel
theorem d92_85 : decode (pm_code 92) 85 = .ok (.if_icmp .ne 7, 3) := by decide +kernel
theorem d92_88 : decode (pm_code 92) 88 = .ok (.iconst (-1), 1) := by decide +kernel
theorem d92_89 : decode (pm_code 92) 89 = .ok (.goto 9, 3) := by decide +kernel
theorem d92_92 : decode (pm_code 92) 92 = .ok (.aload_n 0, 1) := by decide +kernel
theorem d92_93 : decode (pm_code 92) 93 = .ok (.iload_n 2, 1) := by decide +kernel
theorem d92_94 : decode (pm_code 92) 94 = .ok (.iload_n 1, 1) := by decide +kernel
theorem d92_95 : decode (pm_code 92) 95 = .ok (.invokevirtual 143, 3) := by decide +kernel
theorem d92_98 : decode (pm_code 92) 98 = .ok (.ireturn, 1) := by decide +kernel
theorem d93_0 : decode (pm_code 93) 0 = .ok (.aload_n 0, 1) := by decide +kernel
theorem d93_1 : decode (pm_code 93) 1 = .ok (.bipush 92, 2) := by decide +kernel
theorem d93_3 : decode (pm_code 93) 3 = .ok (.invokevirtual 93, 3) := by decide +kernel
theorem d93_6 : decode (pm_code 93) 6 = .ok (.ifCond .eq 18, 3) := by decide +kernel
theorem d93_9 : decode (pm_code 93) 9 = .ok (.aload_n 0, 1) := by decide +kernel
theorem d93_10 : decode (pm_code 93) 10 = .ok (.aload_n 0, 1) := by decide +kernel
theorem d93_11 : decode (pm_code 93) 11 = .ok (.getfield 29, 3) := by decide +kernel
theorem d93_14 : decode (pm_code 93) 14 = .ok (.iconst 1, 1) := by decide +kernel
theorem d93_15 : decode (pm_code 93) 15 = .ok (.iload_n 1, 1) := by decide +kernel
theorem d93_16 : decode (pm_code 93) 16 = .ok (.invokevirtual 137, 3) := by decide +kernel
theorem d93_19 : decode (pm_code 93) 19 = .ok (.iload_n 2, 1) := by decide +kernel
theorem d93_20 : decode (pm_code 93) 20 = .ok (.invokevirtual 146, 3) := by decide +kernel
theorem d93_23 : decode (pm_code 93) 23 = .ok (.ireturn, 1) := by decide +kernel
theorem d93_24 : decode (pm_code 93) 24 = .ok (.aload_n 0, 1) := by decide +kernel
theorem d93_25 : decode (pm_code 93) 25 = .ok (.bipush 40, 2) := by decide +kernel
theorem d93_27 : decode (pm_code 93) 27 = .ok (.invokevirtual 93, 3) := by decide +kernel
theorem d93_30 : decode (pm_code 93) 30 = .ok (.ifCond .eq 18, 3) := by decide +kernel
theorem d93_33 : decode (pm_code 93) 33 = .ok (.aload_n 0, 1) := by decide +kernel
theorem d93_34 : decode (pm_code 93) 34 = .ok (.aload_n 0, 1) := by decide +kernel
theorem d93_35 : decode (pm_code 93) 35 = .ok (.getfield 29, 3) := by decide +kernel
theorem d93_38 : decode (pm_code 93) 38 = .ok (.iconst 2, 1) := by decide +kernel
theorem d93_39 : decode (pm_code 93) 39 = .ok (.iload_n 1, 1) := by decide +kernel
theorem d93_40 : decode (pm_code 93) 40 = .ok (.invokevirtual 137, 3) := by decide +kernel
theorem d93_43 : decode (pm_code 93) 43 = .ok (.iload_n 2, 1) := by decide +kernel
theorem d93_44 : decode (pm_code 93) 44 = .ok (.invokevirtual 149, 3) := by decide +kernel
theorem d93_47 : decode (pm_code 93) 47 = .ok (.ireturn, 1) := by decide +kernel
theorem d93_48 : decode (pm_code 93) 48 = .ok (.aload_n 0, 1) := by decide +kernel
theorem d93_49 : decode (pm_code 93) 49 = .ok (.bipush 47, 2) := by decide +kernel
theorem d93_51 : decode (pm_code 93) 51 = .ok (.invokevirtual 93, 3) := by decide +kernel
theorem d93_54 : decode (pm_code 93) 54 = .ok (.ifCond .eq 18, 3) := by decide +kernel
theorem d93_57 : decode (pm_code 93) 57 = .ok (.aload_n 0, 1) := by decide +kernel
theorem d93_58 : decode (pm_code 93) 58 = .ok (.aload_n 0, 1) := by decide +kernel
theorem d93_59 : decode (pm_code 93) 59 = .ok (.getfield 29, 3) := by decide +kernel
theorem d93_62 : decode (pm_code 93) 62 = .ok (.iconst 3, 1) := by decide +kernel
theorem d93_63 : decode (pm_code 93) 63 = .ok (.iload_n 1, 1) := by decide +kernel
theorem d93_64 : decode (pm_code 93) 64 = .ok (.invokevirtual 137, 3) := by decide +kernel
theorem d93_67 : decode (pm_code 93) 67 = .ok (.iload_n 2, 1) := by decide +kernel
theorem d93_68 : decode (pm_code 93) 68 = .ok (.invokevirtual 152, 3) := by decide +kernel
theorem d93_71 : decode (pm_code 93) 71 = .ok (.ireturn, 1) := by decide +kernel
theorem d93_72 : decode (pm_code 93) 72 = .ok (.aload_n 0, 1) := by decide +kernel
theorem d93_73 : decode (pm_code 93) 73 = .ok (.bipush 64, 2) := by decide +kernel
theorem d93_75 : decode (pm_code 93) 75 = .ok (.invokevirtual 93, 3) := by decide +kernel
theorem d93_78 : decode (pm_code 93) 78 = .ok (.ifCond .eq 18, 3) := by decide +kernel
theorem d93_81 : decode (pm_code 93) 81 = .ok (.aload_n 0, 1) := by decide +kernel
theorem d93_82 : decode (pm_code 93) 82 = .ok (.aload_n 0, 1) := by decide +kernel
theorem d93_83 : decode (pm_code 93) 83 = .ok (.getfield 29, 3) := by decide +kernel
theorem d93_86 : decode (pm_code 93) 86 = .ok (.iconst 4, 1) := by decide +kernel
theorem d93_87 : decode (pm_code 93) 87 = .ok (.iload_n 1, 1) := by decide +kernel
theorem d93_88 : decode (pm_code 93) 88 = .ok (.invokevirtual 137, 3) := by decide +kernel
theorem d93_91 : decode (pm_code 93) 91 = .ok (.iload_n 2, 1) := by decide +kernel
theorem d93_92 : decode (pm_code 93) 92 = .ok (.invokevirtual 155, 3) := by decide +kernel
theorem d93_95 : decode (pm_code 93) 95 = .ok (.ireturn, 1) := by decide +kernel
theorem d93_96 : decode (pm_code 93) 96 = .ok (.aload_n 0, 1) := by decide +kernel
theorem d93_97 : decode (pm_code 93) 97 = .ok (.bipush 46, 2) := by decide +kernel
theorem d93_99 : decode (pm_code 93) 99 = .ok (.invokevirtual 93, 3) := by decide +kernel
theorem d93_102 : decode (pm_code 93) 102 = .ok (.ifCond .eq 19, 3) := by decide +kernel
theorem d93_105 : decode (pm_code 93) 105 = .ok (.aload_n 0, 1) := by decide +kernel
theorem d93_106 : decode (pm_code 93) 106 = .ok (.aload_n 0, 1) := by decide +kernel
theorem d93_107 : decode (pm_code 93) 107 = .ok (.getfield 29, 3) := by decide +kernel
theorem d93_110 : decode (pm_code 93) 110 = .ok (.bipush 6, 2) := by decide +kernel
theorem d93_112 : decode (pm_code 93) 112 = .ok (.iload_n 1, 1) := by decide +kernel
theorem d93_113 : decode (pm_code 93) 113 = .ok (.invokevirtual 137, 3) := by decide +kernel
theorem d93_116 : decode (pm_code 93) 116 = .ok (.iload_n 2, 1) := by decide +kernel
theorem d93_117 : decode (pm_code 93) 117 = .ok (.invokevirtual 158, 3) := by decide +kernel
theorem d93_120 : decode (pm_code 93) 120 = .ok (.ireturn, 1) := by decide +kernel
theorem d93_121 : decode (pm_code 93) 121 = .ok (.aload_n 0, 1) := by decide +kernel
theorem d93_122 : decode (pm_code 93) 122 = .ok (.bipush 63, 2) := by decide +kernel
theorem d93_124 : decode (pm_code 93) 124 = .ok (.invokevirtual 93, 3) := by decide +kernel
theorem d93_127 : decode (pm_code 93) 127 = .ok (.ifCond .eq 21, 3) := by decide +kernel
theorem d93_130 : decode (pm_code 93) 130 = .ok (.aload_n 0, 1) := by decide +kernel
theorem d93_131 : decode (pm_code 93) 131 = .ok (.aload_n 0, 1) := by decide +kernel
theorem d93_132 : decode (pm_code 93) 132 = .ok (.getfield 29, 3) := by decide +kernel
theorem d93_135 : decode (pm_code 93) 135 = .ok (.bipush 7, 2) := by decide +kernel
theorem d93_137 : decode (pm_code 93) 137 = .ok (.iload_n 1, 1) := by decide +kernel
theorem d93_138 : decode (pm_code 93) 138 = .ok (.invokevirtual 137, 3) := by decide +kernel
theorem d93_141 : decode (pm_code 93) 141 = .ok (.iload_n 2, 1) := by decide +kernel
theorem d93_142 : decode (pm_code 93) 142 = .ok (.invokevirtual 161, 3) := by decide +kernel
theorem d93_145 : decode (pm_code 93) 145 = .ok (.goto 4, 3) := by decide +kernel
theorem d93_148 : decode (pm_code 93) 148 = .ok (.iconst (-1), 1) := by decide +kernel
theorem d93_149 : decode (pm_code 93) 149 = .ok (.ireturn, 1) := by decide +kernel
theorem d94_0 : decode (pm_code 94) 0 = .ok (.aload_n 0, 1) := by decide +kernel
theorem d94_1 : decode (pm_code 94) 1 = .ok (.bipush 97, 2) := by decide +kernel
theorem d94_3 : decode (pm_code 94) 3 = .ok (.bipush 100, 2) := by decide +kernel
theorem d94_5 : decode (pm_code 94) 5 = .ok (.invokevirtual 97, 3) := by decide +kernel
theorem d94_8 : decode (pm_code 94) 8 = .ok (.istore_n 3, 1) := by decide +kernel
theorem d94_9 : decode (pm_code 94) 9 = .ok (.iload_n 3, 1) := by decide +kernel
theorem d94_10 : decode (pm_code 94) 10 = .ok (.ifCond .eq 12, 3) := by decide +kernel
theorem d94_13 : decode (pm_code 94) 13 = .ok (.aload_n 0, 1) := by decide +kernel
theorem d94_14 : decode (pm_code 94) 14 = .ok (.bipush 58, 2) := by decide +kernel
theorem d94_16 : decode (pm_code 94) 16 = .ok (.invokevirtual 93, 3) := by decide +kernel
theorem d94_19 : decode (pm_code 94) 19 = .ok (.ifCond .ne 5, 3) := by decide +kernel
theorem d94_22 : decode (pm_code 94) 22 = .ok (.iconst (-1), 1) := by decide +kernel
theorem d94_23 : decode (pm_code 94) 23 = .ok (.ireturn, 1) := by decide +kernel
theorem d94_24 : decode (pm_code 94) 24 = .ok (.aload_n 0, 1) := by decide +kernel
theorem d94_25 : decode (pm_code 94) 25 = .ok (.iload_n 2, 1) := by decide +kernel
theorem d94_26 : decode (pm_code 94) 26 = .ok (.iconst 1, 1) := by decide +kernel
theorem d94_27 : decode (pm_code 94) 27 = .ok (.iadd, 1) := by decide +kernel
theorem d94_28 : decode (pm_code 94) 28 = .ok (.invokevirtual 37, 3) := by decide +kernel
theorem d94_31 : decode (pm_code 94) 31 = .ok (.istore 4, 2) := by decide +kernel
theorem d94_33 : decode (pm_code 94) 33 = .ok (.iload 4, 2) := by decide +kernel
theorem d94_35 : decode (pm_code 94) 35 = .ok (.iconst (-1), 1) := by decide +kernel
theorem d94_36 : decode (pm_code 94) 36 = .ok (.if_icmp .eq 12, 3) := by decide +kernel
theorem d94_39 : decode (pm_code 94) 39 = .ok (.aload_n 0, 1) := by decide +kernel
theorem d94_40 : decode (pm_code 94) 40 = .ok (.bipush 46, 2) := by decide +kernel
theorem d94_42 : decode (pm_code 94) 42 = .ok (.invokevirtual 93, 3) := by decide +kernel
theorem d94_45 : decode (pm_code 94) 45 = .ok (.ifCond .ne 5, 3) := by decide +kernel
theorem d94_48 : decode (pm_code 94) 48 = .ok (.iconst (-1), 1) := by decide +kernel
theorem d94_49 : decode (pm_code 94) 49 = .ok (.ireturn, 1) := by decide +kernel
theorem d94_50 : decode (pm_code 94) 50 = .ok (.aload_n 0, 1) := by decide +kernel
theorem d94_51 : decode (pm_code 94) 51 = .ok (.iload_n 3, 1) := by decide +kernel
theorem d94_52 : decode (pm_code 94) 52 = .ok (.iload_n 1, 1) := by decide +kernel
theorem d94_53 : decode (pm_code 94) 53 = .ok (.invokevirtual 164, 3) := by decide +kernel
theorem d94_56 : decode (pm_code 94) 56 = .ok (.aload_n 0, 1) := by decide +kernel
theorem d94_57 : decode (pm_code 94) 57 = .ok (.iload_n 2, 1) := by decide +kernel
theorem d94_58 : decode (pm_code 94) 58 = .ok (.iconst 1, 1) := by decide +kernel
theorem d94_59 : decode (pm_code 94) 59 = .ok (.iadd, 1) := by decide +kernel
theorem d94_60 : decode (pm_code 94) 60 = .ok (.invokevirtual 50, 3) := by decide +kernel
theorem d94_63 : decode (pm_code 94) 63 = .ok (.istore 5, 2) := by decide +kernel
theorem d94_65 : decode (pm_code 94) 65 = .ok (.aload_n 0, 1) := by decide +kernel
theorem d94_66 : decode (pm_code 94) 66 = .ok (.dup, 1) := by decide +kernel
theorem d94_67 : decode (pm_code 94) 67 = .ok (.getfield 68, 3) := by decide +kernel
theorem d94_70 : decode (pm_code 94) 70 = .ok (.iconst 1, 1) := by decide +kernel
theorem d94_71 : decode (pm_code 94) 71 = .ok (.isub, 1) := by decide +kernel
theorem d94_72 : decode (pm_code 94) 72 = .ok (.putfield 68, 3) := by decide +kernel
theorem d94_75 : decode (pm_code 94) 75 = .ok (.aload_n 0, 1) := by decide +kernel
theorem d94_76 : decode (pm_code 94) 76 = .ok (.getfield 29, 3) := by decide +kernel
theorem d94_79 : decode (pm_code 94) 79 = .ok (.iload_n 1, 1) := by decide +kernel
theorem d94_80 : decode (pm_code 94) 80 = .ok (.aload_n 0, 1) := by decide +kernel
theorem d94_81 : decode (pm_code 94) 81 = .ok (.getfield 65, 3) := by decide +kernel
theorem d94_84 : decode (pm_code 94) 84 = .ok (.iload 4, 2) := by decide +kernel
theorem d94_86 : decode (pm_code 94) 86 = .ok (.iload 5, 2) := by decide +kernel
theorem d94_88 : decode (pm_code 94) 88 = .ok (.iconst 0, 1) := by decide +kernel
theorem d94_89 : decode (pm_code 94) 89 = .ok (.invokevirtual 133, 3) := by decide +kernel
theorem d94_92 : decode (pm_code 94) 92 = .ok (.iload 5, 2) := by decide +kernel
theorem d94_94 : decode (pm_code 94) 94 = .ok (.iconst (-1), 1) := by decide +kernel
theorem d94_95 : decode (pm_code 94) 95 = .ok (.if_icmp .ne 7, 3) := by decide +kernel
theorem d94_98 : decode (pm_code 94) 98 = .ok (.iconst (-1), 1) := by decide +kernel
theorem d94_99 : decode (pm_code 94) 99 = .ok (.goto 4, 3) := by decide +kernel
theorem d94_102 : decode (pm_code 94) 102 = .ok (.iload_n 1, 1) := by decide +kernel
theorem d94_103 : decode (pm_code 94) 103 = .ok (.ireturn, 1) := by decide +kernel
theorem d95_0 : decode (pm_code 95) 0 = .ok (.aload_n 0, 1) := by decide +kernel
theorem d95_1 : decode (pm_code 95) 1 = .ok (.iload_n 2, 1) := by decide +kernel
theorem d95_2 : decode (pm_code 95) 2 = .ok (.iconst 1, 1) := by decide +kernel
theorem d95_3 : decode (pm_code 95) 3 = .ok (.iadd, 1) := by decide +kernel
theorem d95_4 : decode (pm_code 95) 4 = .ok (.invokevirtual 50, 3) := by decide +kernel
theorem d95_7 : decode (pm_code 95) 7 = .ok (.istore_n 3, 1) := by decide +kernel
theorem d95_8 : decode (pm_code 95) 8 = .ok (.iload_n 3, 1) := by decide +kernel
theorem d95_9 : decode (pm_code 95) 9 = .ok (.iconst (-1), 1) := by decide +kernel
theorem d95_10 : decode (pm_code 95) 10 = .ok (.if_icmp .ne 7, 3) := by decide +kernel
theorem d95_13 : decode (pm_code 95) 13 = .ok (.iconst (-1), 1) := by decide +kernel
theorem d95_14 : decode (pm_code 95) 14 = .ok (.goto 10, 3) := by decide +kernel
theorem d95_17 : decode (pm_code 95) 17 = .ok (.aload_n 0, 1) := by decide +kernel
theorem d95_18 : decode (pm_code 95) 18 = .ok (.iload_n 2, 1) := by decide +kernel
theorem d95_19 : decode (pm_code 95) 19 = .ok (.iconst 1, 1) := by decide +kernel
theorem d95_20 : decode (pm_code 95) 20 = .ok (.iadd, 1) := by decide +kernel
theorem d95_21 : decode (pm_code 95) 21 = .ok (.invokevirtual 50, 3) := by decide +kernel
theorem d95_24 : decode (pm_code 95) 24 = .ok (.istore 4, 2) := by decide +kernel
theorem d95_26 : decode (pm_code 95) 26 = .ok (.iload 4, 2) := by decide +kernel
theorem d95_28 : decode (pm_code 95) 28 = .ok (.iconst (-1), 1) := by decide +kernel
theorem d95_29 : decode (pm_code 95) 29 = .ok (.if_icmp .eq 12, 3) := by decide +kernel
theorem d95_32 : decode (pm_code 95) 32 = .ok (.aload_n 0, 1) := by decide +kernel
theorem d95_33 : decode (pm_code 95) 33 = .ok (.bipush 41, 2) := by decide +kernel
theorem d95_35 : decode (pm_code 95) 35 = .ok (.invokevirtual 93, 3) := by decide +kernel
theorem d95_38 : decode (pm_code 95) 38 = .ok (.ifCond .ne 5, 3) := by decide +kernel
theorem d95_41 : decode (pm_code 95) 41 = .ok (.iconst (-1), 1) := by decide +kernel
theorem d95_42 : decode (pm_code 95) 42 = .ok (.ireturn, 1) := by decide +kernel
theorem d95_43 : decode (pm_code 95) 43 = .ok (.aload_n 0, 1) := by decide +kernel
theorem d95_44 : decode (pm_code 95) 44 = .ok (.getfield 29, 3) := by decide +kernel
theorem d95_47 : decode (pm_code 95) 47 = .ok (.iload_n 1, 1) := by decide +kernel
theorem d95_48 : decode (pm_code 95) 48 = .ok (.iconst 0, 1) := by decide +kernel
theorem d95_49 : decode (pm_code 95) 49 = .ok (.iload_n 3, 1) := by decide +kernel
theorem d95_50 : decode (pm_code 95) 50 = .ok (.iload 4, 2) := by decide +kernel
theorem d95_52 : decode (pm_code 95) 52 = .ok (.iconst 0, 1) := by decide +kernel
theorem d95_53 : decode (pm_code 95) 53 = .ok (.invokevirtual 133, 3) := by decide +kernel
theorem d95_56 : decode (pm_code 95) 56 = .ok (.iload_n 1, 1) := by decide +kernel
theorem d95_57 : decode (pm_code 95) 57 = .ok (.ireturn, 1) := by decide +kernel
theorem d96_0 : decode (pm_code 96) 0 = .ok (.aload_n 0, 1) := by decide +kernel
theorem d96_1 : decode (pm_code 96) 1 = .ok (.bipush 80, 2) := by decide +kernel
theorem d96_3 : decode (pm_code 96) 3 = .ok (.bipush 83, 2) := by decide +kernel
theorem d96_5 : decode (pm_code 96) 5 = .ok (.invokevirtual 97, 3) := by decide +kernel
theorem d96_8 : decode (pm_code 96) 8 = .ok (.istore_n 3, 1) := by decide +kernel
theorem d96_9 : decode (pm_code 96) 9 = .ok (.iload_n 3, 1) := by decide +kernel
theorem d96_10 : decode (pm_code 96) 10 = .ok (.ifCond .eq 12, 3) := by decide +kernel
theorem d96_13 : decode (pm_code 96) 13 = .ok (.aload_n 0, 1) := by decide +kernel
theorem d96_14 : decode (pm_code 96) 14 = .ok (.bipush 58, 2) := by decide +kernel
theorem d96_16 : decode (pm_code 96) 16 = .ok (.invokevirtual 93, 3) := by decide +kernel
theorem d96_19 : decode (pm_code 96) 19 = .ok (.ifCond .ne 5, 3) := by decide +kernel
theorem d96_22 : decode (pm_code 96) 22 = .ok (.iconst (-1), 1) := by decide +kernel
theorem d96_23 : decode (pm_code 96) 23 = .ok (.ireturn, 1) := by decide +kernel
theorem d96_24 : decode (pm_code 96) 24 = .ok (.aload_n 0, 1) := by decide +kernel
theorem d96_25 : decode (pm_code 96) 25 = .ok (.iload_n 2, 1) := by decide +kernel
theorem d96_26 : decode (pm_code 96) 26 = .ok (.iconst 1, 1) := by decide +kernel
theorem d96_27 : decode (pm_code 96) 27 = .ok (.iadd, 1) := by decide +kernel
theorem d96_28 : decode (pm_code 96) 28 = .ok (.invokevirtual 37, 3) := by decide +kernel
theorem d96_31 : decode (pm_code 96) 31 = .ok (.istore 4, 2) := by decide +kernel
theorem d96_33 : decode (pm_code 96) 33 = .ok (.iload 4, 2) := by decide +kernel
theorem d96_35 : decode (pm_code 96) 35 = .ok (.iconst (-1), 1) := by decide +kernel
theorem d96_36 : decode (pm_code 96) 36 = .ok (.if_icmp .eq 12, 3) := by decide +kernel
theorem d96_39 : decode (pm_code 96) 39 = .ok (.aload_n 0, 1) := by decide +kernel
theorem d96_40 : decode (pm_code 96) 40 = .ok (.bipush 46, 2) := by decide +kernel
theorem d96_42 : decode (pm_code 96) 42 = .ok (.invokevirtual 93, 3) := by decide +kernel
theorem d96_45 : decode (pm_code 96) 45 = .ok (.ifCond .ne 5, 3) := by decide +kernel
theorem d96_48 : decode (pm_code 96) 48 = .ok (.iconst (-1), 1) := by decide +kernel
theorem d96_49 : decode (pm_code 96) 49 = .ok (.ireturn, 1) := by decide +kernel
theorem d96_50 : decode (pm_code 96) 50 = .ok (.aload_n 0, 1) := by decide +kernel
theorem d96_51 : decode (pm_code 96) 51 = .ok (.iload_n 3, 1) := by decide +kernel
theorem d96_52 : decode (pm_code 96) 52 = .ok (.invokevirtual 122, 3) := by decide +kernel
theorem d96_55 : decode (pm_code 96) 55 = .ok (.aload_n 0, 1) := by decide +kernel
theorem d96_56 : decode (pm_code 96) 56 = .ok (.iload_n 2, 1) := by decide +kernel
theorem d96_57 : decode (pm_code 96) 57 = .ok (.iconst 1, 1) := by decide +kernel
theorem d96_58 : decode (pm_code 96) 58 = .ok (.iadd, 1) := by decide +kernel
theorem d96_59 : decode (pm_code 96) 59 = .ok (.invokevirtual 50, 3) := by decide +kernel
theorem d96_62 : decode (pm_code 96) 62 = .ok (.istore 5, 2) := by decide +kernel
theorem d96_64 : decode (pm_code 96) 64 = .ok (.aload_n 0, 1) := by decide +kernel
theorem d96_65 : decode (pm_code 96) 65 = .ok (.dup, 1) := by decide +kernel
theorem d96_66 : decode (pm_code 96) 66 = .ok (.getfield 65, 3) := by decide +kernel
theorem d96_69 : decode (pm_code 96) 69 = .ok (.iconst 1, 1) := by decide +kernel
theorem d96_70 : decode (pm_code 96) 70 = .ok (.isub, 1) := by decide +kernel
theorem d96_71 : decode (pm_code 96) 71 = .ok (.putfield 65, 3) := by decide +kernel
theorem d96_74 : decode (pm_code 96) 74 = .ok (.aload_n 0, 1) := by decide +kernel
theorem d96_75 : decode (pm_code 96) 75 = .ok (.getfield 29, 3) := by decide +kernel
theorem d96_78 : decode (pm_code 96) 78 = .ok (.iload_n 1, 1) := by decide +kernel
theorem d96_79 : decode (pm_code 96) 79 = .ok (.iconst 0, 1) := by decide +kernel
theorem d96_80 : decode (pm_code 96) 80 = .ok (.iload 4, 2) := by decide +kernel
theorem d96_82 : decode (pm_code 96) 82 = .ok (.iload 5, 2) := by decide +kernel
theorem d96_84 : decode (pm_code 96) 84 = .ok (.iconst 0, 1) := by decide +kernel
theorem d96_85 : decode (pm_code 96) 85 = .ok (.invokevirtual 133, 3) := by decide +kernel
theorem d96_88 : decode (pm_code 96) 88 = .ok (.iload 5, 2) := by decide +kernel
theorem d96_90 : decode (pm_code 96) 90 = .ok (.iconst (-1), 1) := by decide +kernel
theorem d96_91 : decode (pm_code 96) 91 = .ok (.if_icmp .ne 7, 3) := by decide +kernel
theorem d96_94 : decode (pm_code 96) 94 = .ok (.iconst (-1), 1) := by decide +kernel
theorem d96_95 : decode (pm_code 96) 95 = .ok (.goto 4, 3) := by decide +kernel
theorem d96_98 : decode (pm_code 96) 98 = .ok (.iload_n 1, 1) := by decide +kernel
theorem d96_99 : decode (pm_code 96) 99 = .ok (.ireturn, 1) := by decide +kernel
theorem d97_0 : decode (pm_code 97) 0 = .ok (.aload_n 0, 1) := by decide +kernel
theorem d97_1 : decode (pm_code 97) 1 = .ok (.iload_n 2, 1) := by decide +kernel
theorem d97_2 : decode (pm_code 97) 2 = .ok (.iconst 1, 1) := by decide +kernel
theorem d97_3 : decode (pm_code 97) 3 = .ok (.iadd, 1) := by decide +kernel
theorem d97_4 : decode (pm_code 97) 4 = .ok (.invokevirtual 50, 3) := by decide +kernel
theorem d97_7 : decode (pm_code 97) 7 = .ok (.istore_n 3, 1) := by decide +kernel
theorem d97_8 : decode (pm_code 97) 8 = .ok (.iload_n 3, 1) := by decide +kernel
theorem d97_9 : decode (pm_code 97) 9 = .ok (.iconst (-1), 1) := by decide +kernel
theorem d97_10 : decode (pm_code 97) 10 = .ok (.if_icmp .ne 7, 3) := by decide +kernel
theorem d97_13 : decode (pm_code 97) 13 = .ok (.iconst (-1), 1) := by decide +kernel
theorem d97_14 : decode (pm_code 97) 14 = .ok (.goto 10, 3) := by decide +kernel
theorem d97_17 : decode (pm_code 97) 17 = .ok (.aload_n 0, 1) := by decide +kernel
theorem d97_18 : decode (pm_code 97) 18 = .ok (.iload_n 2, 1) := by decide +kernel
theorem d97_19 : decode (pm_code 97) 19 = .ok (.iconst 1, 1) := by decide +kernel
theorem d97_20 : decode (pm_code 97) 20 = .ok (.iadd, 1) := by decide +kernel
theorem d97_21 : decode (pm_code 97) 21 = .ok (.invokevirtual 37, 3) := by decide +kernel
theorem d97_24 : decode (pm_code 97) 24 = .ok (.istore 4, 2) := by decide +kernel
theorem d97_26 : decode (pm_code 97) 26 = .ok (.aload_n 0, 1) := by decide +kernel
theorem d97_27 : decode (pm_code 97) 27 = .ok (.getfield 29, 3) := by decide +kernel
theorem d97_30 : decode (pm_code 97) 30 = .ok (.iload_n 1, 1) := by decide +kernel
theorem d97_31 : decode (pm_code 97) 31 = .ok (.iconst 0, 1) := by decide +kernel
theorem d97_32 : decode (pm_code 97) 32 = .ok (.iload_n 3, 1) := by decide +kernel
theorem d97_33 : decode (pm_code 97) 33 = .ok (.iload 4, 2) := by decide +kernel
theorem d97_35 : decode (pm_code 97) 35 = .ok (.iconst 0, 1) := by decide +kernel
theorem d97_36 : decode (pm_code 97) 36 = .ok (.invokevirtual 133, 3) := by decide +kernel
theorem d97_39 : decode (pm_code 97) 39 = .ok (.iload 4, 2) := by decide +kernel
theorem d97_41 : decode (pm_code 97) 41 = .ok (.iconst (-1), 1) := by decide +kernel
theorem d97_42 : decode (pm_code 97) 42 = .ok (.if_icmp .ne 7, 3) := by decide +kernel
theorem d97_45 : decode (pm_code 97) 45 = .ok (.iconst (-1), 1) := by decide +kernel
theorem d97_46 : decode (pm_code 97) 46 = .ok (.goto 4, 3) := by decide +kernel
theorem d97_49 : decode (pm_code 97) 49 = .ok (.iload_n 1, 1) := by decide +kernel
theorem d97_50 : decode (pm_code 97) 50 = .ok (.ireturn, 1) := by decide +kernel
theorem d98_0 : decode (pm_code 98) 0 = .ok (.aload_n 0, 1) := by decide +kernel
theorem d98_1 : decode (pm_code 98) 1 = .ok (.iconst 0, 1) := by decide +kernel
theorem d98_2 : decode (pm_code 98) 2 = .ok (.iload_n 2, 1) := by decide +kernel
theorem d98_3 : decode (pm_code 98) 3 = .ok (.invokevirtual 126, 3) := by decide +kernel
theorem d98_6 : decode (pm_code 98) 6 = .ok (.istore_n 3, 1) := by decide +kernel
theorem d98_7 : decode (pm_code 98) 7 = .ok (.iload_n 3, 1) := by decide +kernel
theorem d98_8 : decode (pm_code 98) 8 = .ok (.iconst (-1), 1) := by decide +kernel
theorem d98_9 : decode (pm_code 98) 9 = .ok (.if_icmp .ne 7, 3) := by decide +kernel
theorem d98_12 : decode (pm_code 98) 12 = .ok (.iconst (-1), 1) := by decide +kernel
theorem d98_13 : decode (pm_code 98) 13 = .ok (.goto 10, 3) := by decide +kernel
theorem d98_16 : decode (pm_code 98) 16 = .ok (.aload_n 0, 1) := by decide +kernel
theorem d98_17 : decode (pm_code 98) 17 = .ok (.iload_n 2, 1) := by decide +kernel
theorem d98_18 : decode (pm_code 98) 18 = .ok (.iconst 1, 1) := by decide +kernel
theorem d98_19 : decode (pm_code 98) 19 = .ok (.iadd, 1) := by decide +kernel
theorem d98_20 : decode (pm_code 98) 20 = .ok (.invokevirtual 50, 3) := by decide +kernel
theorem d98_23 : decode (pm_code 98) 23 = .ok (.istore 4, 2) := by decide +kernel
theorem d98_25 : decode (pm_code 98) 25 = .ok (.aload_n 0, 1) := by decide +kernel
theorem d98_26 : decode (pm_code 98) 26 = .ok (.getfield 29, 3) := by decide +kernel
theorem d98_29 : decode (pm_code 98) 29 = .ok (.iload_n 1, 1) := by decide +kernel
theorem d98_30 : decode (pm_code 98) 30 = .ok (.iload_n 3, 1) := by decide +kernel
theorem d98_31 : decode (pm_code 98) 31 = .ok (.iload 4, 2) := by decide +kernel
theorem d98_33 : decode (pm_code 98) 33 = .ok (.iconst 0, 1) := by decide +kernel
theorem d98_34 : decode (pm_code 98) 34 = .ok (.iconst 0, 1) := by decide +kernel
theorem d98_35 : decode (pm_code 98) 35 = .ok (.invokevirtual 133, 3) := by decide +kernel
theorem d98_38 : decode (pm_code 98) 38 = .ok (.iload 4, 2) := by decide +kernel
theorem d98_40 : decode (pm_code 98) 40 = .ok (.iconst (-1), 1) := by decide +kernel
theorem d98_41 : decode (pm_code 98) 41 = .ok (.if_icmp .ne 7, 3) := by decide +kernel
theorem d98_44 : decode (pm_code 98) 44 = .ok (.iconst (-1), 1) := by decide +kernel
theorem d98_45 : decode (pm_code 98) 45 = .ok (.goto 4, 3) := by decide +kernel
theorem d98_48 : decode (pm_code 98) 48 = .ok (.iload_n 1, 1) := by decide +kernel
theorem d98_49 : decode (pm_code 98) 49 = .ok (.ireturn, 1) := by decide +kernel
theorem d99_0 : decode (pm_code 99) 0 = .ok (.aload_n 0, 1) := by decide +kernel
theorem d99_1 : decode (pm_code 99) 1 = .ok (.bipush 48, 2) := by decide +kernel
theorem d99_3 : decode (pm_code 99) 3 = .ok (.bipush 49, 2) := by decide +kernel
theorem d99_5 : decode (pm_code 99) 5 = .ok (.invokevirtual 97, 3) := by decide +kernel
theorem d99_8 : decode (pm_code 99) 8 = .ok (.istore_n 3, 1) := by decide +kernel
theorem d99_9 : decode (pm_code 99) 9 = .ok (.iload_n 3, 1) := by decide +kernel
theorem d99_10 : decode (pm_code 99) 10 = .ok (.ifCond .ne 7, 3) := by decide +kernel
theorem d99_13 : decode (pm_code 99) 13 = .ok (.iconst (-1), 1) := by decide +kernel
theorem d99_14 : decode (pm_code 99) 14 = .ok (.goto 10, 3) := by decide +kernel
theorem d99_17 : decode (pm_code 99) 17 = .ok (.aload_n 0, 1) := by decide +kernel
theorem d99_18 : decode (pm_code 99) 18 = .ok (.iload_n 2, 1) := by decide +kernel
theorem d99_19 : decode (pm_code 99) 19 = .ok (.iconst 1, 1) := by decide +kernel
theorem d99_20 : decode (pm_code 99) 20 = .ok (.iadd, 1) := by decide +kernel
theorem d99_21 : decode (pm_code 99) 21 = .ok (.invokevirtual 50, 3) := by decide +kernel
theorem d99_24 : decode (pm_code 99) 24 = .ok (.istore 4, 2) := by decide +kernel
theorem d99_26 : decode (pm_code 99) 26 = .ok (.iload 4, 2) := by decide +kernel
theorem d99_28 : decode (pm_code 99) 28 = .ok (.iconst (-1), 1) := by decide +kernel
theorem d99_29 : decode (pm_code 99) 29 = .ok (.if_icmp .ne 7, 3) := by decide +kernel
theorem d99_32 : decode (pm_code 99) 32 = .ok (.iconst (-1), 1) := by decide +kernel
theorem d99_33 : decode (pm_code 99) 33 = .ok (.goto 10, 3) := by decide +kernel
theorem d99_36 : decode (pm_code 99) 36 = .ok (.aload_n 0, 1) := by decide +kernel
theorem d99_37 : decode (pm_code 99) 37 = .ok (.iload_n 2, 1) := by decide +kernel
theorem d99_38 : decode (pm_code 99) 38 = .ok (.iconst 1, 1) := by decide +kernel
theorem d99_39 : decode (pm_code 99) 39 = .ok (.iadd, 1) := by decide +kernel
theorem d99_40 : decode (pm_code 99) 40 = .ok (.invokevirtual 50, 3) := by decide +kernel
theorem d99_43 : decode (pm_code 99) 43 = .ok (.istore 5, 2) := by decide +kernel
theorem d99_45 : decode (pm_code 99) 45 = .ok (.aload_n 0, 1) := by decide +kernel
theorem d99_46 : decode (pm_code 99) 46 = .ok (.getfield 29, 3) := by decide +kernel
theorem d99_49 : decode (pm_code 99) 49 = .ok (.iload_n 1, 1) := by decide +kernel
theorem d99_50 : decode (pm_code 99) 50 = .ok (.iload_n 3, 1) := by decide +kernel
theorem d99_51 : decode (pm_code 99) 51 = .ok (.bipush 48, 2) := by decide +kernel
theorem d99_53 : decode (pm_code 99) 53 = .ok (.isub, 1) := by decide +kernel
theorem d99_54 : decode (pm_code 99) 54 = .ok (.iload 4, 2) := by decide +kernel
theorem d99_56 : decode (pm_code 99) 56 = .ok (.iload 5, 2) := by decide +kernel
theorem d99_58 : decode (pm_code 99) 58 = .ok (.iconst 0, 1) := by decide +kernel
theorem d99_59 : decode (pm_code 99) 59 = .ok (.invokevirtual 133, 3) := by decide +kernel
theorem d99_62 : decode (pm_code 99) 62 = .ok (.iload 5, 2) := by decide +kernel
theorem d99_64 : decode (pm_code 99) 64 = .ok (.iconst (-1), 1) := by decide +kernel
theorem d99_65 : decode (pm_code 99) 65 = .ok (.if_icmp .ne 7, 3) := by decide +kernel
theorem d99_68 : decode (pm_code 99) 68 = .ok (.iconst (-1), 1) := by decide +kernel
theorem d99_69 : decode (pm_code 99) 69 = .ok (.goto 4, 3) := by decide +kernel
theorem d99_72 : decode (pm_code 99) 72 = .ok (.iload_n 1, 1) := by decide +kernel
theorem d99_73 : decode (pm_code 99) 73 = .ok (.ireturn, 1) := by decide +kernel
theorem d100_0 : decode (pm_code 100) 0 = .ok (.aload_n 0, 1) := by decide +kernel
theorem d100_1 : decode (pm_code 100) 1 = .ok (.invokespecial 3, 3) := by decide +kernel
theorem d100_4 : decode (pm_code 100) 4 = .ok (.aload_n 0, 1) := by decide +kernel
theorem d100_5 : decode (pm_code 100) 5 = .ok (.aload_n 1, 1) := by decide +kernel
theorem d100_6 : decode (pm_code 100) 6 = .ok (.putfield 9, 3) := by decide +kernel
theorem d100_9 : decode (pm_code 100) 9 = .ok (.aload_n 0, 1) := by decide +kernel
theorem d100_10 : decode (pm_code 100) 10 = .ok (.aload_n 2, 1) := by decide +kernel
theorem d100_11 : decode (pm_code 100) 11 = .ok (.putfield 15, 3) := by decide +kernel
theorem d100_14 : decode (pm_code 100) 14 = .ok (.return_, 1) := by decide +kernel
theorem d101_0 : decode (pm_code 101) 0 = .ok (.aload_n 0, 1) := by decide +kernel
theorem d101_1 : decode (pm_code 101) 1 = .ok (.aload_n 1, 1) := by decide +kernel
theorem d101_2 : decode (pm_code 101) 2 = .ok (.putfield 15, 3) := by decide +kernel
theorem d101_5 : decode (pm_code 101) 5 = .ok (.aload_n 0, 1) := by decide +kernel
theorem d101_6 : decode (pm_code 101) 6 = .ok (.iconst (-1), 1) := by decide +kernel
theorem d101_7 : decode (pm_code 101) 7 = .ok (.putfield 19, 3) := by decide +kernel
theorem d101_10 : decode (pm_code 101) 10 = .ok (.return_, 1) := by decide +kernel
theorem d102_0 : decode (pm_code 102) 0 = .ok (.iload_n 3, 1) := by decide +kernel
theorem d102_1 : decode (pm_code 102) 1 = .ok (.bipush 24, 2) := by decide +kernel
theorem d102_3 : decode (pm_code 102) 3 = .ok (.if_icmp .le 5, 3) := by decide +kernel
theorem d102_6 : decode (pm_code 102) 6 = .ok (.iconst (-1), 1) := by decide +kernel
theorem d102_7 : decode (pm_code 102) 7 = .ok (.ireturn, 1) := by decide +kernel
theorem d102_8 : decode (pm_code 102) 8 = .ok (.aload_n 0, 1) := by decide +kernel
theorem d102_9 : decode (pm_code 102) 9 = .ok (.iload_n 1, 1) := by decide +kernel
theorem d102_10 : decode (pm_code 102) 10 = .ok (.iload_n 2, 1) := by decide +kernel
theorem d102_11 : decode (pm_code 102) 11 = .ok (.iload_n 3, 1) := by decide +kernel
theorem d102_12 : decode (pm_code 102) 12 = .ok (.invokevirtual 23, 3) := by decide +kernel
theorem d102_15 : decode (pm_code 102) 15 = .ok (.istore 4, 2) := by decide +kernel
theorem d102_17 : decode (pm_code 102) 17 = .ok (.aload_n 0, 1) := by decide +kernel
theorem d102_18 : decode (pm_code 102) 18 = .ok (.getfield 19, 3) := by decide +kernel
theorem d102_21 : decode (pm_code 102) 21 = .ok (.iconst (-1), 1) := by decide +kernel
theorem d102_22 : decode (pm_code 102) 22 = .ok (.if_icmp .eq 5, 3) := by decide +kernel
theorem d102_25 : decode (pm_code 102) 25 = .ok (.iconst (-1), 1) := by decide +kernel
theorem d102_26 : decode (pm_code 102) 26 = .ok (.ireturn, 1) := by decide +kernel
theorem d102_27 : decode (pm_code 102) 27 = .ok (.iload 4, 2) := by decide +kernel
theorem d102_29 : decode (pm_code 102) 29 = .ok (.iconst (-1), 1) := by decide +kernel
theorem d102_30 : decode (pm_code 102) 30 = .ok (.if_icmp .eq 18, 3) := by decide +kernel
theorem d102_33 : decode (pm_code 102) 33 = .ok (.aload_n 0, 1) := by decide +kernel
theorem d102_34 : decode (pm_code 102) 34 = .ok (.getfield 9, 3) := by decide +kernel
theorem d102_37 : decode (pm_code 102) 37 = .ok (.getfield 27, 3) := by decide +kernel
theorem d102_40 : decode (pm_code 102) 40 = .ok (.iload 4, 2) := by decide +kernel
theorem d102_42 : decode (pm_code 102) 42 = .ok (.iaload, 1) := by decide +kernel
theorem d102_43 : decode (pm_code 102) 43 = .ok (.bipush 16, 2) := by decide +kernel
theorem d102_45 : decode (pm_code 102) 45 = .ok (.if_icmp .le 18, 3) := by decide +kernel
theorem d102_48 : decode (pm_code 102) 48 = .ok (.aload_n 0, 1) := by decide +kernel
theorem d102_49 : decode (pm_code 102) 49 = .ok (.aload_n 0, 1) := by decide +kernel
theorem d102_50 : decode (pm_code 102) 50 = .ok (.getfield 15, 3) := by decide +kernel
theorem d102_53 : decode (pm_code 102) 53 = .ok (.getfield 33, 3) := by decide +kernel
theorem d102_56 : decode (pm_code 102) 56 = .ok (.iload_n 1, 1) := by decide +kernel
theorem d102_57 : decode (pm_code 102) 57 = .ok (.iaload, 1) := by decide +kernel
theorem d102_58 : decode (pm_code 102) 58 = .ok (.putfield 19, 3) := by decide +kernel
theorem d102_61 : decode (pm_code 102) 61 = .ok (.iconst (-1), 1) := by decide +kernel
theorem d102_62 : decode (pm_code 102) 62 = .ok (.ireturn, 1) := by decide +kernel
theorem d102_63 : decode (pm_code 102) 63 = .ok (.iload 4, 2) := by decide +kernel
theorem d102_65 : decode (pm_code 102) 65 = .ok (.ireturn, 1) := by decide +kernel
theorem d103_0 : decode (pm_code 103) 0 = .ok (.aload_n 0, 1) := by decide +kernel
theorem d103_1 : decode (pm_code 103) 1 = .ok (.getfield 15, 3) := by decide +kernel
theorem d103_4 : decode (pm_code 103) 4 = .ok (.getfield 38, 3) := by decide +kernel
theorem d103_7 : decode (pm_code 103) 7 = .ok (.iload_n 1, 1) := by decide +kernel
theorem d103_8 : decode (pm_code 103) 8 = .ok (.iaload, 1) := by decide +kernel
theorem d103_9 : decode (pm_code 103) 9 = .ok (.tableswitch 98 0 6 #[43, 50, 58, 66, 74, 82, 90], 43) := by decide +kernel
theorem d103_52 : decode (pm_code 103) 52 = .ok (.aload_n 0, 1) := by decide +kernel
theorem d103_53 : decode (pm_code 103) 53 = .ok (.iload_n 1, 1) := by decide +kernel
theorem d103_54 : decode (pm_code 103) 54 = .ok (.iload_n 2, 1) := by decide +kernel
theorem d103_55 : decode (pm_code 103) 55 = .ok (.invokevirtual 41, 3) := by decide +kernel
theorem d103_58 : decode (pm_code 103) 58 = .ok (.ireturn, 1) := by decide +kernel
theorem d103_59 : decode (pm_code 103) 59 = .ok (.aload_n 0, 1) := by decide +kernel
theorem d103_60 : decode (pm_code 103) 60 = .ok (.iload_n 1, 1) := by decide +kernel
theorem d103_61 : decode (pm_code 103) 61 = .ok (.iload_n 2, 1) := by decide +kernel
theorem d103_62 : decode (pm_code 103) 62 = .ok (.iload_n 3, 1) := by decide +kernel
theorem d103_63 : decode (pm_code 103) 63 = .ok (.invokevirtual 45, 3) := by decide +kernel
theorem d103_66 : decode (pm_code 103) 66 = .ok (.ireturn, 1) := by decide +kernel
theorem d103_67 : decode (pm_code 103) 67 = .ok (.aload_n 0, 1) := by decide +kernel
theorem d103_68 : decode (pm_code 103) 68 = .ok (.iload_n 1, 1) := by decide +kernel
theorem d103_69 : decode (pm_code 103) 69 = .ok (.iload_n 2, 1) := by decide +kernel
theorem d103_70 : decode (pm_code 103) 70 = .ok (.iload_n 3, 1) := by decide +kernel
theorem d103_71 : decode (pm_code 103) 71 = .ok (.invokevirtual 48, 3) := by decide +kernel
theorem d103_74 : decode (pm_code 103) 74 = .ok (.ireturn, 1) := by decide +kernel
theorem d103_75 : decode (pm_code 103) 75 = .ok (.aload_n 0, 1) := by decide +kernel
theorem d103_76 : decode (pm_code 103) 76 = .ok (.iload_n 1, 1) := by decide +kernel
theorem d103_77 : decode (pm_code 103) 77 = .ok (.iload_n 2, 1) := by decide +kernel
theorem d103_78 : decode (pm_code 103) 78 = .ok (.iload_n 3, 1) := by decide +kernel
theorem d103_79 : decode (pm_code 103) 79 = .ok (.invokevirtual 51, 3) := by decide +kernel
theorem d103_82 : decode (pm_code 103) 82 = .ok (.ireturn, 1) := by decide +kernel
theorem d103_83 : decode (pm_code 103) 83 = .ok (.aload_n 0, 1) := by decide +kernel
theorem d103_84 : decode (pm_code 103) 84 = .ok (.iload_n 1, 1) := by decide +kernel
theorem d103_85 : decode (pm_code 103) 85 = .ok (.iload_n 2, 1) := by decide +kernel
theorem d103_86 : decode (pm_code 103) 86 = .ok (.iload_n 3, 1) := by decide +kernel
theorem d103_87 : decode (pm_code 103) 87 = .ok (.invokevirtual 54, 3) := by decide +kernel
theorem d103_90 : decode (pm_code 103) 90 = .ok (.ireturn, 1) := by decide +kernel
theorem d103_91 : decode (pm_code 103) 91 = .ok (.aload_n 0, 1) := by decide +kernel
theorem d103_92 : decode (pm_code 103) 92 = .ok (.iload_n 1, 1) := by decide +kernel
theorem d103_93 : decode (pm_code 103) 93 = .ok (.iload_n 2, 1) := by decide +kernel
theorem d103_94 : decode (pm_code 103) 94 = .ok (.iload_n 3, 1) := by decide +kernel
theorem d103_95 : decode (pm_code 103) 95 = .ok (.invokevirtual 57, 3) := by decide +kernel
theorem d103_98 : decode (pm_code 103) 98 = .ok (.ireturn, 1) := by decide +kernel
theorem d103_99 : decode (pm_code 103) 99 = .ok (.aload_n 0, 1) := by decide +kernel
theorem d103_100 : decode (pm_code 103) 100 = .ok (.iload_n 1, 1) := by decide +kernel
theorem d103_101 : decode (pm_code 103) 101 = .ok (.iload_n 2, 1) := by decide +kernel
theorem d103_102 : decode (pm_code 103) 102 = .ok (.iload_n 3, 1) := by decide +kernel
theorem d103_103 : decode (pm_code 103) 103 = .ok (.invokevirtual 60, 3) := by decide +kernel
theorem d103_106 : decode (pm_code 103) 106 = .ok (.ireturn, 1) := by decide +kernel
theorem d103_107 : decode (pm_code 103) 107 = .ok (.aload_n 0, 1) := by decide +kernel
theorem d103_108 : decode (pm_code 103) 108 = .ok (.iload_n 1, 1) := by decide +kernel
theorem d103_109 : decode (pm_code 103) 109 = .ok (.iload_n 2, 1) := by decide +kernel
theorem d103_110 : decode (pm_code 103) 110 = .ok (.iload_n 3, 1) := by decide +kernel
theorem d103_111 : decode (pm_code 103) 111 = .ok (.invokevirtual 63, 3) := by decide +kernel
theorem d103_114 : decode (pm_code 103) 114 = .ok (.ireturn, 1) := by decide +kernel
theorem d104_0 : decode (pm_code 104) 0 = .ok (.aload_n 0, 1) := by decide +kernel
theorem d104_1 : decode (pm_code 104) 1 = .ok (.getfield 15, 3) := by decide +kernel
theorem d104_4 : decode (pm_code 104) 4 = .ok (.getfield 66, 3) := by decide +kernel
theorem d104_7 : decode (pm_code 104) 7 = .ok (.iload_n 1, 1) := by decide +kernel
theorem d104_8 : decode (pm_code 104) 8 = .ok (.iaload, 1) := by decide +kernel
theorem d104_9 : decode (pm_code 104) 9 = .ok (.istore_n 3, 1) := by decide +kernel
theorem d104_10 : decode (pm_code 104) 10 = .ok (.aload_n 0, 1) := by decide +kernel
theorem d104_11 : decode (pm_code 104) 11 = .ok (.getfield 15, 3) := by decide +kernel
theorem d104_14 : decode (pm_code 104) 14 = .ok (.getfield 69, 3) := by decide +kernel
theorem d104_17 : decode (pm_code 104) 17 = .ok (.iload_n 3, 1) := by decide +kernel
theorem d104_18 : decode (pm_code 104) 18 = .ok (.iaload, 1) := by decide +kernel
theorem d104_19 : decode (pm_code 104) 19 = .ok (.istore 4, 2) := by decide +kernel
theorem d104_21 : decode (pm_code 104) 21 = .ok (.aload_n 0, 1) := by decide +kernel
theorem d104_22 : decode (pm_code 104) 22 = .ok (.getfield 9, 3) := by decide +kernel
theorem d104_25 : decode (pm_code 104) 25 = .ok (.aload_n 0, 1) := by decide +kernel
theorem d104_26 : decode (pm_code 104) 26 = .ok (.getfield 15, 3) := by decide +kernel
theorem d104_29 : decode (pm_code 104) 29 = .ok (.getfield 66, 3) := by decide +kernel
theorem d104_32 : decode (pm_code 104) 32 = .ok (.iload_n 3, 1) := by decide +kernel
theorem d104_33 : decode (pm_code 104) 33 = .ok (.iaload, 1) := by decide +kernel
theorem d104_34 : decode (pm_code 104) 34 = .ok (.iload 4, 2) := by decide +kernel
theorem d104_36 : decode (pm_code 104) 36 = .ok (.iload_n 2, 1) := by decide +kernel
theorem d104_37 : decode (pm_code 104) 37 = .ok (.iload 4, 2) := by decide +kernel
theorem d104_39 : decode (pm_code 104) 39 = .ok (.isub, 1) := by decide +kernel
theorem d104_40 : decode (pm_code 104) 40 = .ok (.iconst 0, 1) := by decide +kernel
theorem d104_41 : decode (pm_code 104) 41 = .ok (.invokevirtual 72, 3) := by decide +kernel
theorem d104_44 : decode (pm_code 104) 44 = .ok (.ireturn, 1) := by decide +kernel
theorem d105_0 : decode (pm_code 105) 0 = .ok (.aload_n 0, 1) := by decide +kernel
theorem d105_1 : decode (pm_code 105) 1 = .ok (.aload_n 0, 1) := by decide +kernel
theorem d105_2 : decode (pm_code 105) 2 = .ok (.getfield 15, 3) := by decide +kernel
theorem d105_5 : decode (pm_code 105) 5 = .ok (.getfield 76, 3) := by decide +kernel
theorem d105_8 : decode (pm_code 105) 8 = .ok (.iload_n 1, 1) := by decide +kernel
theorem d105_9 : decode (pm_code 105) 9 = .ok (.iaload, 1) := by decide +kernel
theorem d105_10 : decode (pm_code 105) 10 = .ok (.iload_n 2, 1) := by decide +kernel
theorem d105_11 : decode (pm_code 105) 11 = .ok (.iload_n 3, 1) := by decide +kernel
theorem d105_12 : decode (pm_code 105) 12 = .ok (.iconst 1, 1) := by decide +kernel
theorem d105_13 : decode (pm_code 105) 13 = .ok (.iadd, 1) := by decide +kernel
theorem d105_14 : decode (pm_code 105) 14 = .ok (.invokevirtual 79, 3) := by decide +kernel
theorem d105_17 : decode (pm_code 105) 17 = .ok (.istore 4, 2) := by decide +kernel
theorem d105_19 : decode (pm_code 105) 19 = .ok (.iload 4, 2) := by decide +kernel
theorem d105_21 : decode (pm_code 105) 21 = .ok (.iconst (-1), 1) := by decide +kernel
theorem d105_22 : decode (pm_code 105) 22 = .ok (.if_icmp .ne 5, 3) := by decide +kernel
theorem d105_25 : decode (pm_code 105) 25 = .ok (.iconst (-1), 1) := by decide +kernel
theorem d105_26 : decode (pm_code 105) 26 = .ok (.ireturn, 1) := by decide +kernel
theorem d105_27 : decode (pm_code 105) 27 = .ok (.aload_n 0, 1) := by decide +kernel
theorem d105_28 : decode (pm_code 105) 28 = .ok (.getfield 9, 3) := by decide +kernel
theorem d105_31 : decode (pm_code 105) 31 = .ok (.bipush 19, 2) := by decide +kernel
theorem d105_33 : decode (pm_code 105) 33 = .ok (.aload_n 0, 1) := by decide +kernel
theorem d105_34 : decode (pm_code 105) 34 = .ok (.getfield 15, 3) := by decide +kernel
theorem d105_37 : decode (pm_code 105) 37 = .ok (.getfield 66, 3) := by decide +kernel
theorem d105_40 : decode (pm_code 105) 40 = .ok (.iload_n 1, 1) := by decide +kernel
theorem d105_41 : decode (pm_code 105) 41 = .ok (.iaload, 1) := by decide +kernel
theorem d105_42 : decode (pm_code 105) 42 = .ok (.iload 4, 2) := by decide +kernel
theorem d105_44 : decode (pm_code 105) 44 = .ok (.iconst 0, 1) := by decide +kernel
theorem d105_45 : decode (pm_code 105) 45 = .ok (.invokevirtual 82, 3) := by decide +kernel
theorem d105_48 : decode (pm_code 105) 48 = .ok (.ireturn, 1) := by decide +kernel
theorem d106_0 : decode (pm_code 106) 0 = .ok (.aload_n 0, 1) := by decide +kernel
theorem d106_1 : decode (pm_code 106) 1 = .ok (.aload_n 0, 1) := by decide +kernel
theorem d106_2 : decode (pm_code 106) 2 = .ok (.getfield 15, 3) := by decide +kernel
theorem d106_5 : decode (pm_code 106) 5 = .ok (.getfield 66, 3) := by decide +kernel
theorem d106_8 : decode (pm_code 106) 8 = .ok (.iload_n 1, 1) := by decide +kernel
theorem d106_9 : decode (pm_code 106) 9 = .ok (.iaload, 1) := by decide +kernel
theorem d106_10 : decode (pm_code 106) 10 = .ok (.iload_n 2, 1) := by decide +kernel
theorem d106_11 : decode (pm_code 106) 11 = .ok (.iload_n 3, 1) := by decide +kernel
theorem d106_12 : decode (pm_code 106) 12 = .ok (.iconst 1, 1) := by decide +kernel
theorem d106_13 : decode (pm_code 106) 13 = .ok (.iadd, 1) := by decide +kernel
theorem d106_14 : decode (pm_code 106) 14 = .ok (.invokevirtual 79, 3) := by decide +kernel
theorem d106_17 : decode (pm_code 106) 17 = .ok (.istore 4, 2) := by decide +kernel
theorem d106_19 : decode (pm_code 106) 19 = .ok (.iload 4, 2) := by decide +kernel
theorem d106_21 : decode (pm_code 106) 21 = .ok (.iconst (-1), 1) := by decide +kernel
theorem d106_22 : decode (pm_code 106) 22 = .ok (.if_icmp .ne 7, 3) := by decide +kernel
theorem d106_25 : decode (pm_code 106) 25 = .ok (.iconst (-1), 1) := by decide +kernel
theorem d106_26 : decode (pm_code 106) 26 = .ok (.goto 20, 3) := by decide +kernel
theorem d106_29 : decode (pm_code 106) 29 = .ok (.aload_n 0, 1) := by decide +kernel
theorem d106_30 : decode (pm_code 106) 30 = .ok (.aload_n 0, 1) := by decide +kernel
theorem d106_31 : decode (pm_code 106) 31 = .ok (.getfield 15, 3) := by decide +kernel
theorem d106_34 : decode (pm_code 106) 34 = .ok (.getfield 76, 3) := by decide +kernel
theorem d106_37 : decode (pm_code 106) 37 = .ok (.iload_n 1, 1) := by decide +kernel
theorem d106_38 : decode (pm_code 106) 38 = .ok (.iaload, 1) := by decide +kernel
theorem d106_39 : decode (pm_code 106) 39 = .ok (.iload_n 2, 1) := by decide +kernel
theorem d106_40 : decode (pm_code 106) 40 = .ok (.iload_n 3, 1) := by decide +kernel
theorem d106_41 : decode (pm_code 106) 41 = .ok (.iconst 1, 1) := by decide +kernel
theorem d106_42 : decode (pm_code 106) 42 = .ok (.iadd, 1) := by decide +kernel
theorem d106_43 : decode (pm_code 106) 43 = .ok (.invokevirtual 79, 3) := by decide +kernel
theorem d106_46 : decode (pm_code 106) 46 = .ok (.istore 5, 2) := by decide +kernel
theorem d106_48 : decode (pm_code 106) 48 = .ok (.iload 5, 2) := by decide +kernel
theorem d106_50 : decode (pm_code 106) 50 = .ok (.iconst (-1), 1) := by decide +kernel
theorem d106_51 : decode (pm_code 106) 51 = .ok (.if_icmp .ne 5, 3) := by decide +kernel
theorem d106_54 : decode (pm_code 106) 54 = .ok (.iconst (-1), 1) := by decide +kernel
theorem d106_55 : decode (pm_code 106) 55 = .ok (.ireturn, 1) := by decide +kernel
theorem d106_56 : decode (pm_code 106) 56 = .ok (.aload_n 0, 1) := by decide +kernel
theorem d106_57 : decode (pm_code 106) 57 = .ok (.getfield 9, 3) := by decide +kernel
theorem d106_60 : decode (pm_code 106) 60 = .ok (.iload 4, 2) := by decide +kernel
theorem d106_62 : decode (pm_code 106) 62 = .ok (.iload_n 2, 1) := by decide +kernel
theorem d106_63 : decode (pm_code 106) 63 = .ok (.invokevirtual 85, 3) := by decide +kernel
theorem d106_66 : decode (pm_code 106) 66 = .ok (.istore 6, 2) := by decide +kernel
theorem d106_68 : decode (pm_code 106) 68 = .ok (.aload_n 0, 1) := by decide +kernel
theorem d106_69 : decode (pm_code 106) 69 = .ok (.getfield 9, 3) := by decide +kernel
theorem d106_72 : decode (pm_code 106) 72 = .ok (.getfield 88, 3) := by decide +kernel
theorem d106_75 : decode (pm_code 106) 75 = .ok (.iload 6, 2) := by decide +kernel
theorem d106_77 : decode (pm_code 106) 77 = .ok (.iaload, 1) := by decide +kernel
theorem d106_78 : decode (pm_code 106) 78 = .ok (.bipush 19, 2) := by decide +kernel
theorem d106_80 : decode (pm_code 106) 80 = .ok (.if_icmp .ne 27, 3) := by decide +kernel
theorem d106_83 : decode (pm_code 106) 83 = .ok (.aload_n 0, 1) := by decide +kernel
theorem d106_84 : decode (pm_code 106) 84 = .ok (.getfield 9, 3) := by decide +kernel
theorem d106_87 : decode (pm_code 106) 87 = .ok (.iload 5, 2) := by decide +kernel
theorem d106_89 : decode (pm_code 106) 89 = .ok (.aload_n 0, 1) := by decide +kernel
theorem d106_90 : decode (pm_code 106) 90 = .ok (.getfield 9, 3) := by decide +kernel
theorem d106_93 : decode (pm_code 106) 93 = .ok (.getfield 91, 3) := by decide +kernel
theorem d106_96 : decode (pm_code 106) 96 = .ok (.iload 6, 2) := by decide +kernel
theorem d106_98 : decode (pm_code 106) 98 = .ok (.iaload, 1) := by decide +kernel
theorem d106_99 : decode (pm_code 106) 99 = .ok (.iload_n 2, 1) := by decide +kernel
theorem d106_100 : decode (pm_code 106) 100 = .ok (.iconst 0, 1) := by decide +kernel
theorem d106_101 : decode (pm_code 106) 101 = .ok (.invokevirtual 92, 3) := by decide +kernel
theorem d106_104 : decode (pm_code 106) 104 = .ok (.ifCond .ne 5, 3) := by decide +kernel
theorem d106_107 : decode (pm_code 106) 107 = .ok (.iconst (-1), 1) := by decide +kernel
theorem d106_108 : decode (pm_code 106) 108 = .ok (.ireturn, 1) := by decide +kernel
theorem d106_109 : decode (pm_code 106) 109 = .ok (.aload_n 0, 1) := by decide +kernel
theorem d106_110 : decode (pm_code 106) 110 = .ok (.getfield 9, 3) := by decide +kernel
theorem d106_113 : decode (pm_code 106) 113 = .ok (.getfield 96, 3) := by decide +kernel
theorem d106_116 : decode (pm_code 106) 116 = .ok (.iload 6, 2) := by decide +kernel
theorem d106_118 : decode (pm_code 106) 118 = .ok (.iaload, 1) := by decide +kernel
theorem d106_119 : decode (pm_code 106) 119 = .ok (.ireturn, 1) := by decide +kernel
theorem d107_0 : decode (pm_code 107) 0 = .ok (.aload_n 0, 1) := by decide +kernel
theorem d107_1 : decode (pm_code 107) 1 = .ok (.getfield 15, 3) := by decide +kernel
theorem d107_4 : decode (pm_code 107) 4 = .ok (.getfield 66, 3) := by decide +kernel
theorem d107_7 : decode (pm_code 107) 7 = .ok (.iload_n 1, 1) := by decide +kernel
theorem d107_8 : decode (pm_code 107) 8 = .ok (.iaload, 1) := by decide +kernel
theorem d107_9 : decode (pm_code 107) 9 = .ok (.istore 4, 2) := by decide +kernel
theorem d107_11 : decode (pm_code 107) 11 = .ok (.aload_n 0, 1) := by decide +kernel
theorem d107_12 : decode (pm_code 107) 12 = .ok (.getfield 9, 3) := by decide +kernel
theorem d107_15 : decode (pm_code 107) 15 = .ok (.iload 4, 2) := by decide +kernel
theorem d107_17 : decode (pm_code 107) 17 = .ok (.iload_n 2, 1) := by decide +kernel
theorem d107_18 : decode (pm_code 107) 18 = .ok (.invokevirtual 97, 3) := by decide +kernel
theorem d107_21 : decode (pm_code 107) 21 = .ok (.ifCond .ne 5, 3) := by decide +kernel
theorem d107_24 : decode (pm_code 107) 24 = .ok (.iconst (-1), 1) := by decide +kernel
theorem d107_25 : decode (pm_code 107) 25 = .ok (.ireturn, 1) := by decide +kernel
theorem d107_26 : decode (pm_code 107) 26 = .ok (.aload_n 0, 1) := by decide +kernel
theorem d107_27 : decode (pm_code 107) 27 = .ok (.aload_n 0, 1) := by decide +kernel
theorem d107_28 : decode (pm_code 107) 28 = .ok (.getfield 15, 3) := by decide +kernel
theorem d107_31 : decode (pm_code 107) 31 = .ok (.getfield 76, 3) := by decide +kernel
theorem d107_34 : decode (pm_code 107) 34 = .ok (.iload_n 1, 1) := by decide +kernel
theorem d107_35 : decode (pm_code 107) 35 = .ok (.iaload, 1) := by decide +kernel
theorem d107_36 : decode (pm_code 107) 36 = .ok (.iload_n 2, 1) := by decide +kernel
theorem d107_37 : decode (pm_code 107) 37 = .ok (.iconst 1, 1) := by decide +kernel
theorem d107_38 : decode (pm_code 107) 38 = .ok (.iadd, 1) := by decide +kernel
theorem d107_39 : decode (pm_code 107) 39 = .ok (.iload_n 3, 1) := by decide +kernel
theorem d107_40 : decode (pm_code 107) 40 = .ok (.iconst 1, 1) := by decide +kernel
theorem d107_41 : decode (pm_code 107) 41 = .ok (.iadd, 1) := by decide +kernel
theorem d107_42 : decode (pm_code 107) 42 = .ok (.invokevirtual 79, 3) := by decide +kernel
theorem d107_45 : decode (pm_code 107) 45 = .ok (.istore 5, 2) := by decide +kernel
theorem d107_47 : decode (pm_code 107) 47 = .ok (.iload 5, 2) := by decide +kernel
theorem d107_49 : decode (pm_code 107) 49 = .ok (.iconst (-1), 1) := by decide +kernel
theorem d107_50 : decode (pm_code 107) 50 = .ok (.if_icmp .ne 7, 3) := by decide +kernel
theorem d107_53 : decode (pm_code 107) 53 = .ok (.iconst (-1), 1) := by decide +kernel
theorem d107_54 : decode (pm_code 107) 54 = .ok (.goto 17, 3) := by decide +kernel
theorem d107_57 : decode (pm_code 107) 57 = .ok (.aload_n 0, 1) := by decide +kernel
theorem d107_58 : decode (pm_code 107) 58 = .ok (.getfield 9, 3) := by decide +kernel
theorem d107_61 : decode (pm_code 107) 61 = .ok (.bipush 35, 2) := by decide +kernel
theorem d107_63 : decode (pm_code 107) 63 = .ok (.iload 4, 2) := by decide +kernel
theorem d107_65 : decode (pm_code 107) 65 = .ok (.iload 5, 2) := by decide +kernel
theorem d107_67 : decode (pm_code 107) 67 = .ok (.iconst 0, 1) := by decide +kernel
theorem d107_68 : decode (pm_code 107) 68 = .ok (.invokevirtual 82, 3) := by decide +kernel
theorem d107_71 : decode (pm_code 107) 71 = .ok (.ireturn, 1) := by decide +kernel
theorem d108_0 : decode (pm_code 108) 0 = .ok (.aload_n 0, 1) := by decide +kernel
theorem d108_1 : decode (pm_code 108) 1 = .ok (.aload_n 0, 1) := by decide +kernel
theorem d108_2 : decode (pm_code 108) 2 = .ok (.getfield 15, 3) := by decide +kernel
theorem d108_5 : decode (pm_code 108) 5 = .ok (.getfield 66, 3) := by decide +kernel
theorem d108_8 : decode (pm_code 108) 8 = .ok (.iload_n 1, 1) := by decide +kernel
theorem d108_9 : decode (pm_code 108) 9 = .ok (.iaload, 1) := by decide +kernel
theorem d108_10 : decode (pm_code 108) 10 = .ok (.iload_n 2, 1) := by decide +kernel
theorem d108_11 : decode (pm_code 108) 11 = .ok (.iload_n 3, 1) := by decide +kernel
theorem d108_12 : decode (pm_code 108) 12 = .ok (.iconst 1, 1) := by decide +kernel
theorem d108_13 : decode (pm_code 108) 13 = .ok (.iadd, 1) := by decide +kernel
theorem d108_14 : decode (pm_code 108) 14 = .ok (.invokevirtual 79, 3) := by decide +kernel
theorem d108_17 : decode (pm_code 108) 17 = .ok (.istore 4, 2) := by decide +kernel
theorem d108_19 : decode (pm_code 108) 19 = .ok (.iload 4, 2) := by decide +kernel
theorem d108_21 : decode (pm_code 108) 21 = .ok (.iconst (-1), 1) := by decide +kernel
theorem d108_22 : decode (pm_code 108) 22 = .ok (.if_icmp .ne 5, 3) := by decide +kernel
theorem d108_25 : decode (pm_code 108) 25 = .ok (.iconst (-1), 1) := by decide +kernel
theorem d108_26 : decode (pm_code 108) 26 = .ok (.ireturn, 1) := by decide +kernel
theorem d108_27 : decode (pm_code 108) 27 = .ok (.aload_n 0, 1) := by decide +kernel
theorem d108_28 : decode (pm_code 108) 28 = .ok (.getfield 15, 3) := by decide +kernel
theorem d108_31 : decode (pm_code 108) 31 = .ok (.getfield 76, 3) := by decide +kernel
theorem d108_34 : decode (pm_code 108) 34 = .ok (.iload_n 1, 1) := by decide +kernel
theorem d108_35 : decode (pm_code 108) 35 = .ok (.iaload, 1) := by decide +kernel
theorem d108_36 : decode (pm_code 108) 36 = .ok (.istore 5, 2) := by decide +kernel
theorem d108_38 : decode (pm_code 108) 38 = .ok (.aload_n 0, 1) := by decide +kernel
theorem d108_39 : decode (pm_code 108) 39 = .ok (.getfield 9, 3) := by decide +kernel
theorem d108_42 : decode (pm_code 108) 42 = .ok (.iload 4, 2) := by decide +kernel
theorem d108_44 : decode (pm_code 108) 44 = .ok (.iload_n 2, 1) := by decide +kernel
theorem d108_45 : decode (pm_code 108) 45 = .ok (.invokevirtual 85, 3) := by decide +kernel
theorem d108_48 : decode (pm_code 108) 48 = .ok (.istore 6, 2) := by decide +kernel
theorem d108_50 : decode (pm_code 108) 50 = .ok (.aload_n 0, 1) := by decide +kernel
theorem d108_51 : decode (pm_code 108) 51 = .ok (.getfield 9, 3) := by decide +kernel
theorem d108_54 : decode (pm_code 108) 54 = .ok (.getfield 88, 3) := by decide +kernel
theorem d108_57 : decode (pm_code 108) 57 = .ok (.iload 6, 2) := by decide +kernel
theorem d108_59 : decode (pm_code 108) 59 = .ok (.iaload, 1) := by decide +kernel
theorem d108_60 : decode (pm_code 108) 60 = .ok (.bipush 35, 2) := by decide +kernel
theorem d108_62 : decode (pm_code 108) 62 = .ok (.if_icmp .ne 27, 3) := by decide +kernel
theorem d108_65 : decode (pm_code 108) 65 = .ok (.aload_n 0, 1) := by decide +kernel
theorem d108_66 : decode (pm_code 108) 66 = .ok (.getfield 9, 3) := by decide +kernel
theorem d108_69 : decode (pm_code 108) 69 = .ok (.iload 5, 2) := by decide +kernel
theorem d108_71 : decode (pm_code 108) 71 = .ok (.aload_n 0, 1) := by decide +kernel
theorem d108_72 : decode (pm_code 108) 72 = .ok (.getfield 9, 3) := by decide +kernel
theorem d108_75 : decode (pm_code 108) 75 = .ok (.getfield 91, 3) := by decide +kernel
theorem d108_78 : decode (pm_code 108) 78 = .ok (.iload 6, 2) := by decide +kernel
theorem d108_80 : decode (pm_code 108) 80 = .ok (.iaload, 1) := by decide +kernel
theorem d108_81 : decode (pm_code 108) 81 = .ok (.iload_n 2, 1) := by decide +kernel
theorem d108_82 : decode (pm_code 108) 82 = .ok (.iconst 0, 1) := by decide +kernel
theorem d108_83 : decode (pm_code 108) 83 = .ok (.invokevirtual 92, 3) := by decide +kernel
theorem d108_86 : decode (pm_code 108) 86 = .ok (.ifCond .ne 5, 3) := by decide +kernel
theorem d108_89 : decode (pm_code 108) 89 = .ok (.iconst (-1), 1) := by decide +kernel
theorem d108_90 : decode (pm_code 108) 90 = .ok (.ireturn, 1) := by decide +kernel
theorem d108_91 : decode (pm_code 108) 91 = .ok (.aload_n 0, 1) := by decide +kernel
theorem d108_92 : decode (pm_code 108) 92 = .ok (.getfield 9, 3) := by decide +kernel
theorem d108_95 : decode (pm_code 108) 95 = .ok (.aload_n 0, 1) := by decide +kernel
theorem d108_96 : decode (pm_code 108) 96 = .ok (.getfield 9, 3) := by decide +kernel
theorem d108_99 : decode (pm_code 108) 99 = .ok (.getfield 96, 3) := by decide +kernel
theorem d108_102 : decode (pm_code 108) 102 = .ok (.iload 6, 2) := by decide +kernel
theorem d108_104 : decode (pm_code 108) 104 = .ok (.iaload, 1) := by decide +kernel
theorem d108_105 : decode (pm_code 108) 105 = .ok (.iload_n 2, 1) := by decide +kernel
theorem d108_106 : decode (pm_code 108) 106 = .ok (.iload 5, 2) := by decide +kernel
theorem d108_108 : decode (pm_code 108) 108 = .ok (.iconst 0, 1) := by decide +kernel
theorem d108_109 : decode (pm_code 108) 109 = .ok (.iconst 0, 1) := by decide +kernel
theorem d108_110 : decode (pm_code 108) 110 = .ok (.invokevirtual 101, 3) := by decide +kernel
theorem d108_113 : decode (pm_code 108) 113 = .ok (.ireturn, 1) := by decide +kernel
