theorem dX2_addSheet_1 : decode cX2_addSheet 1 = .ok (.getfield 56, 3) := by decide +kernel
theorem dX2_addSheet_4 : decode cX2_addSheet 4 = .ok (.bipush 6, 2) := by decide +kernel
theorem dX2_addSheet_6 : decode cX2_addSheet 6 = .ok (.if_icmp .ge 44, 3) := by decide +kernel
theorem dX2_addSheet_9 : decode cX2_addSheet 9 = .ok (.aload_n 0, 1) := by decide +kernel
theorem dX2_addSheet_10 : decode cX2_addSheet 10 = .ok (.getfield 15, 3) := by decide +kernel
theorem dX2_addSheet_13 : decode cX2_addSheet 13 = .ok (.aload_n 0, 1) := by decide +kernel
theorem dX2_addSheet_14 : decode cX2_addSheet 14 = .ok (.getfield 56, 3) := by decide +kernel
theorem dX2_addSheet_17 : decode cX2_addSheet 17 = .ok (.iload_n 1, 1) := by decide +kernel
theorem dX2_addSheet_18 : decode cX2_addSheet 18 = .ok (.iastore, 1) := by decide +kernel
theorem dX2_addSheet_19 : decode cX2_addSheet 19 = .ok (.aload_n 0, 1) := by decide +kernel
theorem dX2_addSheet_20 : decode cX2_addSheet 20 = .ok (.getfield 21, 3) := by decide +kernel
theorem dX2_addSheet_23 : decode cX2_addSheet 23 = .ok (.aload_n 0, 1) := by decide +kernel
theorem dX2_addSheet_24 : decode cX2_addSheet 24 = .ok (.getfield 56, 3) := by decide +kernel
theorem dX2_addSheet_27 : decode cX2_addSheet 27 = .ok (.iload_n 3, 1) := by decide +kernel
theorem dX2_addSheet_28 : decode cX2_addSheet 28 = .ok (.iastore, 1) := by decide +kernel
theorem dX2_addSheet_29 : decode cX2_addSheet 29 = .ok (.aload_n 0, 1) := by decide +kernel
theorem dX2_addSheet_30 : decode cX2_addSheet 30 = .ok (.aload_n 0, 1) := by decide +kernel
theorem dX2_addSheet_31 : decode cX2_addSheet 31 = .ok (.getfield 56, 3) := by decide +kernel
theorem dX2_addSheet_34 : decode cX2_addSheet 34 = .ok (.iload_n 2, 1) := by decide +kernel
theorem dX2_addSheet_35 : decode cX2_addSheet 35 = .ok (.iload 4, 2) := by decide +kernel
theorem dX2_addSheet_37 : decode cX2_addSheet 37 = .ok (.invokevirtual 74, 3) := by decide +kernel
theorem dX2_addSheet_40 : decode cX2_addSheet 40 = .ok (.aload_n 0, 1) := by decide +kernel
theorem dX2_addSheet_41 : decode cX2_addSheet 41 = .ok (.dup, 1) := by decide +kernel
theorem dX2_addSheet_42 : decode cX2_addSheet 42 = .ok (.getfield 56, 3) := by decide +kernel
theorem dX2_addSheet_45 : decode cX2_addSheet 45 = .ok (.iconst 1, 1) := by decide +kernel
theorem dX2_addSheet_46 : decode cX2_addSheet 46 = .ok (.iadd, 1) := by decide +kernel
theorem dX2_addSheet_47 : decode cX2_addSheet 47 = .ok (.putfield 56, 3) := by decide +kernel
theorem dX2_addSheet_50 : decode cX2_addSheet 50 = .ok (.return_, 1) := by decide +kernel
theorem dX2_admit_0 : decode cX2_admit 0 = .ok (.aload_n 0, 1) := by decide +kernel
theorem dX2_admit_1 : decode cX2_admit 1 = .ok (.dup, 1) := by decide +kernel
theorem dX2_admit_2 : decode cX2_admit 2 = .ok (.getfield 62, 3) := by decide +kernel
theorem dX2_admit_5 : decode cX2_admit 5 = .ok (.iconst 1, 1) := by decide +kernel
theorem dX2_admit_6 : decode cX2_admit 6 = .ok (.iload_n 1, 1) := by decide +kernel
theorem dX2_admit_7 : decode cX2_admit 7 = .ok (.ishl, 1) := by decide +kernel
theorem dX2_admit_8 : decode cX2_admit 8 = .ok (.ior, 1) := by decide +kernel
theorem dX2_admit_9 : decode cX2_admit 9 = .ok (.putfield 62, 3) := by decide +kernel
theorem dX2_admit_12 : decode cX2_admit 12 = .ok (.aload_n 0, 1) := by decide +kernel
theorem dX2_admit_13 : decode cX2_admit 13 = .ok (.getfield 18, 3) := by decide +kernel
theorem dX2_admit_16 : decode cX2_admit 16 = .ok (.iload_n 1, 1) := by decide +kernel
theorem dX2_admit_17 : decode cX2_admit 17 = .ok (.iload_n 2, 1) := by decide +kernel
theorem dX2_admit_18 : decode cX2_admit 18 = .ok (.iastore, 1) := by decide +kernel
theorem dX2_admit_19 : decode cX2_admit 19 = .ok (.aload_n 0, 1) := by decide +kernel
theorem dX2_admit_20 : decode cX2_admit 20 = .ok (.getfield 24, 3) := by decide +kernel
theorem dX2_admit_23 : decode cX2_admit 23 = .ok (.iload_n 1, 1) := by decide +kernel
theorem dX2_admit_24 : decode cX2_admit 24 = .ok (.iload_n 3, 1) := by decide +kernel
theorem dX2_admit_25 : decode cX2_admit 25 = .ok (.iastore, 1) := by decide +kernel
theorem dX2_admit_26 : decode cX2_admit 26 = .ok (.return_, 1) := by decide +kernel
theorem dX2_isSheet_0 : decode cX2_isSheet 0 = .ok (.iload_n 1, 1) := by decide +kernel
theorem dX2_isSheet_1 : decode cX2_isSheet 1 = .ok (.ifCond .lt 15, 3) := by decide +kernel
theorem dX2_isSheet_4 : decode cX2_isSheet 4 = .ok (.iload_n 1, 1) := by decide +kernel
theorem dX2_isSheet_5 : decode cX2_isSheet 5 = .ok (.aload_n 0, 1) := by decide +kernel
theorem dX2_isSheet_6 : decode cX2_isSheet 6 = .ok (.getfield 56, 3) := by decide +kernel
theorem dX2_isSheet_9 : decode cX2_isSheet 9 = .ok (.if_icmp .ge 7, 3) := by decide +kernel
theorem dX2_isSheet_12 : decode cX2_isSheet 12 = .ok (.iconst 1, 1) := by decide +kernel
theorem dX2_isSheet_13 : decode cX2_isSheet 13 = .ok (.goto 4, 3) := by decide +kernel
theorem dX2_isSheet_16 : decode cX2_isSheet 16 = .ok (.iconst 0, 1) := by decide +kernel
theorem dX2_isSheet_17 : decode cX2_isSheet 17 = .ok (.ireturn, 1) := by decide +kernel
theorem dX2_isWind_0 : decode cX2_isWind 0 = .ok (.iload_n 1, 1) := by decide +kernel
theorem dX2_isWind_1 : decode cX2_isWind 1 = .ok (.ifCond .lt 15, 3) := by decide +kernel
theorem dX2_isWind_4 : decode cX2_isWind 4 = .ok (.iload_n 1, 1) := by decide +kernel
theorem dX2_isWind_5 : decode cX2_isWind 5 = .ok (.aload_n 0, 1) := by decide +kernel
theorem dX2_isWind_6 : decode cX2_isWind 6 = .ok (.getfield 53, 3) := by decide +kernel
theorem dX2_isWind_9 : decode cX2_isWind 9 = .ok (.if_icmp .ge 7, 3) := by decide +kernel
theorem dX2_isWind_12 : decode cX2_isWind 12 = .ok (.iconst 1, 1) := by decide +kernel
theorem dX2_isWind_13 : decode cX2_isWind 13 = .ok (.goto 4, 3) := by decide +kernel
theorem dX2_isWind_16 : decode cX2_isWind 16 = .ok (.iconst 0, 1) := by decide +kernel
theorem dX2_isWind_17 : decode cX2_isWind 17 = .ok (.ireturn, 1) := by decide +kernel
theorem dX2_isCell_0 : decode cX2_isCell 0 = .ok (.iload_n 1, 1) := by decide +kernel
theorem dX2_isCell_1 : decode cX2_isCell 1 = .ok (.ifCond .lt 15, 3) := by decide +kernel
theorem dX2_isCell_4 : decode cX2_isCell 4 = .ok (.iload_n 1, 1) := by decide +kernel
theorem dX2_isCell_5 : decode cX2_isCell 5 = .ok (.aload_n 0, 1) := by decide +kernel
theorem dX2_isCell_6 : decode cX2_isCell 6 = .ok (.getfield 40, 3) := by decide +kernel
theorem dX2_isCell_9 : decode cX2_isCell 9 = .ok (.if_icmp .ge 7, 3) := by decide +kernel
theorem dX2_isCell_12 : decode cX2_isCell 12 = .ok (.iconst 1, 1) := by decide +kernel
theorem dX2_isCell_13 : decode cX2_isCell 13 = .ok (.goto 4, 3) := by decide +kernel
theorem dX2_isCell_16 : decode cX2_isCell 16 = .ok (.iconst 0, 1) := by decide +kernel
theorem dX2_isCell_17 : decode cX2_isCell 17 = .ok (.ireturn, 1) := by decide +kernel
theorem dX2_isIn_0 : decode cX2_isIn 0 = .ok (.aload_n 0, 1) := by decide +kernel
theorem dX2_isIn_1 : decode cX2_isIn 1 = .ok (.getfield 62, 3) := by decide +kernel
theorem dX2_isIn_4 : decode cX2_isIn 4 = .ok (.iload_n 1, 1) := by decide +kernel
theorem dX2_isIn_5 : decode cX2_isIn 5 = .ok (.ishr, 1) := by decide +kernel
theorem dX2_isIn_6 : decode cX2_isIn 6 = .ok (.iconst 1, 1) := by decide +kernel
theorem dX2_isIn_7 : decode cX2_isIn 7 = .ok (.iand, 1) := by decide +kernel
theorem dX2_isIn_8 : decode cX2_isIn 8 = .ok (.ifCond .eq 7, 3) := by decide +kernel
theorem dX2_isIn_11 : decode cX2_isIn 11 = .ok (.iconst 1, 1) := by decide +kernel
theorem dX2_isIn_12 : decode cX2_isIn 12 = .ok (.goto 4, 3) := by decide +kernel
theorem dX2_isIn_15 : decode cX2_isIn 15 = .ok (.iconst 0, 1) := by decide +kernel
theorem dX2_isIn_16 : decode cX2_isIn 16 = .ok (.ireturn, 1) := by decide +kernel
theorem dX2_windOfHour_0 : decode cX2_windOfHour 0 = .ok (.aload_n 0, 1) := by decide +kernel
theorem dX2_windOfHour_1 : decode cX2_windOfHour 1 = .ok (.getfield 53, 3) := by decide +kernel
theorem dX2_windOfHour_4 : decode cX2_windOfHour 4 = .ok (.ifCond .ne 7, 3) := by decide +kernel
theorem dX2_windOfHour_7 : decode cX2_windOfHour 7 = .ok (.iconst 0, 1) := by decide +kernel
theorem dX2_windOfHour_8 : decode cX2_windOfHour 8 = .ok (.goto 12, 3) := by decide +kernel
theorem dX2_windOfHour_11 : decode cX2_windOfHour 11 = .ok (.aload_n 0, 1) := by decide +kernel
theorem dX2_windOfHour_12 : decode cX2_windOfHour 12 = .ok (.getfield 59, 3) := by decide +kernel
theorem dX2_windOfHour_15 : decode cX2_windOfHour 15 = .ok (.aload_n 0, 1) := by decide +kernel
theorem dX2_windOfHour_16 : decode cX2_windOfHour 16 = .ok (.getfield 53, 3) := by decide +kernel
theorem dX2_windOfHour_19 : decode cX2_windOfHour 19 = .ok (.irem, 1) := by decide +kernel
theorem dX2_windOfHour_20 : decode cX2_windOfHour 20 = .ok (.ireturn, 1) := by decide +kernel
theorem dX2_gust_0 : decode cX2_gust 0 = .ok (.aload_n 0, 1) := by decide +kernel
theorem dX2_gust_1 : decode cX2_gust 1 = .ok (.getfield 9, 3) := by decide +kernel
theorem dX2_gust_4 : decode cX2_gust 4 = .ok (.aload_n 0, 1) := by decide +kernel
theorem dX2_gust_5 : decode cX2_gust 5 = .ok (.invokevirtual 78, 3) := by decide +kernel
theorem dX2_gust_8 : decode cX2_gust 8 = .ok (.iaload, 1) := by decide +kernel
theorem dX2_gust_9 : decode cX2_gust 9 = .ok (.ireturn, 1) := by decide +kernel
theorem dX2_clerkIsAwake_0 : decode cX2_clerkIsAwake 0 = .ok (.aload_n 0, 1) := by decide +kernel
theorem dX2_clerkIsAwake_1 : decode cX2_clerkIsAwake 1 = .ok (.getfield 50, 3) := by decide +kernel
theorem dX2_clerkIsAwake_4 : decode cX2_clerkIsAwake 4 = .ok (.aload_n 0, 1) := by decide +kernel
theorem dX2_clerkIsAwake_5 : decode cX2_clerkIsAwake 5 = .ok (.getfield 59, 3) := by decide +kernel
theorem dX2_clerkIsAwake_8 : decode cX2_clerkIsAwake 8 = .ok (.iconst 3, 1) := by decide +kernel
theorem dX2_clerkIsAwake_9 : decode cX2_clerkIsAwake 9 = .ok (.iand, 1) := by decide +kernel
theorem dX2_clerkIsAwake_10 : decode cX2_clerkIsAwake 10 = .ok (.ishr, 1) := by decide +kernel
theorem dX2_clerkIsAwake_11 : decode cX2_clerkIsAwake 11 = .ok (.iconst 1, 1) := by decide +kernel
theorem dX2_clerkIsAwake_12 : decode cX2_clerkIsAwake 12 = .ok (.iand, 1) := by decide +kernel
theorem dX2_clerkIsAwake_13 : decode cX2_clerkIsAwake 13 = .ok (.ifCond .eq 7, 3) := by decide +kernel
theorem dX2_clerkIsAwake_16 : decode cX2_clerkIsAwake 16 = .ok (.iconst 1, 1) := by decide +kernel
theorem dX2_clerkIsAwake_17 : decode cX2_clerkIsAwake 17 = .ok (.goto 4, 3) := by decide +kernel
theorem dX2_clerkIsAwake_20 : decode cX2_clerkIsAwake 20 = .ok (.iconst 0, 1) := by decide +kernel
theorem dX2_clerkIsAwake_21 : decode cX2_clerkIsAwake 21 = .ok (.ireturn, 1) := by decide +kernel
theorem dX2_passHour_0 : decode cX2_passHour 0 = .ok (.aload_n 0, 1) := by decide +kernel
theorem dX2_passHour_1 : decode cX2_passHour 1 = .ok (.invokevirtual 82, 3) := by decide +kernel
theorem dX2_passHour_4 : decode cX2_passHour 4 = .ok (.istore_n 1, 1) := by decide +kernel
theorem dX2_passHour_5 : decode cX2_passHour 5 = .ok (.iconst 0, 1) := by decide +kernel
theorem dX2_passHour_6 : decode cX2_passHour 6 = .ok (.istore_n 2, 1) := by decide +kernel
theorem dX2_passHour_7 : decode cX2_passHour 7 = .ok (.iload_n 2, 1) := by decide +kernel
theorem dX2_passHour_8 : decode cX2_passHour 8 = .ok (.aload_n 0, 1) := by decide +kernel
theorem dX2_passHour_9 : decode cX2_passHour 9 = .ok (.getfield 56, 3) := by decide +kernel
theorem dX2_passHour_12 : decode cX2_passHour 12 = .ok (.if_icmp .ge 23, 3) := by decide +kernel
theorem dX2_passHour_15 : decode cX2_passHour 15 = .ok (.aload_n 0, 1) := by decide +kernel
theorem dX2_passHour_16 : decode cX2_passHour 16 = .ok (.iload_n 2, 1) := by decide +kernel
theorem dX2_passHour_17 : decode cX2_passHour 17 = .ok (.invokevirtual 85, 3) := by decide +kernel
theorem dX2_passHour_20 : decode cX2_passHour 20 = .ok (.ifCond .eq 9, 3) := by decide +kernel
theorem dX2_passHour_23 : decode cX2_passHour 23 = .ok (.aload_n 0, 1) := by decide +kernel
theorem dX2_passHour_24 : decode cX2_passHour 24 = .ok (.iload_n 2, 1) := by decide +kernel
theorem dX2_passHour_25 : decode cX2_passHour 25 = .ok (.iload_n 1, 1) := by decide +kernel
theorem dX2_passHour_26 : decode cX2_passHour 26 = .ok (.invokevirtual 89, 3) := by decide +kernel
theorem dX2_passHour_29 : decode cX2_passHour 29 = .ok (.iinc 2 1, 3) := by decide +kernel
theorem dX2_passHour_32 : decode cX2_passHour 32 = .ok (.goto (-25), 3) := by decide +kernel
theorem dX2_passHour_35 : decode cX2_passHour 35 = .ok (.aload_n 0, 1) := by decide +kernel
theorem dX2_passHour_36 : decode cX2_passHour 36 = .ok (.invokevirtual 93, 3) := by decide +kernel
theorem dX2_passHour_39 : decode cX2_passHour 39 = .ok (.ifCond .eq 7, 3) := by decide +kernel
theorem dX2_passHour_42 : decode cX2_passHour 42 = .ok (.aload_n 0, 1) := by decide +kernel
theorem dX2_passHour_43 : decode cX2_passHour 43 = .ok (.invokevirtual 97, 3) := by decide +kernel
theorem dX2_passHour_46 : decode cX2_passHour 46 = .ok (.aload_n 0, 1) := by decide +kernel
theorem dX2_passHour_47 : decode cX2_passHour 47 = .ok (.dup, 1) := by decide +kernel
theorem dX2_passHour_48 : decode cX2_passHour 48 = .ok (.getfield 59, 3) := by decide +kernel
theorem dX2_passHour_51 : decode cX2_passHour 51 = .ok (.iconst 1, 1) := by decide +kernel
theorem dX2_passHour_52 : decode cX2_passHour 52 = .ok (.iadd, 1) := by decide +kernel
theorem dX2_passHour_53 : decode cX2_passHour 53 = .ok (.putfield 59, 3) := by decide +kernel
theorem dX2_passHour_56 : decode cX2_passHour 56 = .ok (.return_, 1) := by decide +kernel
theorem dX2_drift_0 : decode cX2_drift 0 = .ok (.aload_n 0, 1) := by decide +kernel
theorem dX2_drift_1 : decode cX2_drift 1 = .ok (.getfield 18, 3) := by decide +kernel
theorem dX2_drift_4 : decode cX2_drift 4 = .ok (.iload_n 1, 1) := by decide +kernel
theorem dX2_drift_5 : decode cX2_drift 5 = .ok (.iaload, 1) := by decide +kernel
theorem dX2_drift_6 : decode cX2_drift 6 = .ok (.aload_n 0, 1) := by decide +kernel
theorem dX2_drift_7 : decode cX2_drift 7 = .ok (.getfield 15, 3) := by decide +kernel
theorem dX2_drift_10 : decode cX2_drift 10 = .ok (.iload_n 1, 1) := by decide +kernel
theorem dX2_drift_11 : decode cX2_drift 11 = .ok (.iaload, 1) := by decide +kernel
theorem dX2_drift_12 : decode cX2_drift 12 = .ok (.iload_n 2, 1) := by decide +kernel
theorem dX2_drift_13 : decode cX2_drift 13 = .ok (.iconst 2, 1) := by decide +kernel
theorem dX2_drift_14 : decode cX2_drift 14 = .ok (.isub, 1) := by decide +kernel
theorem dX2_drift_15 : decode cX2_drift 15 = .ok (.invokestatic 100, 3) := by decide +kernel
theorem dX2_drift_18 : decode cX2_drift 18 = .ok (.iadd, 1) := by decide +kernel
theorem dX2_drift_19 : decode cX2_drift 19 = .ok (.istore_n 3, 1) := by decide +kernel
theorem dX2_drift_20 : decode cX2_drift 20 = .ok (.aload_n 0, 1) := by decide +kernel
theorem dX2_drift_21 : decode cX2_drift 21 = .ok (.getfield 24, 3) := by decide +kernel
theorem dX2_drift_24 : decode cX2_drift 24 = .ok (.iload_n 1, 1) := by decide +kernel
theorem dX2_drift_25 : decode cX2_drift 25 = .ok (.iaload, 1) := by decide +kernel
theorem dX2_drift_26 : decode cX2_drift 26 = .ok (.aload_n 0, 1) := by decide +kernel
theorem dX2_drift_27 : decode cX2_drift 27 = .ok (.aload_n 0, 1) := by decide +kernel
theorem dX2_drift_28 : decode cX2_drift 28 = .ok (.getfield 15, 3) := by decide +kernel
theorem dX2_drift_31 : decode cX2_drift 31 = .ok (.iload_n 1, 1) := by decide +kernel
theorem dX2_drift_32 : decode cX2_drift 32 = .ok (.iaload, 1) := by decide +kernel
theorem dX2_drift_33 : decode cX2_drift 33 = .ok (.iload_n 2, 1) := by decide +kernel
theorem dX2_drift_34 : decode cX2_drift 34 = .ok (.iconst 2, 1) := by decide +kernel
theorem dX2_drift_35 : decode cX2_drift 35 = .ok (.if_icmp .ne 7, 3) := by decide +kernel
theorem dX2_drift_38 : decode cX2_drift 38 = .ok (.iconst 1, 1) := by decide +kernel
theorem dX2_drift_39 : decode cX2_drift 39 = .ok (.goto 4, 3) := by decide +kernel
theorem dX2_drift_42 : decode cX2_drift 42 = .ok (.iconst 0, 1) := by decide +kernel
theorem dX2_drift_43 : decode cX2_drift 43 = .ok (.invokevirtual 104, 3) := by decide +kernel
theorem dX2_drift_46 : decode cX2_drift 46 = .ok (.iadd, 1) := by decide +kernel
theorem dX2_drift_47 : decode cX2_drift 47 = .ok (.istore 4, 2) := by decide +kernel
theorem dX2_drift_49 : decode cX2_drift 49 = .ok (.iload 4, 2) := by decide +kernel
theorem dX2_drift_51 : decode cX2_drift 51 = .ok (.ifCond .le 22, 3) := by decide +kernel
theorem dX2_drift_54 : decode cX2_drift 54 = .ok (.iload_n 3, 1) := by decide +kernel
theorem dX2_drift_55 : decode cX2_drift 55 = .ok (.aload_n 0, 1) := by decide +kernel
theorem dX2_drift_56 : decode cX2_drift 56 = .ok (.getfield 40, 3) := by decide +kernel
theorem dX2_drift_59 : decode cX2_drift 59 = .ok (.if_icmp .ge 14, 3) := by decide +kernel
theorem dX2_drift_62 : decode cX2_drift 62 = .ok (.iload_n 3, 1) := by decide +kernel
theorem dX2_drift_63 : decode cX2_drift 63 = .ok (.aload_n 0, 1) := by decide +kernel
theorem dX2_drift_64 : decode cX2_drift 64 = .ok (.getfield 21, 3) := by decide +kernel
theorem dX2_drift_67 : decode cX2_drift 67 = .ok (.iload_n 1, 1) := by decide +kernel
theorem dX2_drift_68 : decode cX2_drift 68 = .ok (.iaload, 1) := by decide +kernel
theorem dX2_drift_69 : decode cX2_drift 69 = .ok (.iadd, 1) := by decide +kernel
theorem dX2_drift_70 : decode cX2_drift 70 = .ok (.ifCond .gt 18, 3) := by decide +kernel
theorem dX2_drift_73 : decode cX2_drift 73 = .ok (.aload_n 0, 1) := by decide +kernel
theorem dX2_drift_74 : decode cX2_drift 74 = .ok (.dup, 1) := by decide +kernel
theorem dX2_drift_75 : decode cX2_drift 75 = .ok (.getfield 62, 3) := by decide +kernel
theorem dX2_drift_78 : decode cX2_drift 78 = .ok (.iconst 1, 1) := by decide +kernel
theorem dX2_drift_79 : decode cX2_drift 79 = .ok (.iload_n 1, 1) := by decide +kernel
theorem dX2_drift_80 : decode cX2_drift 80 = .ok (.ishl, 1) := by decide +kernel
theorem dX2_drift_81 : decode cX2_drift 81 = .ok (.iconst (-1), 1) := by decide +kernel
theorem dX2_drift_82 : decode cX2_drift 82 = .ok (.ixor, 1) := by decide +kernel
theorem dX2_drift_83 : decode cX2_drift 83 = .ok (.iand, 1) := by decide +kernel
theorem dX2_drift_84 : decode cX2_drift 84 = .ok (.putfield 62, 3) := by decide +kernel
theorem dX2_drift_87 : decode cX2_drift 87 = .ok (.return_, 1) := by decide +kernel
theorem dX2_drift_88 : decode cX2_drift 88 = .ok (.aload_n 0, 1) := by decide +kernel
theorem dX2_drift_89 : decode cX2_drift 89 = .ok (.getfield 18, 3) := by decide +kernel
theorem dX2_drift_92 : decode cX2_drift 92 = .ok (.iload_n 1, 1) := by decide +kernel
theorem dX2_drift_93 : decode cX2_drift 93 = .ok (.iload_n 3, 1) := by decide +kernel
theorem dX2_drift_94 : decode cX2_drift 94 = .ok (.iastore, 1) := by decide +kernel
theorem dX2_drift_95 : decode cX2_drift 95 = .ok (.aload_n 0, 1) := by decide +kernel
theorem dX2_drift_96 : decode cX2_drift 96 = .ok (.getfield 24, 3) := by decide +kernel
theorem dX2_drift_99 : decode cX2_drift 99 = .ok (.iload_n 1, 1) := by decide +kernel
theorem dX2_drift_100 : decode cX2_drift 100 = .ok (.iload 4, 2) := by decide +kernel
theorem dX2_drift_102 : decode cX2_drift 102 = .ok (.bipush 9, 2) := by decide +kernel
theorem dX2_drift_104 : decode cX2_drift 104 = .ok (.invokestatic 108, 3) := by decide +kernel
theorem dX2_drift_107 : decode cX2_drift 107 = .ok (.iastore, 1) := by decide +kernel
theorem dX2_drift_108 : decode cX2_drift 108 = .ok (.return_, 1) := by decide +kernel
theorem dX2_cellsDrifted_0 : decode cX2_cellsDrifted 0 = .ok (.iload_n 0, 1) := by decide +kernel
theorem dX2_cellsDrifted_1 : decode cX2_cellsDrifted 1 = .ok (.tableswitch 43 2 5 #[31, 35, 39, 41], 31) := by decide +kernel
theorem dX2_cellsDrifted_32 : decode cX2_cellsDrifted 32 = .ok (.iload_n 1, 1) := by decide +kernel
theorem dX2_cellsDrifted_33 : decode cX2_cellsDrifted 33 = .ok (.iconst 2, 1) := by decide +kernel
theorem dX2_cellsDrifted_34 : decode cX2_cellsDrifted 34 = .ok (.idiv, 1) := by decide +kernel
theorem dX2_cellsDrifted_35 : decode cX2_cellsDrifted 35 = .ok (.ireturn, 1) := by decide +kernel
theorem dX2_cellsDrifted_36 : decode cX2_cellsDrifted 36 = .ok (.iload_n 1, 1) := by decide +kernel
theorem dX2_cellsDrifted_37 : decode cX2_cellsDrifted 37 = .ok (.iconst 2, 1) := by decide +kernel
theorem dX2_cellsDrifted_38 : decode cX2_cellsDrifted 38 = .ok (.imul, 1) := by decide +kernel
theorem dX2_cellsDrifted_39 : decode cX2_cellsDrifted 39 = .ok (.ireturn, 1) := by decide +kernel
theorem dX2_cellsDrifted_40 : decode cX2_cellsDrifted 40 = .ok (.iconst (-1), 1) := by decide +kernel
theorem dX2_cellsDrifted_41 : decode cX2_cellsDrifted 41 = .ok (.ireturn, 1) := by decide +kernel
theorem dX2_cellsDrifted_42 : decode cX2_cellsDrifted 42 = .ok (.iconst 0, 1) := by decide +kernel
theorem dX2_cellsDrifted_43 : decode cX2_cellsDrifted 43 = .ok (.ireturn, 1) := by decide +kernel
theorem dX2_cellsDrifted_44 : decode cX2_cellsDrifted 44 = .ok (.iload_n 1, 1) := by decide +kernel
theorem dX2_cellsDrifted_45 : decode cX2_cellsDrifted 45 = .ok (.ireturn, 1) := by decide +kernel
theorem dX2_thickened_0 : decode cX2_thickened 0 = .ok (.aload_n 0, 1) := by decide +kernel
theorem dX2_thickened_1 : decode cX2_thickened 1 = .ok (.getfield 59, 3) := by decide +kernel
theorem dX2_thickened_4 : decode cX2_thickened 4 = .ok (.iconst 2, 1) := by decide +kernel
theorem dX2_thickened_5 : decode cX2_thickened 5 = .ok (.irem, 1) := by decide +kernel
theorem dX2_thickened_6 : decode cX2_thickened 6 = .ok (.ifCond .ne 7, 3) := by decide +kernel
theorem dX2_thickened_9 : decode cX2_thickened 9 = .ok (.iconst 0, 1) := by decide +kernel
theorem dX2_thickened_10 : decode cX2_thickened 10 = .ok (.goto 4, 3) := by decide +kernel
theorem dX2_thickened_13 : decode cX2_thickened 13 = .ok (.iconst (-1), 1) := by decide +kernel
theorem dX2_thickened_14 : decode cX2_thickened 14 = .ok (.istore_n 3, 1) := by decide +kernel
theorem dX2_thickened_15 : decode cX2_thickened 15 = .ok (.iload_n 1, 1) := by decide +kernel
theorem dX2_thickened_16 : decode cX2_thickened 16 = .ok (.tableswitch 52 3 5 #[28, 32, 42], 28) := by decide +kernel
theorem dX2_thickened_44 : decode cX2_thickened 44 = .ok (.iload_n 3, 1) := by decide +kernel
theorem dX2_thickened_45 : decode cX2_thickened 45 = .ok (.iconst 1, 1) := by decide +kernel
theorem dX2_thickened_46 : decode cX2_thickened 46 = .ok (.isub, 1) := by decide +kernel
theorem dX2_thickened_47 : decode cX2_thickened 47 = .ok (.ireturn, 1) := by decide +kernel
theorem dX2_thickened_48 : decode cX2_thickened 48 = .ok (.iload_n 2, 1) := by decide +kernel
theorem dX2_thickened_49 : decode cX2_thickened 49 = .ok (.ifCond .eq 7, 3) := by decide +kernel
theorem dX2_thickened_52 : decode cX2_thickened 52 = .ok (.iconst 0, 1) := by decide +kernel
theorem dX2_thickened_53 : decode cX2_thickened 53 = .ok (.goto 4, 3) := by decide +kernel
theorem dX2_thickened_56 : decode cX2_thickened 56 = .ok (.iconst (-1), 1) := by decide +kernel
theorem dX2_thickened_57 : decode cX2_thickened 57 = .ok (.ireturn, 1) := by decide +kernel
theorem dX2_thickened_58 : decode cX2_thickened 58 = .ok (.iload_n 2, 1) := by decide +kernel
theorem dX2_thickened_59 : decode cX2_thickened 59 = .ok (.ifCond .eq 7, 3) := by decide +kernel
theorem dX2_thickened_62 : decode cX2_thickened 62 = .ok (.iconst 1, 1) := by decide +kernel
theorem dX2_thickened_63 : decode cX2_thickened 63 = .ok (.goto 4, 3) := by decide +kernel
theorem dX2_thickened_66 : decode cX2_thickened 66 = .ok (.iconst (-1), 1) := by decide +kernel
theorem dX2_thickened_67 : decode cX2_thickened 67 = .ok (.ireturn, 1) := by decide +kernel
theorem dX2_thickened_68 : decode cX2_thickened 68 = .ok (.iload_n 3, 1) := by decide +kernel
theorem dX2_thickened_69 : decode cX2_thickened 69 = .ok (.ireturn, 1) := by decide +kernel
theorem dX2_giveNumbers_0 : decode cX2_giveNumbers 0 = .ok (.iconst 0, 1) := by decide +kernel
theorem dX2_giveNumbers_1 : decode cX2_giveNumbers 1 = .ok (.istore_n 1, 1) := by decide +kernel
theorem dX2_giveNumbers_2 : decode cX2_giveNumbers 2 = .ok (.iload_n 1, 1) := by decide +kernel
theorem dX2_giveNumbers_3 : decode cX2_giveNumbers 3 = .ok (.aload_n 0, 1) := by decide +kernel
theorem dX2_giveNumbers_4 : decode cX2_giveNumbers 4 = .ok (.getfield 56, 3) := by decide +kernel
theorem dX2_giveNumbers_7 : decode cX2_giveNumbers 7 = .ok (.if_icmp .ge 50, 3) := by decide +kernel
theorem dX2_giveNumbers_10 : decode cX2_giveNumbers 10 = .ok (.aload_n 0, 1) := by decide +kernel
theorem dX2_giveNumbers_11 : decode cX2_giveNumbers 11 = .ok (.getfield 27, 3) := by decide +kernel
theorem dX2_giveNumbers_14 : decode cX2_giveNumbers 14 = .ok (.iload_n 1, 1) := by decide +kernel
theorem dX2_giveNumbers_15 : decode cX2_giveNumbers 15 = .ok (.iaload, 1) := by decide +kernel
theorem dX2_giveNumbers_16 : decode cX2_giveNumbers 16 = .ok (.ifCond .ne 35, 3) := by decide +kernel
theorem dX2_giveNumbers_19 : decode cX2_giveNumbers 19 = .ok (.aload_n 0, 1) := by decide +kernel
theorem dX2_giveNumbers_20 : decode cX2_giveNumbers 20 = .ok (.iload_n 1, 1) := by decide +kernel
theorem dX2_giveNumbers_21 : decode cX2_giveNumbers 21 = .ok (.aload_n 0, 1) := by decide +kernel
theorem dX2_giveNumbers_22 : decode cX2_giveNumbers 22 = .ok (.getfield 44, 3) := by decide +kernel
theorem dX2_giveNumbers_25 : decode cX2_giveNumbers 25 = .ok (.invokevirtual 113, 3) := by decide +kernel
theorem dX2_giveNumbers_28 : decode cX2_giveNumbers 28 = .ok (.ifCond .eq 23, 3) := by decide +kernel
theorem dX2_giveNumbers_31 : decode cX2_giveNumbers 31 = .ok (.aload_n 0, 1) := by decide +kernel
theorem dX2_giveNumbers_32 : decode cX2_giveNumbers 32 = .ok (.dup, 1) := by decide +kernel
theorem dX2_giveNumbers_33 : decode cX2_giveNumbers 33 = .ok (.getfield 65, 3) := by decide +kernel
theorem dX2_giveNumbers_36 : decode cX2_giveNumbers 36 = .ok (.iconst 1, 1) := by decide +kernel
theorem dX2_giveNumbers_37 : decode cX2_giveNumbers 37 = .ok (.iadd, 1) := by decide +kernel
theorem dX2_giveNumbers_38 : decode cX2_giveNumbers 38 = .ok (.putfield 65, 3) := by decide +kernel
theorem dX2_giveNumbers_41 : decode cX2_giveNumbers 41 = .ok (.aload_n 0, 1) := by decide +kernel
theorem dX2_giveNumbers_42 : decode cX2_giveNumbers 42 = .ok (.getfield 27, 3) := by decide +kernel
theorem dX2_giveNumbers_45 : decode cX2_giveNumbers 45 = .ok (.iload_n 1, 1) := by decide +kernel
theorem dX2_giveNumbers_46 : decode cX2_giveNumbers 46 = .ok (.aload_n 0, 1) := by decide +kernel
theorem dX2_giveNumbers_47 : decode cX2_giveNumbers 47 = .ok (.getfield 65, 3) := by decide +kernel
theorem dX2_giveNumbers_50 : decode cX2_giveNumbers 50 = .ok (.iastore, 1) := by decide +kernel
theorem dX2_giveNumbers_51 : decode cX2_giveNumbers 51 = .ok (.iinc 1 1, 3) := by decide +kernel
theorem dX2_giveNumbers_54 : decode cX2_giveNumbers 54 = .ok (.goto (-52), 3) := by decide +kernel
theorem dX2_giveNumbers_57 : decode cX2_giveNumbers 57 = .ok (.return_, 1) := by decide +kernel
theorem dX2_liesOn_0 : decode cX2_liesOn 0 = .ok (.aload_n 0, 1) := by decide +kernel
theorem dX2_liesOn_1 : decode cX2_liesOn 1 = .ok (.iload_n 1, 1) := by decide +kernel
theorem dX2_liesOn_2 : decode cX2_liesOn 2 = .ok (.invokevirtual 85, 3) := by decide +kernel
theorem dX2_liesOn_5 : decode cX2_liesOn 5 = .ok (.ifCond .eq 34, 3) := by decide +kernel
theorem dX2_liesOn_8 : decode cX2_liesOn 8 = .ok (.aload_n 0, 1) := by decide +kernel
theorem dX2_liesOn_9 : decode cX2_liesOn 9 = .ok (.getfield 18, 3) := by decide +kernel
theorem dX2_liesOn_12 : decode cX2_liesOn 12 = .ok (.iload_n 1, 1) := by decide +kernel
theorem dX2_liesOn_13 : decode cX2_liesOn 13 = .ok (.iaload, 1) := by decide +kernel
theorem dX2_liesOn_14 : decode cX2_liesOn 14 = .ok (.iload_n 2, 1) := by decide +kernel
theorem dX2_liesOn_15 : decode cX2_liesOn 15 = .ok (.if_icmp .gt 24, 3) := by decide +kernel
theorem dX2_liesOn_18 : decode cX2_liesOn 18 = .ok (.iload_n 2, 1) := by decide +kernel
theorem dX2_liesOn_19 : decode cX2_liesOn 19 = .ok (.aload_n 0, 1) := by decide +kernel
theorem dX2_liesOn_20 : decode cX2_liesOn 20 = .ok (.getfield 18, 3) := by decide +kernel
theorem dX2_liesOn_23 : decode cX2_liesOn 23 = .ok (.iload_n 1, 1) := by decide +kernel
theorem dX2_liesOn_24 : decode cX2_liesOn 24 = .ok (.iaload, 1) := by decide +kernel
theorem dX2_liesOn_25 : decode cX2_liesOn 25 = .ok (.aload_n 0, 1) := by decide +kernel
theorem dX2_liesOn_26 : decode cX2_liesOn 26 = .ok (.getfield 21, 3) := by decide +kernel
theorem dX2_liesOn_29 : decode cX2_liesOn 29 = .ok (.iload_n 1, 1) := by decide +kernel
theorem dX2_liesOn_30 : decode cX2_liesOn 30 = .ok (.iaload, 1) := by decide +kernel
theorem dX2_liesOn_31 : decode cX2_liesOn 31 = .ok (.iadd, 1) := by decide +kernel
theorem dX2_liesOn_32 : decode cX2_liesOn 32 = .ok (.if_icmp .ge 7, 3) := by decide +kernel
theorem dX2_liesOn_35 : decode cX2_liesOn 35 = .ok (.iconst 1, 1) := by decide +kernel
theorem dX2_liesOn_36 : decode cX2_liesOn 36 = .ok (.goto 4, 3) := by decide +kernel
theorem dX2_liesOn_39 : decode cX2_liesOn 39 = .ok (.iconst 0, 1) := by decide +kernel
theorem dX2_liesOn_40 : decode cX2_liesOn 40 = .ok (.ireturn, 1) := by decide +kernel
theorem dX2_placeOf_0 : decode cX2_placeOf 0 = .ok (.aload_n 0, 1) := by decide +kernel
theorem dX2_placeOf_1 : decode cX2_placeOf 1 = .ok (.iload_n 1, 1) := by decide +kernel
theorem dX2_placeOf_2 : decode cX2_placeOf 2 = .ok (.invokevirtual 85, 3) := by decide +kernel
theorem dX2_placeOf_5 : decode cX2_placeOf 5 = .ok (.ifCond .eq 12, 3) := by decide +kernel
theorem dX2_placeOf_8 : decode cX2_placeOf 8 = .ok (.aload_n 0, 1) := by decide +kernel
theorem dX2_placeOf_9 : decode cX2_placeOf 9 = .ok (.getfield 18, 3) := by decide +kernel
theorem dX2_placeOf_12 : decode cX2_placeOf 12 = .ok (.iload_n 1, 1) := by decide +kernel
theorem dX2_placeOf_13 : decode cX2_placeOf 13 = .ok (.iaload, 1) := by decide +kernel
theorem dX2_placeOf_14 : decode cX2_placeOf 14 = .ok (.goto 5, 3) := by decide +kernel
theorem dX2_placeOf_17 : decode cX2_placeOf 17 = .ok (.ldc 117, 2) := by decide +kernel
theorem dX2_placeOf_19 : decode cX2_placeOf 19 = .ok (.ireturn, 1) := by decide +kernel
theorem dX2_thicknessOf_0 : decode cX2_thicknessOf 0 = .ok (.aload_n 0, 1) := by decide +kernel
theorem dX2_thicknessOf_1 : decode cX2_thicknessOf 1 = .ok (.iload_n 1, 1) := by decide +kernel
theorem dX2_thicknessOf_2 : decode cX2_thicknessOf 2 = .ok (.invokevirtual 85, 3) := by decide +kernel
theorem dX2_thicknessOf_5 : decode cX2_thicknessOf 5 = .ok (.ifCond .eq 12, 3) := by decide +kernel
theorem dX2_thicknessOf_8 : decode cX2_thicknessOf 8 = .ok (.aload_n 0, 1) := by decide +kernel
theorem dX2_thicknessOf_9 : decode cX2_thicknessOf 9 = .ok (.getfield 24, 3) := by decide +kernel
theorem dX2_thicknessOf_12 : decode cX2_thicknessOf 12 = .ok (.iload_n 1, 1) := by decide +kernel
theorem dX2_thicknessOf_13 : decode cX2_thicknessOf 13 = .ok (.iaload, 1) := by decide +kernel
theorem dX2_thicknessOf_14 : decode cX2_thicknessOf 14 = .ok (.goto 4, 3) := by decide +kernel
theorem dX2_thicknessOf_17 : decode cX2_thicknessOf 17 = .ok (.iconst 0, 1) := by decide +kernel
theorem dX2_thicknessOf_18 : decode cX2_thicknessOf 18 = .ok (.ireturn, 1) := by decide +kernel
theorem dX2_cellsUnder_0 : decode cX2_cellsUnder 0 = .ok (.iconst 0, 1) := by decide +kernel
theorem dX2_cellsUnder_1 : decode cX2_cellsUnder 1 = .ok (.istore_n 2, 1) := by decide +kernel
theorem dX2_cellsUnder_2 : decode cX2_cellsUnder 2 = .ok (.iconst 0, 1) := by decide +kernel
theorem dX2_cellsUnder_3 : decode cX2_cellsUnder 3 = .ok (.istore_n 3, 1) := by decide +kernel
theorem dX2_cellsUnder_4 : decode cX2_cellsUnder 4 = .ok (.iload_n 3, 1) := by decide +kernel
theorem dX2_cellsUnder_5 : decode cX2_cellsUnder 5 = .ok (.aload_n 0, 1) := by decide +kernel
theorem dX2_cellsUnder_6 : decode cX2_cellsUnder 6 = .ok (.getfield 40, 3) := by decide +kernel
theorem dX2_cellsUnder_9 : decode cX2_cellsUnder 9 = .ok (.if_icmp .ge 28, 3) := by decide +kernel
theorem dX2_cellsUnder_12 : decode cX2_cellsUnder 12 = .ok (.iload_n 2, 1) := by decide +kernel
theorem dX2_cellsUnder_13 : decode cX2_cellsUnder 13 = .ok (.aload_n 0, 1) := by decide +kernel
theorem dX2_cellsUnder_14 : decode cX2_cellsUnder 14 = .ok (.iload_n 1, 1) := by decide +kernel
theorem dX2_cellsUnder_15 : decode cX2_cellsUnder 15 = .ok (.iload_n 3, 1) := by decide +kernel
theorem dX2_cellsUnder_16 : decode cX2_cellsUnder 16 = .ok (.invokevirtual 113, 3) := by decide +kernel
theorem dX2_cellsUnder_19 : decode cX2_cellsUnder 19 = .ok (.ifCond .eq 9, 3) := by decide +kernel
theorem dX2_cellsUnder_22 : decode cX2_cellsUnder 22 = .ok (.iconst 1, 1) := by decide +kernel
theorem dX2_cellsUnder_23 : decode cX2_cellsUnder 23 = .ok (.iload_n 3, 1) := by decide +kernel
theorem dX2_cellsUnder_24 : decode cX2_cellsUnder 24 = .ok (.ishl, 1) := by decide +kernel
theorem dX2_cellsUnder_25 : decode cX2_cellsUnder 25 = .ok (.goto 4, 3) := by decide +kernel
theorem dX2_cellsUnder_28 : decode cX2_cellsUnder 28 = .ok (.iconst 0, 1) := by decide +kernel
theorem dX2_cellsUnder_29 : decode cX2_cellsUnder 29 = .ok (.ior, 1) := by decide +kernel
theorem dX2_cellsUnder_30 : decode cX2_cellsUnder 30 = .ok (.istore_n 2, 1) := by decide +kernel
theorem dX2_cellsUnder_31 : decode cX2_cellsUnder 31 = .ok (.iinc 3 1, 3) := by decide +kernel
theorem dX2_cellsUnder_34 : decode cX2_cellsUnder 34 = .ok (.goto (-30), 3) := by decide +kernel
theorem dX2_cellsUnder_37 : decode cX2_cellsUnder 37 = .ok (.iload_n 2, 1) := by decide +kernel
theorem dX2_cellsUnder_38 : decode cX2_cellsUnder 38 = .ok (.ireturn, 1) := by decide +kernel
theorem dX2_sheetsOn_0 : decode cX2_sheetsOn 0 = .ok (.iconst 0, 1) := by decide +kernel
theorem dX2_sheetsOn_1 : decode cX2_sheetsOn 1 = .ok (.istore_n 2, 1) := by decide +kernel
theorem dX2_sheetsOn_2 : decode cX2_sheetsOn 2 = .ok (.iconst 0, 1) := by decide +kernel
theorem dX2_sheetsOn_3 : decode cX2_sheetsOn 3 = .ok (.istore_n 3, 1) := by decide +kernel
theorem dX2_sheetsOn_4 : decode cX2_sheetsOn 4 = .ok (.iload_n 3, 1) := by decide +kernel
theorem dX2_sheetsOn_5 : decode cX2_sheetsOn 5 = .ok (.aload_n 0, 1) := by decide +kernel
theorem dX2_sheetsOn_6 : decode cX2_sheetsOn 6 = .ok (.getfield 56, 3) := by decide +kernel
theorem dX2_sheetsOn_9 : decode cX2_sheetsOn 9 = .ok (.if_icmp .ge 28, 3) := by decide +kernel
theorem dX2_sheetsOn_12 : decode cX2_sheetsOn 12 = .ok (.iload_n 2, 1) := by decide +kernel
theorem dX2_sheetsOn_13 : decode cX2_sheetsOn 13 = .ok (.aload_n 0, 1) := by decide +kernel
theorem dX2_sheetsOn_14 : decode cX2_sheetsOn 14 = .ok (.iload_n 3, 1) := by decide +kernel
theorem dX2_sheetsOn_15 : decode cX2_sheetsOn 15 = .ok (.iload_n 1, 1) := by decide +kernel
theorem dX2_sheetsOn_16 : decode cX2_sheetsOn 16 = .ok (.invokevirtual 113, 3) := by decide +kernel
theorem dX2_sheetsOn_19 : decode cX2_sheetsOn 19 = .ok (.ifCond .eq 9, 3) := by decide +kernel
theorem dX2_sheetsOn_22 : decode cX2_sheetsOn 22 = .ok (.iconst 1, 1) := by decide +kernel
theorem dX2_sheetsOn_23 : decode cX2_sheetsOn 23 = .ok (.iload_n 3, 1) := by decide +kernel
theorem dX2_sheetsOn_24 : decode cX2_sheetsOn 24 = .ok (.ishl, 1) := by decide +kernel
theorem dX2_sheetsOn_25 : decode cX2_sheetsOn 25 = .ok (.goto 4, 3) := by decide +kernel
theorem dX2_sheetsOn_28 : decode cX2_sheetsOn 28 = .ok (.iconst 0, 1) := by decide +kernel
theorem dX2_sheetsOn_29 : decode cX2_sheetsOn 29 = .ok (.ior, 1) := by decide +kernel
theorem dX2_sheetsOn_30 : decode cX2_sheetsOn 30 = .ok (.istore_n 2, 1) := by decide +kernel
theorem dX2_sheetsOn_31 : decode cX2_sheetsOn 31 = .ok (.iinc 3 1, 3) := by decide +kernel
theorem dX2_sheetsOn_34 : decode cX2_sheetsOn 34 = .ok (.goto (-30), 3) := by decide +kernel
theorem dX2_sheetsOn_37 : decode cX2_sheetsOn 37 = .ok (.iload_n 2, 1) := by decide +kernel
theorem dX2_sheetsOn_38 : decode cX2_sheetsOn 38 = .ok (.ireturn, 1) := by decide +kernel
theorem dX2_thicknessOver_0 : decode cX2_thicknessOver 0 = .ok (.iconst 0, 1) := by decide +kernel
theorem dX2_thicknessOver_1 : decode cX2_thicknessOver 1 = .ok (.istore_n 2, 1) := by decide +kernel
theorem dX2_thicknessOver_2 : decode cX2_thicknessOver 2 = .ok (.iconst 0, 1) := by decide +kernel
theorem dX2_thicknessOver_3 : decode cX2_thicknessOver 3 = .ok (.istore_n 3, 1) := by decide +kernel
theorem dX2_thicknessOver_4 : decode cX2_thicknessOver 4 = .ok (.iload_n 3, 1) := by decide +kernel
theorem dX2_thicknessOver_5 : decode cX2_thicknessOver 5 = .ok (.aload_n 0, 1) := by decide +kernel
theorem dX2_thicknessOver_6 : decode cX2_thicknessOver 6 = .ok (.getfield 56, 3) := by decide +kernel
theorem dX2_thicknessOver_9 : decode cX2_thicknessOver 9 = .ok (.if_icmp .ge 31, 3) := by decide +kernel
theorem dX2_thicknessOver_12 : decode cX2_thicknessOver 12 = .ok (.iload_n 2, 1) := by decide +kernel
theorem dX2_thicknessOver_13 : decode cX2_thicknessOver 13 = .ok (.aload_n 0, 1) := by decide +kernel
theorem dX2_thicknessOver_14 : decode cX2_thicknessOver 14 = .ok (.iload_n 3, 1) := by decide +kernel
theorem dX2_thicknessOver_15 : decode cX2_thicknessOver 15 = .ok (.iload_n 1, 1) := by decide +kernel
theorem dX2_thicknessOver_16 : decode cX2_thicknessOver 16 = .ok (.invokevirtual 113, 3) := by decide +kernel
theorem dX2_thicknessOver_19 : decode cX2_thicknessOver 19 = .ok (.ifCond .eq 12, 3) := by decide +kernel
theorem dX2_thicknessOver_22 : decode cX2_thicknessOver 22 = .ok (.aload_n 0, 1) := by decide +kernel
theorem dX2_thicknessOver_23 : decode cX2_thicknessOver 23 = .ok (.getfield 24, 3) := by decide +kernel
theorem dX2_thicknessOver_26 : decode cX2_thicknessOver 26 = .ok (.iload_n 3, 1) := by decide +kernel
theorem dX2_thicknessOver_27 : decode cX2_thicknessOver 27 = .ok (.iaload, 1) := by decide +kernel
theorem dX2_thicknessOver_28 : decode cX2_thicknessOver 28 = .ok (.goto 4, 3) := by decide +kernel
theorem dX2_thicknessOver_31 : decode cX2_thicknessOver 31 = .ok (.iconst 0, 1) := by decide +kernel
theorem dX2_thicknessOver_32 : decode cX2_thicknessOver 32 = .ok (.iadd, 1) := by decide +kernel
theorem dX2_thicknessOver_33 : decode cX2_thicknessOver 33 = .ok (.istore_n 2, 1) := by decide +kernel
theorem dX2_thicknessOver_34 : decode cX2_thicknessOver 34 = .ok (.iinc 3 1, 3) := by decide +kernel
theorem dX2_thicknessOver_37 : decode cX2_thicknessOver 37 = .ok (.goto (-33), 3) := by decide +kernel
theorem dX2_thicknessOver_40 : decode cX2_thicknessOver 40 = .ok (.iload_n 2, 1) := by decide +kernel
theorem dX2_thicknessOver_41 : decode cX2_thicknessOver 41 = .ok (.ireturn, 1) := by decide +kernel
theorem dX2_withNumber_0 : decode cX2_withNumber 0 = .ok (.iconst 0, 1) := by decide +kernel
theorem dX2_withNumber_1 : decode cX2_withNumber 1 = .ok (.istore_n 1, 1) := by decide +kernel
theorem dX2_withNumber_2 : decode cX2_withNumber 2 = .ok (.iconst 0, 1) := by decide +kernel
theorem dX2_withNumber_3 : decode cX2_withNumber 3 = .ok (.istore_n 2, 1) := by decide +kernel
theorem dX2_withNumber_4 : decode cX2_withNumber 4 = .ok (.iload_n 2, 1) := by decide +kernel
theorem dX2_withNumber_5 : decode cX2_withNumber 5 = .ok (.aload_n 0, 1) := by decide +kernel
theorem dX2_withNumber_6 : decode cX2_withNumber 6 = .ok (.getfield 56, 3) := by decide +kernel
theorem dX2_withNumber_9 : decode cX2_withNumber 9 = .ok (.if_icmp .ge 28, 3) := by decide +kernel
theorem dX2_withNumber_12 : decode cX2_withNumber 12 = .ok (.iload_n 1, 1) := by decide +kernel
theorem dX2_withNumber_13 : decode cX2_withNumber 13 = .ok (.aload_n 0, 1) := by decide +kernel
theorem dX2_withNumber_14 : decode cX2_withNumber 14 = .ok (.getfield 27, 3) := by decide +kernel
theorem dX2_withNumber_17 : decode cX2_withNumber 17 = .ok (.iload_n 2, 1) := by decide +kernel
theorem dX2_withNumber_18 : decode cX2_withNumber 18 = .ok (.iaload, 1) := by decide +kernel
theorem dX2_withNumber_19 : decode cX2_withNumber 19 = .ok (.ifCond .eq 9, 3) := by decide +kernel
theorem dX2_withNumber_22 : decode cX2_withNumber 22 = .ok (.iconst 1, 1) := by decide +kernel
theorem dX2_withNumber_23 : decode cX2_withNumber 23 = .ok (.iload_n 2, 1) := by decide +kernel
theorem dX2_withNumber_24 : decode cX2_withNumber 24 = .ok (.ishl, 1) := by decide +kernel
theorem dX2_withNumber_25 : decode cX2_withNumber 25 = .ok (.goto 4, 3) := by decide +kernel
theorem dX2_withNumber_28 : decode cX2_withNumber 28 = .ok (.iconst 0, 1) := by decide +kernel
theorem dX2_withNumber_29 : decode cX2_withNumber 29 = .ok (.ior, 1) := by decide +kernel
theorem dX2_withNumber_30 : decode cX2_withNumber 30 = .ok (.istore_n 1, 1) := by decide +kernel
theorem dX2_withNumber_31 : decode cX2_withNumber 31 = .ok (.iinc 2 1, 3) := by decide +kernel
theorem dX2_withNumber_34 : decode cX2_withNumber 34 = .ok (.goto (-30), 3) := by decide +kernel
theorem dX2_withNumber_37 : decode cX2_withNumber 37 = .ok (.iload_n 1, 1) := by decide +kernel
theorem dX2_withNumber_38 : decode cX2_withNumber 38 = .ok (.ireturn, 1) := by decide +kernel
theorem dX2_overlappingPair_0 : decode cX2_overlappingPair 0 = .ok (.iconst 0, 1) := by decide +kernel
theorem dX2_overlappingPair_1 : decode cX2_overlappingPair 1 = .ok (.istore_n 1, 1) := by decide +kernel
theorem dX2_overlappingPair_2 : decode cX2_overlappingPair 2 = .ok (.iload_n 1, 1) := by decide +kernel
theorem dX2_overlappingPair_3 : decode cX2_overlappingPair 3 = .ok (.aload_n 0, 1) := by decide +kernel
theorem dX2_overlappingPair_4 : decode cX2_overlappingPair 4 = .ok (.getfield 56, 3) := by decide +kernel
theorem dX2_overlappingPair_7 : decode cX2_overlappingPair 7 = .ok (.if_icmp .ge 50, 3) := by decide +kernel
theorem dX2_overlappingPair_10 : decode cX2_overlappingPair 10 = .ok (.aload_n 0, 1) := by decide +kernel
theorem dX2_overlappingPair_11 : decode cX2_overlappingPair 11 = .ok (.iload_n 1, 1) := by decide +kernel
theorem dX2_overlappingPair_12 : decode cX2_overlappingPair 12 = .ok (.invokevirtual 118, 3) := by decide +kernel
theorem dX2_overlappingPair_15 : decode cX2_overlappingPair 15 = .ok (.istore_n 2, 1) := by decide +kernel
theorem dX2_overlappingPair_16 : decode cX2_overlappingPair 16 = .ok (.iload_n 1, 1) := by decide +kernel
theorem dX2_overlappingPair_17 : decode cX2_overlappingPair 17 = .ok (.iconst 1, 1) := by decide +kernel
theorem dX2_overlappingPair_18 : decode cX2_overlappingPair 18 = .ok (.iadd, 1) := by decide +kernel
theorem dX2_overlappingPair_19 : decode cX2_overlappingPair 19 = .ok (.istore_n 3, 1) := by decide +kernel
theorem dX2_overlappingPair_20 : decode cX2_overlappingPair 20 = .ok (.iload_n 3, 1) := by decide +kernel
theorem dX2_overlappingPair_21 : decode cX2_overlappingPair 21 = .ok (.aload_n 0, 1) := by decide +kernel
theorem dX2_overlappingPair_22 : decode cX2_overlappingPair 22 = .ok (.getfield 56, 3) := by decide +kernel
theorem dX2_overlappingPair_25 : decode cX2_overlappingPair 25 = .ok (.if_icmp .ge 26, 3) := by decide +kernel
theorem dX2_overlappingPair_28 : decode cX2_overlappingPair 28 = .ok (.iload_n 2, 1) := by decide +kernel
theorem dX2_overlappingPair_29 : decode cX2_overlappingPair 29 = .ok (.aload_n 0, 1) := by decide +kernel
theorem dX2_overlappingPair_30 : decode cX2_overlappingPair 30 = .ok (.iload_n 3, 1) := by decide +kernel
theorem dX2_overlappingPair_31 : decode cX2_overlappingPair 31 = .ok (.invokevirtual 118, 3) := by decide +kernel
theorem dX2_overlappingPair_34 : decode cX2_overlappingPair 34 = .ok (.iand, 1) := by decide +kernel
theorem dX2_overlappingPair_35 : decode cX2_overlappingPair 35 = .ok (.ifCond .eq 10, 3) := by decide +kernel
theorem dX2_overlappingPair_38 : decode cX2_overlappingPair 38 = .ok (.bipush 10, 2) := by decide +kernel
theorem dX2_overlappingPair_40 : decode cX2_overlappingPair 40 = .ok (.iload_n 1, 1) := by decide +kernel
theorem dX2_overlappingPair_41 : decode cX2_overlappingPair 41 = .ok (.imul, 1) := by decide +kernel
theorem dX2_overlappingPair_42 : decode cX2_overlappingPair 42 = .ok (.iload_n 3, 1) := by decide +kernel
theorem dX2_overlappingPair_43 : decode cX2_overlappingPair 43 = .ok (.iadd, 1) := by decide +kernel
theorem dX2_overlappingPair_44 : decode cX2_overlappingPair 44 = .ok (.ireturn, 1) := by decide +kernel
theorem dX2_overlappingPair_45 : decode cX2_overlappingPair 45 = .ok (.iinc 3 1, 3) := by decide +kernel
theorem dX2_overlappingPair_48 : decode cX2_overlappingPair 48 = .ok (.goto (-28), 3) := by decide +kernel
theorem dX2_overlappingPair_51 : decode cX2_overlappingPair 51 = .ok (.iinc 1 1, 3) := by decide +kernel
theorem dX2_overlappingPair_54 : decode cX2_overlappingPair 54 = .ok (.goto (-52), 3) := by decide +kernel
theorem dX2_overlappingPair_57 : decode cX2_overlappingPair 57 = .ok (.ldc 117, 2) := by decide +kernel
theorem dX2_overlappingPair_59 : decode cX2_overlappingPair 59 = .ok (.ireturn, 1) := by decide +kernel
theorem dX2_setsAsThick_0 : decode cX2_setsAsThick 0 = .ok (.iconst 0, 1) := by decide +kernel
theorem dX2_setsAsThick_1 : decode cX2_setsAsThick 1 = .ok (.istore_n 3, 1) := by decide +kernel
theorem dX2_setsAsThick_2 : decode cX2_setsAsThick 2 = .ok (.aload_n 0, 1) := by decide +kernel
theorem dX2_setsAsThick_3 : decode cX2_setsAsThick 3 = .ok (.getfield 62, 3) := by decide +kernel
theorem dX2_setsAsThick_6 : decode cX2_setsAsThick 6 = .ok (.istore 4, 2) := by decide +kernel
theorem dX2_setsAsThick_8 : decode cX2_setsAsThick 8 = .ok (.iconst 0, 1) := by decide +kernel
theorem dX2_setsAsThick_9 : decode cX2_setsAsThick 9 = .ok (.istore 5, 2) := by decide +kernel
theorem dX2_setsAsThick_11 : decode cX2_setsAsThick 11 = .ok (.iconst 0, 1) := by decide +kernel
theorem dX2_setsAsThick_12 : decode cX2_setsAsThick 12 = .ok (.istore 6, 2) := by decide +kernel
theorem dX2_setsAsThick_14 : decode cX2_setsAsThick 14 = .ok (.iload 6, 2) := by decide +kernel
theorem dX2_setsAsThick_16 : decode cX2_setsAsThick 16 = .ok (.iconst 1, 1) := by decide +kernel
theorem dX2_setsAsThick_17 : decode cX2_setsAsThick 17 = .ok (.aload_n 0, 1) := by decide +kernel
theorem dX2_setsAsThick_18 : decode cX2_setsAsThick 18 = .ok (.getfield 56, 3) := by decide +kernel
theorem dX2_setsAsThick_21 : decode cX2_setsAsThick 21 = .ok (.ishl, 1) := by decide +kernel
theorem dX2_setsAsThick_22 : decode cX2_setsAsThick 22 = .ok (.if_icmp .ge 48, 3) := by decide +kernel
theorem dX2_setsAsThick_25 : decode cX2_setsAsThick 25 = .ok (.iload 6, 2) := by decide +kernel
theorem dX2_setsAsThick_27 : decode cX2_setsAsThick 27 = .ok (.aload_n 0, 1) := by decide +kernel
theorem dX2_setsAsThick_28 : decode cX2_setsAsThick 28 = .ok (.getfield 62, 3) := by decide +kernel
theorem dX2_setsAsThick_31 : decode cX2_setsAsThick 31 = .ok (.iconst (-1), 1) := by decide +kernel
theorem dX2_setsAsThick_32 : decode cX2_setsAsThick 32 = .ok (.ixor, 1) := by decide +kernel
theorem dX2_setsAsThick_33 : decode cX2_setsAsThick 33 = .ok (.iand, 1) := by decide +kernel
theorem dX2_setsAsThick_34 : decode cX2_setsAsThick 34 = .ok (.ifCond .ne 30, 3) := by decide +kernel
theorem dX2_setsAsThick_37 : decode cX2_setsAsThick 37 = .ok (.aload_n 0, 1) := by decide +kernel
theorem dX2_setsAsThick_38 : decode cX2_setsAsThick 38 = .ok (.iload 6, 2) := by decide +kernel
theorem dX2_setsAsThick_40 : decode cX2_setsAsThick 40 = .ok (.invokevirtual 122, 3) := by decide +kernel
theorem dX2_setsAsThick_43 : decode cX2_setsAsThick 43 = .ok (.iload_n 1, 1) := by decide +kernel
theorem dX2_setsAsThick_44 : decode cX2_setsAsThick 44 = .ok (.if_icmp .ne 20, 3) := by decide +kernel
theorem dX2_setsAsThick_47 : decode cX2_setsAsThick 47 = .ok (.iinc 3 1, 3) := by decide +kernel
theorem dX2_setsAsThick_50 : decode cX2_setsAsThick 50 = .ok (.iload 4, 2) := by decide +kernel
theorem dX2_setsAsThick_52 : decode cX2_setsAsThick 52 = .ok (.iload 6, 2) := by decide +kernel
theorem dX2_setsAsThick_54 : decode cX2_setsAsThick 54 = .ok (.iand, 1) := by decide +kernel
theorem dX2_setsAsThick_55 : decode cX2_setsAsThick 55 = .ok (.istore 4, 2) := by decide +kernel
theorem dX2_setsAsThick_57 : decode cX2_setsAsThick 57 = .ok (.iload 5, 2) := by decide +kernel
theorem dX2_setsAsThick_59 : decode cX2_setsAsThick 59 = .ok (.iload 6, 2) := by decide +kernel
theorem dX2_setsAsThick_61 : decode cX2_setsAsThick 61 = .ok (.ior, 1) := by decide +kernel
theorem dX2_setsAsThick_62 : decode cX2_setsAsThick 62 = .ok (.istore 5, 2) := by decide +kernel
theorem dX2_setsAsThick_64 : decode cX2_setsAsThick 64 = .ok (.iinc 6 1, 3) := by decide +kernel
theorem dX2_setsAsThick_67 : decode cX2_setsAsThick 67 = .ok (.goto (-53), 3) := by decide +kernel
theorem dX2_setsAsThick_70 : decode cX2_setsAsThick 70 = .ok (.iload_n 2, 1) := by decide +kernel
theorem dX2_setsAsThick_71 : decode cX2_setsAsThick 71 = .ok (.ifCond .ne 5, 3) := by decide +kernel
theorem dX2_setsAsThick_74 : decode cX2_setsAsThick 74 = .ok (.iload_n 3, 1) := by decide +kernel
theorem dX2_setsAsThick_75 : decode cX2_setsAsThick 75 = .ok (.ireturn, 1) := by decide +kernel
theorem dX2_setsAsThick_76 : decode cX2_setsAsThick 76 = .ok (.iload_n 2, 1) := by decide +kernel
theorem dX2_setsAsThick_77 : decode cX2_setsAsThick 77 = .ok (.iconst 2, 1) := by decide +kernel
theorem dX2_setsAsThick_78 : decode cX2_setsAsThick 78 = .ok (.if_icmp .ne 6, 3) := by decide +kernel
theorem dX2_setsAsThick_81 : decode cX2_setsAsThick 81 = .ok (.iload 5, 2) := by decide +kernel
theorem dX2_setsAsThick_83 : decode cX2_setsAsThick 83 = .ok (.ireturn, 1) := by decide +kernel
theorem dX2_setsAsThick_84 : decode cX2_setsAsThick 84 = .ok (.iload_n 3, 1) := by decide +kernel
theorem dX2_setsAsThick_85 : decode cX2_setsAsThick 85 = .ok (.ifCond .ne 7, 3) := by decide +kernel
theorem dX2_setsAsThick_88 : decode cX2_setsAsThick 88 = .ok (.iconst 0, 1) := by decide +kernel
theorem dX2_setsAsThick_89 : decode cX2_setsAsThick 89 = .ok (.goto 5, 3) := by decide +kernel
theorem dX2_setsAsThick_92 : decode cX2_setsAsThick 92 = .ok (.iload 4, 2) := by decide +kernel
theorem dX2_setsAsThick_94 : decode cX2_setsAsThick 94 = .ok (.ireturn, 1) := by decide +kernel
theorem dX2_thicknessOfSet_0 : decode cX2_thicknessOfSet 0 = .ok (.iconst 0, 1) := by decide +kernel
theorem dX2_thicknessOfSet_1 : decode cX2_thicknessOfSet 1 = .ok (.istore_n 2, 1) := by decide +kernel
theorem dX2_thicknessOfSet_2 : decode cX2_thicknessOfSet 2 = .ok (.iconst 0, 1) := by decide +kernel
theorem dX2_thicknessOfSet_3 : decode cX2_thicknessOfSet 3 = .ok (.istore_n 3, 1) := by decide +kernel
theorem dX2_thicknessOfSet_4 : decode cX2_thicknessOfSet 4 = .ok (.iload_n 3, 1) := by decide +kernel
theorem dX2_thicknessOfSet_5 : decode cX2_thicknessOfSet 5 = .ok (.aload_n 0, 1) := by decide +kernel
theorem dX2_thicknessOfSet_6 : decode cX2_thicknessOfSet 6 = .ok (.getfield 56, 3) := by decide +kernel
theorem dX2_thicknessOfSet_9 : decode cX2_thicknessOfSet 9 = .ok (.if_icmp .ge 30, 3) := by decide +kernel
theorem dX2_thicknessOfSet_12 : decode cX2_thicknessOfSet 12 = .ok (.iload_n 2, 1) := by decide +kernel
theorem dX2_thicknessOfSet_13 : decode cX2_thicknessOfSet 13 = .ok (.iload_n 1, 1) := by decide +kernel
theorem dX2_thicknessOfSet_14 : decode cX2_thicknessOfSet 14 = .ok (.iload_n 3, 1) := by decide +kernel
theorem dX2_thicknessOfSet_15 : decode cX2_thicknessOfSet 15 = .ok (.ishr, 1) := by decide +kernel
theorem dX2_thicknessOfSet_16 : decode cX2_thicknessOfSet 16 = .ok (.iconst 1, 1) := by decide +kernel
theorem dX2_thicknessOfSet_17 : decode cX2_thicknessOfSet 17 = .ok (.iand, 1) := by decide +kernel
theorem dX2_thicknessOfSet_18 : decode cX2_thicknessOfSet 18 = .ok (.ifCond .eq 12, 3) := by decide +kernel
theorem dX2_thicknessOfSet_21 : decode cX2_thicknessOfSet 21 = .ok (.aload_n 0, 1) := by decide +kernel
theorem dX2_thicknessOfSet_22 : decode cX2_thicknessOfSet 22 = .ok (.getfield 24, 3) := by decide +kernel
theorem dX2_thicknessOfSet_25 : decode cX2_thicknessOfSet 25 = .ok (.iload_n 3, 1) := by decide +kernel
theorem dX2_thicknessOfSet_26 : decode cX2_thicknessOfSet 26 = .ok (.iaload, 1) := by decide +kernel
theorem dX2_thicknessOfSet_27 : decode cX2_thicknessOfSet 27 = .ok (.goto 4, 3) := by decide +kernel
theorem dX2_thicknessOfSet_30 : decode cX2_thicknessOfSet 30 = .ok (.iconst 0, 1) := by decide +kernel
theorem dX2_thicknessOfSet_31 : decode cX2_thicknessOfSet 31 = .ok (.iadd, 1) := by decide +kernel
theorem dX2_thicknessOfSet_32 : decode cX2_thicknessOfSet 32 = .ok (.istore_n 2, 1) := by decide +kernel
theorem dX2_thicknessOfSet_33 : decode cX2_thicknessOfSet 33 = .ok (.iinc 3 1, 3) := by decide +kernel
theorem dX2_thicknessOfSet_36 : decode cX2_thicknessOfSet 36 = .ok (.goto (-32), 3) := by decide +kernel
theorem dX2_thicknessOfSet_39 : decode cX2_thicknessOfSet 39 = .ok (.iload_n 2, 1) := by decide +kernel
theorem dX2_thicknessOfSet_40 : decode cX2_thicknessOfSet 40 = .ok (.ireturn, 1) := by decide +kernel
theorem dX2_pailsOf_0 : decode cX2_pailsOf 0 = .ok (.iconst 0, 1) := by decide +kernel
theorem dX2_pailsOf_1 : decode cX2_pailsOf 1 = .ok (.istore_n 3, 1) := by decide +kernel
theorem dX2_pailsOf_2 : decode cX2_pailsOf 2 = .ok (.iconst 0, 1) := by decide +kernel
theorem dX2_pailsOf_3 : decode cX2_pailsOf 3 = .ok (.istore 4, 2) := by decide +kernel
theorem dX2_pailsOf_5 : decode cX2_pailsOf 5 = .ok (.iload 4, 2) := by decide +kernel
theorem dX2_pailsOf_7 : decode cX2_pailsOf 7 = .ok (.aload_n 0, 1) := by decide +kernel
theorem dX2_pailsOf_8 : decode cX2_pailsOf 8 = .ok (.getfield 56, 3) := by decide +kernel
theorem dX2_pailsOf_11 : decode cX2_pailsOf 11 = .ok (.if_icmp .ge 26, 3) := by decide +kernel
theorem dX2_pailsOf_14 : decode cX2_pailsOf 14 = .ok (.iload_n 3, 1) := by decide +kernel
theorem dX2_pailsOf_15 : decode cX2_pailsOf 15 = .ok (.aload_n 0, 1) := by decide +kernel
theorem dX2_pailsOf_16 : decode cX2_pailsOf 16 = .ok (.getfield 21, 3) := by decide +kernel
theorem dX2_pailsOf_19 : decode cX2_pailsOf 19 = .ok (.iload 4, 2) := by decide +kernel
theorem dX2_pailsOf_21 : decode cX2_pailsOf 21 = .ok (.iaload, 1) := by decide +kernel
theorem dX2_pailsOf_22 : decode cX2_pailsOf 22 = .ok (.aload_n 0, 1) := by decide +kernel
theorem dX2_pailsOf_23 : decode cX2_pailsOf 23 = .ok (.iload 4, 2) := by decide +kernel
theorem dX2_pailsOf_25 : decode cX2_pailsOf 25 = .ok (.invokevirtual 125, 3) := by decide +kernel
theorem dX2_pailsOf_28 : decode cX2_pailsOf 28 = .ok (.imul, 1) := by decide +kernel
theorem dX2_pailsOf_29 : decode cX2_pailsOf 29 = .ok (.iadd, 1) := by decide +kernel
theorem dX2_pailsOf_30 : decode cX2_pailsOf 30 = .ok (.istore_n 3, 1) := by decide +kernel
theorem dX2_pailsOf_31 : decode cX2_pailsOf 31 = .ok (.iinc 4 1, 3) := by decide +kernel
theorem dX2_pailsOf_34 : decode cX2_pailsOf 34 = .ok (.goto (-29), 3) := by decide +kernel
theorem dX2_pailsOf_37 : decode cX2_pailsOf 37 = .ok (.aload_n 0, 1) := by decide +kernel
theorem dX2_pailsOf_38 : decode cX2_pailsOf 38 = .ok (.iload_n 1, 1) := by decide +kernel
theorem dX2_pailsOf_39 : decode cX2_pailsOf 39 = .ok (.invokevirtual 85, 3) := by decide +kernel
theorem dX2_pailsOf_42 : decode cX2_pailsOf 42 = .ok (.ifCond .eq 7, 3) := by decide +kernel
theorem dX2_pailsOf_45 : decode cX2_pailsOf 45 = .ok (.iload_n 3, 1) := by decide +kernel
theorem dX2_pailsOf_46 : decode cX2_pailsOf 46 = .ok (.ifCond .gt 5, 3) := by decide +kernel
theorem dX2_pailsOf_49 : decode cX2_pailsOf 49 = .ok (.iconst 0, 1) := by decide +kernel
theorem dX2_pailsOf_50 : decode cX2_pailsOf 50 = .ok (.ireturn, 1) := by decide +kernel
theorem dX2_pailsOf_51 : decode cX2_pailsOf 51 = .ok (.iload_n 2, 1) := by decide +kernel
theorem dX2_pailsOf_52 : decode cX2_pailsOf 52 = .ok (.istore 4, 2) := by decide +kernel
theorem dX2_pailsOf_54 : decode cX2_pailsOf 54 = .ok (.iconst 0, 1) := by decide +kernel
theorem dX2_pailsOf_55 : decode cX2_pailsOf 55 = .ok (.istore 5, 2) := by decide +kernel
theorem dX2_pailsOf_57 : decode cX2_pailsOf 57 = .ok (.iconst 0, 1) := by decide +kernel
theorem dX2_pailsOf_58 : decode cX2_pailsOf 58 = .ok (.istore 6, 2) := by decide +kernel
theorem dX2_pailsOf_60 : decode cX2_pailsOf 60 = .ok (.iload 6, 2) := by decide +kernel
theorem dX2_pailsOf_62 : decode cX2_pailsOf 62 = .ok (.aload_n 0, 1) := by decide +kernel
theorem dX2_pailsOf_63 : decode cX2_pailsOf 63 = .ok (.getfield 56, 3) := by decide +kernel
theorem dX2_pailsOf_66 : decode cX2_pailsOf 66 = .ok (.if_icmp .ge 57, 3) := by decide +kernel
theorem dX2_pailsOf_69 : decode cX2_pailsOf 69 = .ok (.iload 4, 2) := by decide +kernel
theorem dX2_pailsOf_71 : decode cX2_pailsOf 71 = .ok (.iload_n 2, 1) := by decide +kernel
theorem dX2_pailsOf_72 : decode cX2_pailsOf 72 = .ok (.aload_n 0, 1) := by decide +kernel
theorem dX2_pailsOf_73 : decode cX2_pailsOf 73 = .ok (.getfield 21, 3) := by decide +kernel
theorem dX2_pailsOf_76 : decode cX2_pailsOf 76 = .ok (.iload 6, 2) := by decide +kernel
theorem dX2_pailsOf_78 : decode cX2_pailsOf 78 = .ok (.iaload, 1) := by decide +kernel
theorem dX2_pailsOf_79 : decode cX2_pailsOf 79 = .ok (.imul, 1) := by decide +kernel
theorem dX2_pailsOf_80 : decode cX2_pailsOf 80 = .ok (.aload_n 0, 1) := by decide +kernel
theorem dX2_pailsOf_81 : decode cX2_pailsOf 81 = .ok (.iload 6, 2) := by decide +kernel
theorem dX2_pailsOf_83 : decode cX2_pailsOf 83 = .ok (.invokevirtual 125, 3) := by decide +kernel
theorem dX2_pailsOf_86 : decode cX2_pailsOf 86 = .ok (.imul, 1) := by decide +kernel
theorem dX2_pailsOf_87 : decode cX2_pailsOf 87 = .ok (.iload_n 3, 1) := by decide +kernel
theorem dX2_pailsOf_88 : decode cX2_pailsOf 88 = .ok (.idiv, 1) := by decide +kernel
theorem dX2_pailsOf_89 : decode cX2_pailsOf 89 = .ok (.isub, 1) := by decide +kernel
theorem dX2_pailsOf_90 : decode cX2_pailsOf 90 = .ok (.istore 4, 2) := by decide +kernel
theorem dX2_pailsOf_92 : decode cX2_pailsOf 92 = .ok (.iload 5, 2) := by decide +kernel
theorem dX2_pailsOf_94 : decode cX2_pailsOf 94 = .ok (.iload 6, 2) := by decide +kernel
theorem dX2_pailsOf_96 : decode cX2_pailsOf 96 = .ok (.iload_n 1, 1) := by decide +kernel
theorem dX2_pailsOf_97 : decode cX2_pailsOf 97 = .ok (.if_icmp .ge 16, 3) := by decide +kernel
theorem dX2_pailsOf_100 : decode cX2_pailsOf 100 = .ok (.aload_n 0, 1) := by decide +kernel
theorem dX2_pailsOf_101 : decode cX2_pailsOf 101 = .ok (.iload 6, 2) := by decide +kernel
theorem dX2_pailsOf_103 : decode cX2_pailsOf 103 = .ok (.invokevirtual 85, 3) := by decide +kernel
theorem dX2_pailsOf_106 : decode cX2_pailsOf 106 = .ok (.ifCond .eq 7, 3) := by decide +kernel
theorem dX2_pailsOf_109 : decode cX2_pailsOf 109 = .ok (.iconst 1, 1) := by decide +kernel
theorem dX2_pailsOf_110 : decode cX2_pailsOf 110 = .ok (.goto 4, 3) := by decide +kernel
theorem dX2_pailsOf_113 : decode cX2_pailsOf 113 = .ok (.iconst 0, 1) := by decide +kernel
theorem dX2_pailsOf_114 : decode cX2_pailsOf 114 = .ok (.iadd, 1) := by decide +kernel
theorem dX2_pailsOf_115 : decode cX2_pailsOf 115 = .ok (.istore 5, 2) := by decide +kernel
theorem dX2_pailsOf_117 : decode cX2_pailsOf 117 = .ok (.iinc 6 1, 3) := by decide +kernel
theorem dX2_pailsOf_120 : decode cX2_pailsOf 120 = .ok (.goto (-60), 3) := by decide +kernel
theorem dX2_pailsOf_123 : decode cX2_pailsOf 123 = .ok (.iload_n 2, 1) := by decide +kernel
theorem dX2_pailsOf_124 : decode cX2_pailsOf 124 = .ok (.aload_n 0, 1) := by decide +kernel
theorem dX2_pailsOf_125 : decode cX2_pailsOf 125 = .ok (.getfield 21, 3) := by decide +kernel
theorem dX2_pailsOf_128 : decode cX2_pailsOf 128 = .ok (.iload_n 1, 1) := by decide +kernel
theorem dX2_pailsOf_129 : decode cX2_pailsOf 129 = .ok (.iaload, 1) := by decide +kernel
theorem dX2_pailsOf_130 : decode cX2_pailsOf 130 = .ok (.imul, 1) := by decide +kernel
theorem dX2_pailsOf_131 : decode cX2_pailsOf 131 = .ok (.aload_n 0, 1) := by decide +kernel
theorem dX2_pailsOf_132 : decode cX2_pailsOf 132 = .ok (.getfield 24, 3) := by decide +kernel
theorem dX2_pailsOf_135 : decode cX2_pailsOf 135 = .ok (.iload_n 1, 1) := by decide +kernel
theorem dX2_pailsOf_136 : decode cX2_pailsOf 136 = .ok (.iaload, 1) := by decide +kernel
theorem dX2_pailsOf_137 : decode cX2_pailsOf 137 = .ok (.imul, 1) := by decide +kernel
theorem dX2_pailsOf_138 : decode cX2_pailsOf 138 = .ok (.iload_n 3, 1) := by decide +kernel
theorem dX2_pailsOf_139 : decode cX2_pailsOf 139 = .ok (.idiv, 1) := by decide +kernel
theorem dX2_pailsOf_140 : decode cX2_pailsOf 140 = .ok (.iload 5, 2) := by decide +kernel
theorem dX2_pailsOf_142 : decode cX2_pailsOf 142 = .ok (.iload 4, 2) := by decide +kernel
theorem dX2_pailsOf_144 : decode cX2_pailsOf 144 = .ok (.if_icmp .ge 7, 3) := by decide +kernel
theorem dX2_pailsOf_147 : decode cX2_pailsOf 147 = .ok (.iconst 1, 1) := by decide +kernel
theorem dX2_pailsOf_148 : decode cX2_pailsOf 148 = .ok (.goto 4, 3) := by decide +kernel
theorem dX2_pailsOf_151 : decode cX2_pailsOf 151 = .ok (.iconst 0, 1) := by decide +kernel
theorem dX2_pailsOf_152 : decode cX2_pailsOf 152 = .ok (.iadd, 1) := by decide +kernel
theorem dX2_pailsOf_153 : decode cX2_pailsOf 153 = .ok (.ireturn, 1) := by decide +kernel
theorem dX3_init_0 : decode cX3_init 0 = .ok (.aload_n 0, 1) := by decide +kernel
theorem dX3_init_1 : decode cX3_init 1 = .ok (.invokespecial 3, 3) := by decide +kernel
theorem dX3_init_4 : decode cX3_init 4 = .ok (.aload_n 0, 1) := by decide +kernel
theorem dX3_init_5 : decode cX3_init 5 = .ok (.new 9, 3) := by decide +kernel
theorem dX3_init_8 : decode cX3_init 8 = .ok (.dup, 1) := by decide +kernel
theorem dX3_init_9 : decode cX3_init 9 = .ok (.invokespecial 11, 3) := by decide +kernel
theorem dX3_init_12 : decode cX3_init 12 = .ok (.putfield 12, 3) := by decide +kernel
theorem dX3_init_15 : decode cX3_init 15 = .ok (.aload_n 0, 1) := by decide +kernel
theorem dX3_init_16 : decode cX3_init 16 = .ok (.bipush 6, 2) := by decide +kernel
theorem dX3_init_18 : decode cX3_init 18 = .ok (.bipush 16, 2) := by decide +kernel
theorem dX3_init_20 : decode cX3_init 20 = .ok (.multianewarray 18 2, 4) := by decide +kernel
theorem dX3_init_24 : decode cX3_init 24 = .ok (.putfield 20, 3) := by decide +kernel
theorem dX3_init_27 : decode cX3_init 27 = .ok (.aload_n 0, 1) := by decide +kernel
theorem dX3_init_28 : decode cX3_init 28 = .ok (.bipush 7, 2) := by decide +kernel
theorem dX3_init_30 : decode cX3_init 30 = .ok (.bipush 16, 2) := by decide +kernel
theorem dX3_init_32 : decode cX3_init 32 = .ok (.multianewarray 18 2, 4) := by decide +kernel
theorem dX3_init_36 : decode cX3_init 36 = .ok (.putfield 23, 3) := by decide +kernel
theorem dX3_init_39 : decode cX3_init 39 = .ok (.aload_n 0, 1) := by decide +kernel
theorem dX3_init_40 : decode cX3_init 40 = .ok (.bipush 16, 2) := by decide +kernel
theorem dX3_init_42 : decode cX3_init 42 = .ok (.newarray .int, 2) := by decide +kernel
theorem dX3_init_44 : decode cX3_init 44 = .ok (.putfield 26, 3) := by decide +kernel
theorem dX3_init_47 : decode cX3_init 47 = .ok (.aload_n 0, 1) := by decide +kernel
theorem dX3_init_48 : decode cX3_init 48 = .ok (.bipush 12, 2) := by decide +kernel
theorem dX3_init_50 : decode cX3_init 50 = .ok (.newarray .int, 2) := by decide +kernel
theorem dX3_init_52 : decode cX3_init 52 = .ok (.putfield 30, 3) := by decide +kernel
theorem dX3_init_55 : decode cX3_init 55 = .ok (.return_, 1) := by decide +kernel
theorem dX3_behind_0 : decode cX3_behind 0 = .ok (.aload_n 0, 1) := by decide +kernel
theorem dX3_behind_1 : decode cX3_behind 1 = .ok (.getfield 12, 3) := by decide +kernel
theorem dX3_behind_4 : decode cX3_behind 4 = .ok (.aload_n 1, 1) := by decide +kernel
theorem dX3_behind_5 : decode cX3_behind 5 = .ok (.invokevirtual 33, 3) := by decide +kernel
theorem dX3_behind_8 : decode cX3_behind 8 = .ok (.iconst 0, 1) := by decide +kernel
theorem dX3_behind_9 : decode cX3_behind 9 = .ok (.istore_n 3, 1) := by decide +kernel
theorem dX3_behind_10 : decode cX3_behind 10 = .ok (.iload_n 3, 1) := by decide +kernel
theorem dX3_behind_11 : decode cX3_behind 11 = .ok (.iload_n 2, 1) := by decide +kernel
theorem dX3_behind_12 : decode cX3_behind 12 = .ok (.if_icmp .ge 16, 3) := by decide +kernel
theorem dX3_behind_15 : decode cX3_behind 15 = .ok (.aload_n 0, 1) := by decide +kernel
theorem dX3_behind_16 : decode cX3_behind 16 = .ok (.getfield 12, 3) := by decide +kernel
theorem dX3_behind_19 : decode cX3_behind 19 = .ok (.invokevirtual 37, 3) := by decide +kernel
theorem dX3_behind_22 : decode cX3_behind 22 = .ok (.iinc 3 1, 3) := by decide +kernel
theorem dX3_behind_25 : decode cX3_behind 25 = .ok (.goto (-15), 3) := by decide +kernel
theorem dX3_behind_28 : decode cX3_behind 28 = .ok (.aload_n 0, 1) := by decide +kernel
theorem dX3_behind_29 : decode cX3_behind 29 = .ok (.getfield 12, 3) := by decide +kernel
theorem dX3_behind_32 : decode cX3_behind 32 = .ok (.areturn, 1) := by decide +kernel
theorem dX3_firstGone_0 : decode cX3_firstGone 0 = .ok (.aload_n 0, 1) := by decide +kernel
theorem dX3_firstGone_1 : decode cX3_firstGone 1 = .ok (.getfield 12, 3) := by decide +kernel
theorem dX3_firstGone_4 : decode cX3_firstGone 4 = .ok (.aload_n 1, 1) := by decide +kernel
theorem dX3_firstGone_5 : decode cX3_firstGone 5 = .ok (.invokevirtual 33, 3) := by decide +kernel
theorem dX3_firstGone_8 : decode cX3_firstGone 8 = .ok (.iconst 0, 1) := by decide +kernel
theorem dX3_firstGone_9 : decode cX3_firstGone 9 = .ok (.istore_n 3, 1) := by decide +kernel
theorem dX3_firstGone_10 : decode cX3_firstGone 10 = .ok (.iload_n 3, 1) := by decide +kernel
theorem dX3_firstGone_11 : decode cX3_firstGone 11 = .ok (.bipush 60, 2) := by decide +kernel
theorem dX3_firstGone_13 : decode cX3_firstGone 13 = .ok (.if_icmp .gt 29, 3) := by decide +kernel
theorem dX3_firstGone_16 : decode cX3_firstGone 16 = .ok (.aload_n 0, 1) := by decide +kernel
theorem dX3_firstGone_17 : decode cX3_firstGone 17 = .ok (.getfield 12, 3) := by decide +kernel
theorem dX3_firstGone_20 : decode cX3_firstGone 20 = .ok (.iload_n 2, 1) := by decide +kernel
theorem dX3_firstGone_21 : decode cX3_firstGone 21 = .ok (.invokevirtual 40, 3) := by decide +kernel
theorem dX3_firstGone_24 : decode cX3_firstGone 24 = .ok (.ifCond .ne 5, 3) := by decide +kernel
theorem dX3_firstGone_27 : decode cX3_firstGone 27 = .ok (.iload_n 3, 1) := by decide +kernel
theorem dX3_firstGone_28 : decode cX3_firstGone 28 = .ok (.ireturn, 1) := by decide +kernel
theorem dX3_firstGone_29 : decode cX3_firstGone 29 = .ok (.aload_n 0, 1) := by decide +kernel
theorem dX3_firstGone_30 : decode cX3_firstGone 30 = .ok (.getfield 12, 3) := by decide +kernel
theorem dX3_firstGone_33 : decode cX3_firstGone 33 = .ok (.invokevirtual 37, 3) := by decide +kernel
theorem dX3_firstGone_36 : decode cX3_firstGone 36 = .ok (.iinc 3 1, 3) := by decide +kernel
theorem dX3_firstGone_39 : decode cX3_firstGone 39 = .ok (.goto (-29), 3) := by decide +kernel
theorem dX3_firstGone_42 : decode cX3_firstGone 42 = .ok (.ldc 44, 2) := by decide +kernel
theorem dX3_firstGone_44 : decode cX3_firstGone 44 = .ok (.ireturn, 1) := by decide +kernel
theorem dX3_firstNumbered_0 : decode cX3_firstNumbered 0 = .ok (.aload_n 0, 1) := by decide +kernel
theorem dX3_firstNumbered_1 : decode cX3_firstNumbered 1 = .ok (.getfield 12, 3) := by decide +kernel
theorem dX3_firstNumbered_4 : decode cX3_firstNumbered 4 = .ok (.aload_n 1, 1) := by decide +kernel
theorem dX3_firstNumbered_5 : decode cX3_firstNumbered 5 = .ok (.invokevirtual 33, 3) := by decide +kernel
theorem dX3_firstNumbered_8 : decode cX3_firstNumbered 8 = .ok (.iconst 0, 1) := by decide +kernel
theorem dX3_firstNumbered_9 : decode cX3_firstNumbered 9 = .ok (.istore_n 3, 1) := by decide +kernel
theorem dX3_firstNumbered_10 : decode cX3_firstNumbered 10 = .ok (.iload_n 3, 1) := by decide +kernel
theorem dX3_firstNumbered_11 : decode cX3_firstNumbered 11 = .ok (.bipush 60, 2) := by decide +kernel
theorem dX3_firstNumbered_13 : decode cX3_firstNumbered 13 = .ok (.if_icmp .gt 30, 3) := by decide +kernel
theorem dX3_firstNumbered_16 : decode cX3_firstNumbered 16 = .ok (.aload_n 0, 1) := by decide +kernel
theorem dX3_firstNumbered_17 : decode cX3_firstNumbered 17 = .ok (.getfield 12, 3) := by decide +kernel
theorem dX3_firstNumbered_20 : decode cX3_firstNumbered 20 = .ok (.getfield 45, 3) := by decide +kernel
theorem dX3_firstNumbered_23 : decode cX3_firstNumbered 23 = .ok (.iload_n 2, 1) := by decide +kernel
theorem dX3_firstNumbered_24 : decode cX3_firstNumbered 24 = .ok (.iaload, 1) := by decide +kernel
theorem dX3_firstNumbered_25 : decode cX3_firstNumbered 25 = .ok (.ifCond .eq 5, 3) := by decide +kernel
theorem dX3_firstNumbered_28 : decode cX3_firstNumbered 28 = .ok (.iload_n 3, 1) := by decide +kernel
theorem dX3_firstNumbered_29 : decode cX3_firstNumbered 29 = .ok (.ireturn, 1) := by decide +kernel
theorem dX3_firstNumbered_30 : decode cX3_firstNumbered 30 = .ok (.aload_n 0, 1) := by decide +kernel
theorem dX3_firstNumbered_31 : decode cX3_firstNumbered 31 = .ok (.getfield 12, 3) := by decide +kernel
theorem dX3_firstNumbered_34 : decode cX3_firstNumbered 34 = .ok (.invokevirtual 37, 3) := by decide +kernel
theorem dX3_firstNumbered_37 : decode cX3_firstNumbered 37 = .ok (.iinc 3 1, 3) := by decide +kernel
theorem dX3_firstNumbered_40 : decode cX3_firstNumbered 40 = .ok (.goto (-30), 3) := by decide +kernel
theorem dX3_firstNumbered_43 : decode cX3_firstNumbered 43 = .ok (.ldc 44, 2) := by decide +kernel
theorem dX3_firstNumbered_45 : decode cX3_firstNumbered 45 = .ok (.ireturn, 1) := by decide +kernel
theorem dX3_firstOverlap_0 : decode cX3_firstOverlap 0 = .ok (.aload_n 0, 1) := by decide +kernel
theorem dX3_firstOverlap_1 : decode cX3_firstOverlap 1 = .ok (.getfield 12, 3) := by decide +kernel
theorem dX3_firstOverlap_4 : decode cX3_firstOverlap 4 = .ok (.aload_n 1, 1) := by decide +kernel
theorem dX3_firstOverlap_5 : decode cX3_firstOverlap 5 = .ok (.invokevirtual 33, 3) := by decide +kernel
theorem dX3_firstOverlap_8 : decode cX3_firstOverlap 8 = .ok (.iconst 0, 1) := by decide +kernel
theorem dX3_firstOverlap_9 : decode cX3_firstOverlap 9 = .ok (.istore_n 3, 1) := by decide +kernel
theorem dX3_firstOverlap_10 : decode cX3_firstOverlap 10 = .ok (.iload_n 3, 1) := by decide +kernel
theorem dX3_firstOverlap_11 : decode cX3_firstOverlap 11 = .ok (.bipush 60, 2) := by decide +kernel
theorem dX3_firstOverlap_13 : decode cX3_firstOverlap 13 = .ok (.if_icmp .gt 43, 3) := by decide +kernel
theorem dX3_firstOverlap_16 : decode cX3_firstOverlap 16 = .ok (.aload_n 0, 1) := by decide +kernel
theorem dX3_firstOverlap_17 : decode cX3_firstOverlap 17 = .ok (.getfield 12, 3) := by decide +kernel
theorem dX3_firstOverlap_20 : decode cX3_firstOverlap 20 = .ok (.invokevirtual 48, 3) := by decide +kernel
theorem dX3_firstOverlap_23 : decode cX3_firstOverlap 23 = .ok (.istore 4, 2) := by decide +kernel
theorem dX3_firstOverlap_25 : decode cX3_firstOverlap 25 = .ok (.iload 4, 2) := by decide +kernel
theorem dX3_firstOverlap_27 : decode cX3_firstOverlap 27 = .ok (.ldc 44, 2) := by decide +kernel
theorem dX3_firstOverlap_29 : decode cX3_firstOverlap 29 = .ok (.if_icmp .eq 14, 3) := by decide +kernel
theorem dX3_firstOverlap_32 : decode cX3_firstOverlap 32 = .ok (.iload_n 2, 1) := by decide +kernel
theorem dX3_firstOverlap_33 : decode cX3_firstOverlap 33 = .ok (.ifCond .ne 7, 3) := by decide +kernel
theorem dX3_firstOverlap_36 : decode cX3_firstOverlap 36 = .ok (.iload_n 3, 1) := by decide +kernel
theorem dX3_firstOverlap_37 : decode cX3_firstOverlap 37 = .ok (.goto 5, 3) := by decide +kernel
theorem dX3_firstOverlap_40 : decode cX3_firstOverlap 40 = .ok (.iload 4, 2) := by decide +kernel
theorem dX3_firstOverlap_42 : decode cX3_firstOverlap 42 = .ok (.ireturn, 1) := by decide +kernel
theorem dX3_firstOverlap_43 : decode cX3_firstOverlap 43 = .ok (.aload_n 0, 1) := by decide +kernel
theorem dX3_firstOverlap_44 : decode cX3_firstOverlap 44 = .ok (.getfield 12, 3) := by decide +kernel
theorem dX3_firstOverlap_47 : decode cX3_firstOverlap 47 = .ok (.invokevirtual 37, 3) := by decide +kernel
theorem dX3_firstOverlap_50 : decode cX3_firstOverlap 50 = .ok (.iinc 3 1, 3) := by decide +kernel
theorem dX3_firstOverlap_53 : decode cX3_firstOverlap 53 = .ok (.goto (-43), 3) := by decide +kernel
theorem dX3_firstOverlap_56 : decode cX3_firstOverlap 56 = .ok (.ldc 44, 2) := by decide +kernel
theorem dX3_firstOverlap_58 : decode cX3_firstOverlap 58 = .ok (.ireturn, 1) := by decide +kernel
theorem dX3_leastSeen_0 : decode cX3_leastSeen 0 = .ok (.aload_n 0, 1) := by decide +kernel
theorem dX3_leastSeen_1 : decode cX3_leastSeen 1 = .ok (.aload_n 1, 1) := by decide +kernel
theorem dX3_leastSeen_2 : decode cX3_leastSeen 2 = .ok (.iload_n 2, 1) := by decide +kernel
theorem dX3_leastSeen_3 : decode cX3_leastSeen 3 = .ok (.invokevirtual 52, 3) := by decide +kernel
theorem dX3_leastSeen_6 : decode cX3_leastSeen 6 = .ok (.aload_n 0, 1) := by decide +kernel
theorem dX3_leastSeen_7 : decode cX3_leastSeen 7 = .ok (.getfield 23, 3) := by decide +kernel
theorem dX3_leastSeen_10 : decode cX3_leastSeen 10 = .ok (.iconst 0, 1) := by decide +kernel
theorem dX3_leastSeen_11 : decode cX3_leastSeen 11 = .ok (.aaload, 1) := by decide +kernel
theorem dX3_leastSeen_12 : decode cX3_leastSeen 12 = .ok (.aload_n 1, 1) := by decide +kernel
theorem dX3_leastSeen_13 : decode cX3_leastSeen 13 = .ok (.getfield 56, 3) := by decide +kernel
theorem dX3_leastSeen_16 : decode cX3_leastSeen 16 = .ok (.iaload, 1) := by decide +kernel
theorem dX3_leastSeen_17 : decode cX3_leastSeen 17 = .ok (.ireturn, 1) := by decide +kernel
theorem dX3_leastSeenCell_0 : decode cX3_leastSeenCell 0 = .ok (.aload_n 0, 1) := by decide +kernel
theorem dX3_leastSeenCell_1 : decode cX3_leastSeenCell 1 = .ok (.aload_n 1, 1) := by decide +kernel
theorem dX3_leastSeenCell_2 : decode cX3_leastSeenCell 2 = .ok (.iload_n 2, 1) := by decide +kernel
theorem dX3_leastSeenCell_3 : decode cX3_leastSeenCell 3 = .ok (.invokevirtual 52, 3) := by decide +kernel
theorem dX3_leastSeenCell_6 : decode cX3_leastSeenCell 6 = .ok (.aload_n 1, 1) := by decide +kernel
theorem dX3_leastSeenCell_7 : decode cX3_leastSeenCell 7 = .ok (.getfield 56, 3) := by decide +kernel
theorem dX3_leastSeenCell_10 : decode cX3_leastSeenCell 10 = .ok (.istore 4, 2) := by decide +kernel
theorem dX3_leastSeenCell_12 : decode cX3_leastSeenCell 12 = .ok (.iconst 0, 1) := by decide +kernel
theorem dX3_leastSeenCell_13 : decode cX3_leastSeenCell 13 = .ok (.istore 5, 2) := by decide +kernel
theorem dX3_leastSeenCell_15 : decode cX3_leastSeenCell 15 = .ok (.iload 5, 2) := by decide +kernel
theorem dX3_leastSeenCell_17 : decode cX3_leastSeenCell 17 = .ok (.iload_n 3, 1) := by decide +kernel
theorem dX3_leastSeenCell_18 : decode cX3_leastSeenCell 18 = .ok (.if_icmp .gt 19, 3) := by decide +kernel
theorem dX3_leastSeenCell_21 : decode cX3_leastSeenCell 21 = .ok (.aload_n 0, 1) := by decide +kernel
theorem dX3_leastSeenCell_22 : decode cX3_leastSeenCell 22 = .ok (.iload 5, 2) := by decide +kernel
theorem dX3_leastSeenCell_24 : decode cX3_leastSeenCell 24 = .ok (.iload 4, 2) := by decide +kernel
theorem dX3_leastSeenCell_26 : decode cX3_leastSeenCell 26 = .ok (.invokevirtual 60, 3) := by decide +kernel
theorem dX3_leastSeenCell_29 : decode cX3_leastSeenCell 29 = .ok (.istore 4, 2) := by decide +kernel
theorem dX3_leastSeenCell_31 : decode cX3_leastSeenCell 31 = .ok (.iinc 5 1, 3) := by decide +kernel
theorem dX3_leastSeenCell_34 : decode cX3_leastSeenCell 34 = .ok (.goto (-19), 3) := by decide +kernel
theorem dX3_leastSeenCell_37 : decode cX3_leastSeenCell 37 = .ok (.iload 4, 2) := by decide +kernel
theorem dX3_leastSeenCell_39 : decode cX3_leastSeenCell 39 = .ok (.ireturn, 1) := by decide +kernel
theorem dX3_weighWalks_0 : decode cX3_weighWalks 0 = .ok (.aload_n 0, 1) := by decide +kernel
theorem dX3_weighWalks_1 : decode cX3_weighWalks 1 = .ok (.getfield 12, 3) := by decide +kernel
theorem dX3_weighWalks_4 : decode cX3_weighWalks 4 = .ok (.aload_n 1, 1) := by decide +kernel
theorem dX3_weighWalks_5 : decode cX3_weighWalks 5 = .ok (.invokevirtual 33, 3) := by decide +kernel
theorem dX3_weighWalks_8 : decode cX3_weighWalks 8 = .ok (.iconst 0, 1) := by decide +kernel
theorem dX3_weighWalks_9 : decode cX3_weighWalks 9 = .ok (.istore_n 3, 1) := by decide +kernel
theorem dX3_weighWalks_10 : decode cX3_weighWalks 10 = .ok (.iload_n 3, 1) := by decide +kernel
theorem dX3_weighWalks_11 : decode cX3_weighWalks 11 = .ok (.iload_n 2, 1) := by decide +kernel
theorem dX3_weighWalks_12 : decode cX3_weighWalks 12 = .ok (.if_icmp .ge 26, 3) := by decide +kernel
theorem dX3_weighWalks_15 : decode cX3_weighWalks 15 = .ok (.aload_n 0, 1) := by decide +kernel
theorem dX3_weighWalks_16 : decode cX3_weighWalks 16 = .ok (.getfield 12, 3) := by decide +kernel
theorem dX3_weighWalks_19 : decode cX3_weighWalks 19 = .ok (.invokevirtual 37, 3) := by decide +kernel
theorem dX3_weighWalks_22 : decode cX3_weighWalks 22 = .ok (.aload_n 0, 1) := by decide +kernel
theorem dX3_weighWalks_23 : decode cX3_weighWalks 23 = .ok (.aload_n 0, 1) := by decide +kernel
theorem dX3_weighWalks_24 : decode cX3_weighWalks 24 = .ok (.getfield 20, 3) := by decide +kernel
theorem dX3_weighWalks_27 : decode cX3_weighWalks 27 = .ok (.iload_n 3, 1) := by decide +kernel
theorem dX3_weighWalks_28 : decode cX3_weighWalks 28 = .ok (.aaload, 1) := by decide +kernel
theorem dX3_weighWalks_29 : decode cX3_weighWalks 29 = .ok (.invokevirtual 64, 3) := by decide +kernel
theorem dX3_weighWalks_32 : decode cX3_weighWalks 32 = .ok (.iinc 3 1, 3) := by decide +kernel
theorem dX3_weighWalks_35 : decode cX3_weighWalks 35 = .ok (.goto (-25), 3) := by decide +kernel
theorem dX3_weighWalks_38 : decode cX3_weighWalks 38 = .ok (.aload_n 0, 1) := by decide +kernel
theorem dX3_weighWalks_39 : decode cX3_weighWalks 39 = .ok (.getfield 23, 3) := by decide +kernel
theorem dX3_weighWalks_42 : decode cX3_weighWalks 42 = .ok (.iload_n 2, 1) := by decide +kernel
theorem dX3_weighWalks_43 : decode cX3_weighWalks 43 = .ok (.aaload, 1) := by decide +kernel
theorem dX3_weighWalks_44 : decode cX3_weighWalks 44 = .ok (.iconst 0, 1) := by decide +kernel
theorem dX3_weighWalks_45 : decode cX3_weighWalks 45 = .ok (.invokestatic 68, 3) := by decide +kernel
theorem dX3_weighWalks_48 : decode cX3_weighWalks 48 = .ok (.iload_n 2, 1) := by decide +kernel
theorem dX3_weighWalks_49 : decode cX3_weighWalks 49 = .ok (.iconst 1, 1) := by decide +kernel
theorem dX3_weighWalks_50 : decode cX3_weighWalks 50 = .ok (.isub, 1) := by decide +kernel
theorem dX3_weighWalks_51 : decode cX3_weighWalks 51 = .ok (.istore_n 3, 1) := by decide +kernel
theorem dX3_weighWalks_52 : decode cX3_weighWalks 52 = .ok (.iload_n 3, 1) := by decide +kernel
theorem dX3_weighWalks_53 : decode cX3_weighWalks 53 = .ok (.ifCond .lt 48, 3) := by decide +kernel
theorem dX3_weighWalks_56 : decode cX3_weighWalks 56 = .ok (.iconst 0, 1) := by decide +kernel
theorem dX3_weighWalks_57 : decode cX3_weighWalks 57 = .ok (.istore 4, 2) := by decide +kernel
theorem dX3_weighWalks_59 : decode cX3_weighWalks 59 = .ok (.iload 4, 2) := by decide +kernel
theorem dX3_weighWalks_61 : decode cX3_weighWalks 61 = .ok (.aload_n 1, 1) := by decide +kernel
theorem dX3_weighWalks_62 : decode cX3_weighWalks 62 = .ok (.getfield 74, 3) := by decide +kernel
theorem dX3_weighWalks_65 : decode cX3_weighWalks 65 = .ok (.if_icmp .ge 30, 3) := by decide +kernel
theorem dX3_weighWalks_68 : decode cX3_weighWalks 68 = .ok (.aload_n 0, 1) := by decide +kernel
theorem dX3_weighWalks_69 : decode cX3_weighWalks 69 = .ok (.getfield 23, 3) := by decide +kernel
theorem dX3_weighWalks_72 : decode cX3_weighWalks 72 = .ok (.iload_n 3, 1) := by decide +kernel
theorem dX3_weighWalks_73 : decode cX3_weighWalks 73 = .ok (.aaload, 1) := by decide +kernel
theorem dX3_weighWalks_74 : decode cX3_weighWalks 74 = .ok (.iload 4, 2) := by decide +kernel
theorem dX3_weighWalks_76 : decode cX3_weighWalks 76 = .ok (.aload_n 0, 1) := by decide +kernel
theorem dX3_weighWalks_77 : decode cX3_weighWalks 77 = .ok (.iload_n 3, 1) := by decide +kernel
theorem dX3_weighWalks_78 : decode cX3_weighWalks 78 = .ok (.aload_n 0, 1) := by decide +kernel
theorem dX3_weighWalks_79 : decode cX3_weighWalks 79 = .ok (.iload_n 3, 1) := by decide +kernel
theorem dX3_weighWalks_80 : decode cX3_weighWalks 80 = .ok (.iload 4, 2) := by decide +kernel
theorem dX3_weighWalks_82 : decode cX3_weighWalks 82 = .ok (.invokevirtual 60, 3) := by decide +kernel
theorem dX3_weighWalks_85 : decode cX3_weighWalks 85 = .ok (.invokevirtual 77, 3) := by decide +kernel
theorem dX3_weighWalks_88 : decode cX3_weighWalks 88 = .ok (.iastore, 1) := by decide +kernel
theorem dX3_weighWalks_89 : decode cX3_weighWalks 89 = .ok (.iinc 4 1, 3) := by decide +kernel
theorem dX3_weighWalks_92 : decode cX3_weighWalks 92 = .ok (.goto (-33), 3) := by decide +kernel
theorem dX3_weighWalks_95 : decode cX3_weighWalks 95 = .ok (.iinc 3 (-1), 3) := by decide +kernel
theorem dX3_weighWalks_98 : decode cX3_weighWalks 98 = .ok (.goto (-46), 3) := by decide +kernel
theorem dX3_weighWalks_101 : decode cX3_weighWalks 101 = .ok (.return_, 1) := by decide +kernel
theorem dX3_noteOver_0 : decode cX3_noteOver 0 = .ok (.iconst 0, 1) := by decide +kernel
theorem dX3_noteOver_1 : decode cX3_noteOver 1 = .ok (.istore_n 2, 1) := by decide +kernel
theorem dX3_noteOver_2 : decode cX3_noteOver 2 = .ok (.iload_n 2, 1) := by decide +kernel
theorem dX3_noteOver_3 : decode cX3_noteOver 3 = .ok (.aload_n 0, 1) := by decide +kernel
theorem dX3_noteOver_4 : decode cX3_noteOver 4 = .ok (.getfield 12, 3) := by decide +kernel
theorem dX3_noteOver_7 : decode cX3_noteOver 7 = .ok (.getfield 74, 3) := by decide +kernel
theorem dX3_noteOver_10 : decode cX3_noteOver 10 = .ok (.if_icmp .ge 20, 3) := by decide +kernel
theorem dX3_noteOver_13 : decode cX3_noteOver 13 = .ok (.aload_n 1, 1) := by decide +kernel
theorem dX3_noteOver_14 : decode cX3_noteOver 14 = .ok (.iload_n 2, 1) := by decide +kernel
theorem dX3_noteOver_15 : decode cX3_noteOver 15 = .ok (.aload_n 0, 1) := by decide +kernel
theorem dX3_noteOver_16 : decode cX3_noteOver 16 = .ok (.getfield 12, 3) := by decide +kernel
theorem dX3_noteOver_19 : decode cX3_noteOver 19 = .ok (.iload_n 2, 1) := by decide +kernel
theorem dX3_noteOver_20 : decode cX3_noteOver 20 = .ok (.invokevirtual 80, 3) := by decide +kernel
theorem dX3_noteOver_23 : decode cX3_noteOver 23 = .ok (.iastore, 1) := by decide +kernel
theorem dX3_noteOver_24 : decode cX3_noteOver 24 = .ok (.iinc 2 1, 3) := by decide +kernel
theorem dX3_noteOver_27 : decode cX3_noteOver 27 = .ok (.goto (-25), 3) := by decide +kernel
theorem dX3_noteOver_30 : decode cX3_noteOver 30 = .ok (.return_, 1) := by decide +kernel
theorem dX3_weightOf_0 : decode cX3_weightOf 0 = .ok (.aload_n 0, 1) := by decide +kernel
theorem dX3_weightOf_1 : decode cX3_weightOf 1 = .ok (.getfield 20, 3) := by decide +kernel
theorem dX3_weightOf_4 : decode cX3_weightOf 4 = .ok (.iload_n 1, 1) := by decide +kernel
theorem dX3_weightOf_5 : decode cX3_weightOf 5 = .ok (.aaload, 1) := by decide +kernel
theorem dX3_weightOf_6 : decode cX3_weightOf 6 = .ok (.iload_n 2, 1) := by decide +kernel
theorem dX3_weightOf_7 : decode cX3_weightOf 7 = .ok (.iaload, 1) := by decide +kernel
theorem dX3_weightOf_8 : decode cX3_weightOf 8 = .ok (.aload_n 0, 1) := by decide +kernel
theorem dX3_weightOf_9 : decode cX3_weightOf 9 = .ok (.getfield 23, 3) := by decide +kernel
theorem dX3_weightOf_12 : decode cX3_weightOf 12 = .ok (.iload_n 1, 1) := by decide +kernel
theorem dX3_weightOf_13 : decode cX3_weightOf 13 = .ok (.iconst 1, 1) := by decide +kernel
theorem dX3_weightOf_14 : decode cX3_weightOf 14 = .ok (.iadd, 1) := by decide +kernel
theorem dX3_weightOf_15 : decode cX3_weightOf 15 = .ok (.aaload, 1) := by decide +kernel
theorem dX3_weightOf_16 : decode cX3_weightOf 16 = .ok (.iload_n 2, 1) := by decide +kernel
theorem dX3_weightOf_17 : decode cX3_weightOf 17 = .ok (.iaload, 1) := by decide +kernel
theorem dX3_weightOf_18 : decode cX3_weightOf 18 = .ok (.iadd, 1) := by decide +kernel
theorem dX3_weightOf_19 : decode cX3_weightOf 19 = .ok (.ireturn, 1) := by decide +kernel
theorem dX3_bestNext_0 : decode cX3_bestNext 0 = .ok (.iload_n 2, 1) := by decide +kernel
theorem dX3_bestNext_1 : decode cX3_bestNext 1 = .ok (.iconst 1, 1) := by decide +kernel
theorem dX3_bestNext_2 : decode cX3_bestNext 2 = .ok (.isub, 1) := by decide +kernel
theorem dX3_bestNext_3 : decode cX3_bestNext 3 = .ok (.iconst 0, 1) := by decide +kernel
theorem dX3_bestNext_4 : decode cX3_bestNext 4 = .ok (.invokestatic 84, 3) := by decide +kernel
theorem dX3_bestNext_7 : decode cX3_bestNext 7 = .ok (.istore_n 3, 1) := by decide +kernel
theorem dX3_bestNext_8 : decode cX3_bestNext 8 = .ok (.iload_n 2, 1) := by decide +kernel
theorem dX3_bestNext_9 : decode cX3_bestNext 9 = .ok (.iconst 1, 1) := by decide +kernel
theorem dX3_bestNext_10 : decode cX3_bestNext 10 = .ok (.iadd, 1) := by decide +kernel
theorem dX3_bestNext_11 : decode cX3_bestNext 11 = .ok (.aload_n 0, 1) := by decide +kernel
theorem dX3_bestNext_12 : decode cX3_bestNext 12 = .ok (.getfield 12, 3) := by decide +kernel
theorem dX3_bestNext_15 : decode cX3_bestNext 15 = .ok (.getfield 74, 3) := by decide +kernel
theorem dX3_bestNext_18 : decode cX3_bestNext 18 = .ok (.iconst 1, 1) := by decide +kernel
theorem dX3_bestNext_19 : decode cX3_bestNext 19 = .ok (.isub, 1) := by decide +kernel
theorem dX3_bestNext_20 : decode cX3_bestNext 20 = .ok (.invokestatic 89, 3) := by decide +kernel
theorem dX3_bestNext_23 : decode cX3_bestNext 23 = .ok (.istore 4, 2) := by decide +kernel
theorem dX3_bestNext_25 : decode cX3_bestNext 25 = .ok (.iload_n 3, 1) := by decide +kernel
theorem dX3_bestNext_26 : decode cX3_bestNext 26 = .ok (.iconst 1, 1) := by decide +kernel
theorem dX3_bestNext_27 : decode cX3_bestNext 27 = .ok (.iadd, 1) := by decide +kernel
theorem dX3_bestNext_28 : decode cX3_bestNext 28 = .ok (.istore 5, 2) := by decide +kernel
theorem dX3_bestNext_30 : decode cX3_bestNext 30 = .ok (.iload 5, 2) := by decide +kernel
theorem dX3_bestNext_32 : decode cX3_bestNext 32 = .ok (.iload 4, 2) := by decide +kernel
theorem dX3_bestNext_34 : decode cX3_bestNext 34 = .ok (.if_icmp .gt 28, 3) := by decide +kernel
theorem dX3_bestNext_37 : decode cX3_bestNext 37 = .ok (.aload_n 0, 1) := by decide +kernel
theorem dX3_bestNext_38 : decode cX3_bestNext 38 = .ok (.iload_n 1, 1) := by decide +kernel
theorem dX3_bestNext_39 : decode cX3_bestNext 39 = .ok (.iload 5, 2) := by decide +kernel
theorem dX3_bestNext_41 : decode cX3_bestNext 41 = .ok (.invokevirtual 77, 3) := by decide +kernel
theorem dX3_bestNext_44 : decode cX3_bestNext 44 = .ok (.aload_n 0, 1) := by decide +kernel
theorem dX3_bestNext_45 : decode cX3_bestNext 45 = .ok (.iload_n 1, 1) := by decide +kernel
theorem dX3_bestNext_46 : decode cX3_bestNext 46 = .ok (.iload_n 3, 1) := by decide +kernel
theorem dX3_bestNext_47 : decode cX3_bestNext 47 = .ok (.invokevirtual 77, 3) := by decide +kernel
theorem dX3_bestNext_50 : decode cX3_bestNext 50 = .ok (.if_icmp .ge 6, 3) := by decide +kernel
theorem dX3_bestNext_53 : decode cX3_bestNext 53 = .ok (.iload 5, 2) := by decide +kernel
theorem dX3_bestNext_55 : decode cX3_bestNext 55 = .ok (.istore_n 3, 1) := by decide +kernel
theorem dX3_bestNext_56 : decode cX3_bestNext 56 = .ok (.iinc 5 1, 3) := by decide +kernel
theorem dX3_bestNext_59 : decode cX3_bestNext 59 = .ok (.goto (-29), 3) := by decide +kernel
theorem dX3_bestNext_62 : decode cX3_bestNext 62 = .ok (.iload_n 3, 1) := by decide +kernel
theorem dX3_bestNext_63 : decode cX3_bestNext 63 = .ok (.ireturn, 1) := by decide +kernel
theorem dX3_firstMeeting_0 : decode cX3_firstMeeting 0 = .ok (.aload_n 0, 1) := by decide +kernel
theorem dX3_firstMeeting_1 : decode cX3_firstMeeting 1 = .ok (.getfield 12, 3) := by decide +kernel
theorem dX3_firstMeeting_4 : decode cX3_firstMeeting 4 = .ok (.aload_n 1, 1) := by decide +kernel
theorem dX3_firstMeeting_5 : decode cX3_firstMeeting 5 = .ok (.invokevirtual 33, 3) := by decide +kernel
theorem dX3_firstMeeting_8 : decode cX3_firstMeeting 8 = .ok (.iconst 1, 1) := by decide +kernel
theorem dX3_firstMeeting_9 : decode cX3_firstMeeting 9 = .ok (.aload_n 1, 1) := by decide +kernel
theorem dX3_firstMeeting_10 : decode cX3_firstMeeting 10 = .ok (.getfield 56, 3) := by decide +kernel
theorem dX3_firstMeeting_13 : decode cX3_firstMeeting 13 = .ok (.ishl, 1) := by decide +kernel
theorem dX3_firstMeeting_14 : decode cX3_firstMeeting 14 = .ok (.istore_n 3, 1) := by decide +kernel
theorem dX3_firstMeeting_15 : decode cX3_firstMeeting 15 = .ok (.iconst 0, 1) := by decide +kernel
theorem dX3_firstMeeting_16 : decode cX3_firstMeeting 16 = .ok (.istore 4, 2) := by decide +kernel
theorem dX3_firstMeeting_18 : decode cX3_firstMeeting 18 = .ok (.iload 4, 2) := by decide +kernel
theorem dX3_firstMeeting_20 : decode cX3_firstMeeting 20 = .ok (.bipush 20, 2) := by decide +kernel
theorem dX3_firstMeeting_22 : decode cX3_firstMeeting 22 = .ok (.if_icmp .gt 53, 3) := by decide +kernel
theorem dX3_firstMeeting_25 : decode cX3_firstMeeting 25 = .ok (.aload_n 0, 1) := by decide +kernel
theorem dX3_firstMeeting_26 : decode cX3_firstMeeting 26 = .ok (.getfield 12, 3) := by decide +kernel
theorem dX3_firstMeeting_29 : decode cX3_firstMeeting 29 = .ok (.iload_n 2, 1) := by decide +kernel
theorem dX3_firstMeeting_30 : decode cX3_firstMeeting 30 = .ok (.invokevirtual 92, 3) := by decide +kernel
theorem dX3_firstMeeting_33 : decode cX3_firstMeeting 33 = .ok (.iload_n 3, 1) := by decide +kernel
theorem dX3_firstMeeting_34 : decode cX3_firstMeeting 34 = .ok (.iand, 1) := by decide +kernel
theorem dX3_firstMeeting_35 : decode cX3_firstMeeting 35 = .ok (.ifCond .eq 6, 3) := by decide +kernel
theorem dX3_firstMeeting_38 : decode cX3_firstMeeting 38 = .ok (.iload 4, 2) := by decide +kernel
theorem dX3_firstMeeting_40 : decode cX3_firstMeeting 40 = .ok (.ireturn, 1) := by decide +kernel
theorem dX3_firstMeeting_41 : decode cX3_firstMeeting 41 = .ok (.iload_n 3, 1) := by decide +kernel
theorem dX3_firstMeeting_42 : decode cX3_firstMeeting 42 = .ok (.iload_n 3, 1) := by decide +kernel
theorem dX3_firstMeeting_43 : decode cX3_firstMeeting 43 = .ok (.iconst 1, 1) := by decide +kernel
theorem dX3_firstMeeting_44 : decode cX3_firstMeeting 44 = .ok (.ishl, 1) := by decide +kernel
theorem dX3_firstMeeting_45 : decode cX3_firstMeeting 45 = .ok (.iload_n 3, 1) := by decide +kernel
theorem dX3_firstMeeting_46 : decode cX3_firstMeeting 46 = .ok (.iconst 1, 1) := by decide +kernel
theorem dX3_firstMeeting_47 : decode cX3_firstMeeting 47 = .ok (.ishr, 1) := by decide +kernel
theorem dX3_firstMeeting_48 : decode cX3_firstMeeting 48 = .ok (.ior, 1) := by decide +kernel
theorem dX3_firstMeeting_49 : decode cX3_firstMeeting 49 = .ok (.ior, 1) := by decide +kernel
theorem dX3_firstMeeting_50 : decode cX3_firstMeeting 50 = .ok (.istore_n 3, 1) := by decide +kernel
theorem dX3_firstMeeting_51 : decode cX3_firstMeeting 51 = .ok (.iload_n 3, 1) := by decide +kernel
theorem dX3_firstMeeting_52 : decode cX3_firstMeeting 52 = .ok (.iconst 1, 1) := by decide +kernel
theorem dX3_firstMeeting_53 : decode cX3_firstMeeting 53 = .ok (.aload_n 1, 1) := by decide +kernel
theorem dX3_firstMeeting_54 : decode cX3_firstMeeting 54 = .ok (.getfield 74, 3) := by decide +kernel
theorem dX3_firstMeeting_57 : decode cX3_firstMeeting 57 = .ok (.ishl, 1) := by decide +kernel
theorem dX3_firstMeeting_58 : decode cX3_firstMeeting 58 = .ok (.iconst 1, 1) := by decide +kernel
theorem dX3_firstMeeting_59 : decode cX3_firstMeeting 59 = .ok (.isub, 1) := by decide +kernel
theorem dX3_firstMeeting_60 : decode cX3_firstMeeting 60 = .ok (.iand, 1) := by decide +kernel
theorem dX3_firstMeeting_61 : decode cX3_firstMeeting 61 = .ok (.istore_n 3, 1) := by decide +kernel
theorem dX3_firstMeeting_62 : decode cX3_firstMeeting 62 = .ok (.aload_n 0, 1) := by decide +kernel
theorem dX3_firstMeeting_63 : decode cX3_firstMeeting 63 = .ok (.getfield 12, 3) := by decide +kernel
theorem dX3_firstMeeting_66 : decode cX3_firstMeeting 66 = .ok (.invokevirtual 37, 3) := by decide +kernel
theorem dX3_firstMeeting_69 : decode cX3_firstMeeting 69 = .ok (.iinc 4 1, 3) := by decide +kernel
theorem dX3_firstMeeting_72 : decode cX3_firstMeeting 72 = .ok (.goto (-54), 3) := by decide +kernel
theorem dX3_firstMeeting_75 : decode cX3_firstMeeting 75 = .ok (.ldc 44, 2) := by decide +kernel
theorem dX3_firstMeeting_77 : decode cX3_firstMeeting 77 = .ok (.ireturn, 1) := by decide +kernel
theorem dX3_bestStand_0 : decode cX3_bestStand 0 = .ok (.aload_n 0, 1) := by decide +kernel
theorem dX3_bestStand_1 : decode cX3_bestStand 1 = .ok (.getfield 12, 3) := by decide +kernel
theorem dX3_bestStand_4 : decode cX3_bestStand 4 = .ok (.aload_n 1, 1) := by decide +kernel
theorem dX3_bestStand_5 : decode cX3_bestStand 5 = .ok (.invokevirtual 33, 3) := by decide +kernel
theorem dX3_bestStand_8 : decode cX3_bestStand 8 = .ok (.aload_n 0, 1) := by decide +kernel
theorem dX3_bestStand_9 : decode cX3_bestStand 9 = .ok (.getfield 26, 3) := by decide +kernel
theorem dX3_bestStand_12 : decode cX3_bestStand 12 = .ok (.aload_n 1, 1) := by decide +kernel
theorem dX3_bestStand_13 : decode cX3_bestStand 13 = .ok (.invokevirtual 95, 3) := by decide +kernel
theorem dX3_bestStand_16 : decode cX3_bestStand 16 = .ok (.invokestatic 68, 3) := by decide +kernel
theorem dX3_bestStand_19 : decode cX3_bestStand 19 = .ok (.iconst 0, 1) := by decide +kernel
theorem dX3_bestStand_20 : decode cX3_bestStand 20 = .ok (.istore 4, 2) := by decide +kernel
theorem dX3_bestStand_22 : decode cX3_bestStand 22 = .ok (.iload 4, 2) := by decide +kernel
theorem dX3_bestStand_24 : decode cX3_bestStand 24 = .ok (.iload_n 2, 1) := by decide +kernel
theorem dX3_bestStand_25 : decode cX3_bestStand 25 = .ok (.if_icmp .ge 67, 3) := by decide +kernel
theorem dX3_bestStand_28 : decode cX3_bestStand 28 = .ok (.aload_n 0, 1) := by decide +kernel
theorem dX3_bestStand_29 : decode cX3_bestStand 29 = .ok (.getfield 12, 3) := by decide +kernel
theorem dX3_bestStand_32 : decode cX3_bestStand 32 = .ok (.invokevirtual 98, 3) := by decide +kernel
theorem dX3_bestStand_35 : decode cX3_bestStand 35 = .ok (.istore 5, 2) := by decide +kernel
theorem dX3_bestStand_37 : decode cX3_bestStand 37 = .ok (.aload_n 0, 1) := by decide +kernel
theorem dX3_bestStand_38 : decode cX3_bestStand 38 = .ok (.getfield 12, 3) := by decide +kernel
theorem dX3_bestStand_41 : decode cX3_bestStand 41 = .ok (.invokevirtual 37, 3) := by decide +kernel
theorem dX3_bestStand_44 : decode cX3_bestStand 44 = .ok (.iconst 0, 1) := by decide +kernel
theorem dX3_bestStand_45 : decode cX3_bestStand 45 = .ok (.istore 6, 2) := by decide +kernel
theorem dX3_bestStand_47 : decode cX3_bestStand 47 = .ok (.iload 5, 2) := by decide +kernel
theorem dX3_bestStand_49 : decode cX3_bestStand 49 = .ok (.ifCond .eq 37, 3) := by decide +kernel
theorem dX3_bestStand_52 : decode cX3_bestStand 52 = .ok (.iload 6, 2) := by decide +kernel
theorem dX3_bestStand_54 : decode cX3_bestStand 54 = .ok (.aload_n 1, 1) := by decide +kernel
theorem dX3_bestStand_55 : decode cX3_bestStand 55 = .ok (.getfield 74, 3) := by decide +kernel
theorem dX3_bestStand_58 : decode cX3_bestStand 58 = .ok (.if_icmp .ge 28, 3) := by decide +kernel
theorem dX3_bestStand_61 : decode cX3_bestStand 61 = .ok (.aload_n 0, 1) := by decide +kernel
theorem dX3_bestStand_62 : decode cX3_bestStand 62 = .ok (.getfield 26, 3) := by decide +kernel
theorem dX3_bestStand_65 : decode cX3_bestStand 65 = .ok (.iload 6, 2) := by decide +kernel
theorem dX3_bestStand_67 : decode cX3_bestStand 67 = .ok (.dup2, 1) := by decide +kernel
theorem dX3_bestStand_68 : decode cX3_bestStand 68 = .ok (.iaload, 1) := by decide +kernel
theorem dX3_bestStand_69 : decode cX3_bestStand 69 = .ok (.aload_n 0, 1) := by decide +kernel
theorem dX3_bestStand_70 : decode cX3_bestStand 70 = .ok (.getfield 12, 3) := by decide +kernel
theorem dX3_bestStand_73 : decode cX3_bestStand 73 = .ok (.iload 6, 2) := by decide +kernel
theorem dX3_bestStand_75 : decode cX3_bestStand 75 = .ok (.invokevirtual 102, 3) := by decide +kernel
theorem dX3_bestStand_78 : decode cX3_bestStand 78 = .ok (.ior, 1) := by decide +kernel
theorem dX3_bestStand_79 : decode cX3_bestStand 79 = .ok (.iastore, 1) := by decide +kernel
theorem dX3_bestStand_80 : decode cX3_bestStand 80 = .ok (.iinc 6 1, 3) := by decide +kernel
theorem dX3_bestStand_83 : decode cX3_bestStand 83 = .ok (.goto (-36), 3) := by decide +kernel
theorem dX3_bestStand_86 : decode cX3_bestStand 86 = .ok (.iinc 4 1, 3) := by decide +kernel
theorem dX3_bestStand_89 : decode cX3_bestStand 89 = .ok (.goto (-67), 3) := by decide +kernel
theorem dX3_bestStand_92 : decode cX3_bestStand 92 = .ok (.iconst 0, 1) := by decide +kernel
theorem dX3_bestStand_93 : decode cX3_bestStand 93 = .ok (.istore 4, 2) := by decide +kernel
theorem dX3_bestStand_95 : decode cX3_bestStand 95 = .ok (.iconst 1, 1) := by decide +kernel
theorem dX3_bestStand_96 : decode cX3_bestStand 96 = .ok (.istore 5, 2) := by decide +kernel
theorem dX3_bestStand_98 : decode cX3_bestStand 98 = .ok (.iload 5, 2) := by decide +kernel
theorem dX3_bestStand_100 : decode cX3_bestStand 100 = .ok (.aload_n 1, 1) := by decide +kernel
theorem dX3_bestStand_101 : decode cX3_bestStand 101 = .ok (.getfield 74, 3) := by decide +kernel
theorem dX3_bestStand_104 : decode cX3_bestStand 104 = .ok (.if_icmp .ge 36, 3) := by decide +kernel
theorem dX3_bestStand_107 : decode cX3_bestStand 107 = .ok (.aload_n 0, 1) := by decide +kernel
theorem dX3_bestStand_108 : decode cX3_bestStand 108 = .ok (.getfield 26, 3) := by decide +kernel
theorem dX3_bestStand_111 : decode cX3_bestStand 111 = .ok (.iload 5, 2) := by decide +kernel
theorem dX3_bestStand_113 : decode cX3_bestStand 113 = .ok (.iaload, 1) := by decide +kernel
theorem dX3_bestStand_114 : decode cX3_bestStand 114 = .ok (.invokestatic 105, 3) := by decide +kernel
theorem dX3_bestStand_117 : decode cX3_bestStand 117 = .ok (.aload_n 0, 1) := by decide +kernel
theorem dX3_bestStand_118 : decode cX3_bestStand 118 = .ok (.getfield 26, 3) := by decide +kernel
theorem dX3_bestStand_121 : decode cX3_bestStand 121 = .ok (.iload 4, 2) := by decide +kernel
theorem dX3_bestStand_123 : decode cX3_bestStand 123 = .ok (.iaload, 1) := by decide +kernel
theorem dX3_bestStand_124 : decode cX3_bestStand 124 = .ok (.invokestatic 105, 3) := by decide +kernel
theorem dX3_bestStand_127 : decode cX3_bestStand 127 = .ok (.if_icmp .le 7, 3) := by decide +kernel
theorem dX3_bestStand_130 : decode cX3_bestStand 130 = .ok (.iload 5, 2) := by decide +kernel
theorem dX3_bestStand_132 : decode cX3_bestStand 132 = .ok (.istore 4, 2) := by decide +kernel
theorem dX3_bestStand_134 : decode cX3_bestStand 134 = .ok (.iinc 5 1, 3) := by decide +kernel
theorem dX3_bestStand_137 : decode cX3_bestStand 137 = .ok (.goto (-39), 3) := by decide +kernel
theorem dX3_bestStand_140 : decode cX3_bestStand 140 = .ok (.iload_n 3, 1) := by decide +kernel
theorem dX3_bestStand_141 : decode cX3_bestStand 141 = .ok (.ifCond .ne 8, 3) := by decide +kernel
theorem dX3_bestStand_144 : decode cX3_bestStand 144 = .ok (.iload 4, 2) := by decide +kernel
theorem dX3_bestStand_146 : decode cX3_bestStand 146 = .ok (.goto 13, 3) := by decide +kernel
theorem dX3_bestStand_149 : decode cX3_bestStand 149 = .ok (.aload_n 0, 1) := by decide +kernel
theorem dX3_bestStand_150 : decode cX3_bestStand 150 = .ok (.getfield 26, 3) := by decide +kernel
theorem dX3_bestStand_153 : decode cX3_bestStand 153 = .ok (.iload 4, 2) := by decide +kernel
theorem dX3_bestStand_155 : decode cX3_bestStand 155 = .ok (.iaload, 1) := by decide +kernel
theorem dX3_bestStand_156 : decode cX3_bestStand 156 = .ok (.invokestatic 105, 3) := by decide +kernel
theorem dX3_bestStand_159 : decode cX3_bestStand 159 = .ok (.ireturn, 1) := by decide +kernel
theorem dX3_leastAwake_0 : decode cX3_leastAwake 0 = .ok (.aload_n 0, 1) := by decide +kernel
theorem dX3_leastAwake_1 : decode cX3_leastAwake 1 = .ok (.getfield 12, 3) := by decide +kernel
theorem dX3_leastAwake_4 : decode cX3_leastAwake 4 = .ok (.aload_n 1, 1) := by decide +kernel
theorem dX3_leastAwake_5 : decode cX3_leastAwake 5 = .ok (.invokevirtual 33, 3) := by decide +kernel
theorem dX3_leastAwake_8 : decode cX3_leastAwake 8 = .ok (.aload_n 0, 1) := by decide +kernel
theorem dX3_leastAwake_9 : decode cX3_leastAwake 9 = .ok (.getfield 26, 3) := by decide +kernel
theorem dX3_leastAwake_12 : decode cX3_leastAwake 12 = .ok (.iconst 0, 1) := by decide +kernel
theorem dX3_leastAwake_13 : decode cX3_leastAwake 13 = .ok (.invokestatic 68, 3) := by decide +kernel
theorem dX3_leastAwake_16 : decode cX3_leastAwake 16 = .ok (.iconst 0, 1) := by decide +kernel
theorem dX3_leastAwake_17 : decode cX3_leastAwake 17 = .ok (.istore_n 3, 1) := by decide +kernel
theorem dX3_leastAwake_18 : decode cX3_leastAwake 18 = .ok (.iload_n 3, 1) := by decide +kernel
theorem dX3_leastAwake_19 : decode cX3_leastAwake 19 = .ok (.iload_n 2, 1) := by decide +kernel
theorem dX3_leastAwake_20 : decode cX3_leastAwake 20 = .ok (.if_icmp .ge 48, 3) := by decide +kernel
theorem dX3_leastAwake_23 : decode cX3_leastAwake 23 = .ok (.aload_n 0, 1) := by decide +kernel
theorem dX3_leastAwake_24 : decode cX3_leastAwake 24 = .ok (.getfield 12, 3) := by decide +kernel
theorem dX3_leastAwake_27 : decode cX3_leastAwake 27 = .ok (.getfield 110, 3) := by decide +kernel
theorem dX3_leastAwake_30 : decode cX3_leastAwake 30 = .ok (.iconst 3, 1) := by decide +kernel
theorem dX3_leastAwake_31 : decode cX3_leastAwake 31 = .ok (.iand, 1) := by decide +kernel
theorem dX3_leastAwake_32 : decode cX3_leastAwake 32 = .ok (.istore 4, 2) := by decide +kernel
theorem dX3_leastAwake_34 : decode cX3_leastAwake 34 = .ok (.aload_n 0, 1) := by decide +kernel
theorem dX3_leastAwake_35 : decode cX3_leastAwake 35 = .ok (.getfield 12, 3) := by decide +kernel
theorem dX3_leastAwake_38 : decode cX3_leastAwake 38 = .ok (.invokevirtual 37, 3) := by decide +kernel
theorem dX3_leastAwake_41 : decode cX3_leastAwake 41 = .ok (.aload_n 0, 1) := by decide +kernel
theorem dX3_leastAwake_42 : decode cX3_leastAwake 42 = .ok (.getfield 26, 3) := by decide +kernel
theorem dX3_leastAwake_45 : decode cX3_leastAwake 45 = .ok (.iload 4, 2) := by decide +kernel
theorem dX3_leastAwake_47 : decode cX3_leastAwake 47 = .ok (.dup2, 1) := by decide +kernel
theorem dX3_leastAwake_48 : decode cX3_leastAwake 48 = .ok (.iaload, 1) := by decide +kernel
theorem dX3_leastAwake_49 : decode cX3_leastAwake 49 = .ok (.aload_n 0, 1) := by decide +kernel
theorem dX3_leastAwake_50 : decode cX3_leastAwake 50 = .ok (.getfield 12, 3) := by decide +kernel
theorem dX3_leastAwake_53 : decode cX3_leastAwake 53 = .ok (.aload_n 1, 1) := by decide +kernel
theorem dX3_leastAwake_54 : decode cX3_leastAwake 54 = .ok (.getfield 113, 3) := by decide +kernel
theorem dX3_leastAwake_57 : decode cX3_leastAwake 57 = .ok (.invokevirtual 102, 3) := by decide +kernel
theorem dX3_leastAwake_60 : decode cX3_leastAwake 60 = .ok (.ior, 1) := by decide +kernel
theorem dX3_leastAwake_61 : decode cX3_leastAwake 61 = .ok (.iastore, 1) := by decide +kernel
theorem dX3_leastAwake_62 : decode cX3_leastAwake 62 = .ok (.iinc 3 1, 3) := by decide +kernel
theorem dX3_leastAwake_65 : decode cX3_leastAwake 65 = .ok (.goto (-47), 3) := by decide +kernel
theorem dX3_leastAwake_68 : decode cX3_leastAwake 68 = .ok (.aload_n 1, 1) := by decide +kernel
theorem dX3_leastAwake_69 : decode cX3_leastAwake 69 = .ok (.invokevirtual 95, 3) := by decide +kernel
theorem dX3_leastAwake_72 : decode cX3_leastAwake 72 = .ok (.istore_n 3, 1) := by decide +kernel
theorem dX3_leastAwake_73 : decode cX3_leastAwake 73 = .ok (.aload_n 0, 1) := by decide +kernel
theorem dX3_leastAwake_74 : decode cX3_leastAwake 74 = .ok (.bipush 15, 2) := by decide +kernel
theorem dX3_leastAwake_76 : decode cX3_leastAwake 76 = .ok (.iload_n 3, 1) := by decide +kernel
theorem dX3_leastAwake_77 : decode cX3_leastAwake 77 = .ok (.invokevirtual 116, 3) := by decide +kernel
theorem dX3_leastAwake_80 : decode cX3_leastAwake 80 = .ok (.istore 4, 2) := by decide +kernel
theorem dX3_leastAwake_82 : decode cX3_leastAwake 82 = .ok (.bipush 15, 2) := by decide +kernel
theorem dX3_leastAwake_84 : decode cX3_leastAwake 84 = .ok (.istore 5, 2) := by decide +kernel
theorem dX3_leastAwake_86 : decode cX3_leastAwake 86 = .ok (.bipush 14, 2) := by decide +kernel
theorem dX3_leastAwake_88 : decode cX3_leastAwake 88 = .ok (.istore 6, 2) := by decide +kernel
theorem dX3_leastAwake_90 : decode cX3_leastAwake 90 = .ok (.iload 6, 2) := by decide +kernel
theorem dX3_leastAwake_92 : decode cX3_leastAwake 92 = .ok (.ifCond .lt 38, 3) := by decide +kernel
theorem dX3_leastAwake_95 : decode cX3_leastAwake 95 = .ok (.aload_n 0, 1) := by decide +kernel
theorem dX3_leastAwake_96 : decode cX3_leastAwake 96 = .ok (.iload 6, 2) := by decide +kernel
theorem dX3_leastAwake_98 : decode cX3_leastAwake 98 = .ok (.iload_n 3, 1) := by decide +kernel
theorem dX3_leastAwake_99 : decode cX3_leastAwake 99 = .ok (.invokevirtual 116, 3) := by decide +kernel
theorem dX3_leastAwake_102 : decode cX3_leastAwake 102 = .ok (.iload 4, 2) := by decide +kernel
theorem dX3_leastAwake_104 : decode cX3_leastAwake 104 = .ok (.if_icmp .ne 20, 3) := by decide +kernel
theorem dX3_leastAwake_107 : decode cX3_leastAwake 107 = .ok (.iload 6, 2) := by decide +kernel
theorem dX3_leastAwake_109 : decode cX3_leastAwake 109 = .ok (.invokestatic 105, 3) := by decide +kernel
theorem dX3_leastAwake_112 : decode cX3_leastAwake 112 = .ok (.iload 5, 2) := by decide +kernel
theorem dX3_leastAwake_114 : decode cX3_leastAwake 114 = .ok (.invokestatic 105, 3) := by decide +kernel
theorem dX3_leastAwake_117 : decode cX3_leastAwake 117 = .ok (.if_icmp .gt 7, 3) := by decide +kernel
theorem dX3_leastAwake_120 : decode cX3_leastAwake 120 = .ok (.iload 6, 2) := by decide +kernel
theorem dX3_leastAwake_122 : decode cX3_leastAwake 122 = .ok (.istore 5, 2) := by decide +kernel
theorem dX3_leastAwake_124 : decode cX3_leastAwake 124 = .ok (.iinc 6 (-1), 3) := by decide +kernel
theorem dX3_leastAwake_127 : decode cX3_leastAwake 127 = .ok (.goto (-37), 3) := by decide +kernel
theorem dX3_leastAwake_130 : decode cX3_leastAwake 130 = .ok (.iload 5, 2) := by decide +kernel
theorem dX3_leastAwake_132 : decode cX3_leastAwake 132 = .ok (.ireturn, 1) := by decide +kernel
theorem dX3_numberedBy_0 : decode cX3_numberedBy 0 = .ok (.iload_n 2, 1) := by decide +kernel
theorem dX3_numberedBy_1 : decode cX3_numberedBy 1 = .ok (.istore_n 3, 1) := by decide +kernel
theorem dX3_numberedBy_2 : decode cX3_numberedBy 2 = .ok (.iconst 0, 1) := by decide +kernel
theorem dX3_numberedBy_3 : decode cX3_numberedBy 3 = .ok (.istore 4, 2) := by decide +kernel
theorem dX3_numberedBy_5 : decode cX3_numberedBy 5 = .ok (.iload 4, 2) := by decide +kernel
theorem dX3_numberedBy_7 : decode cX3_numberedBy 7 = .ok (.iconst 4, 1) := by decide +kernel
theorem dX3_numberedBy_8 : decode cX3_numberedBy 8 = .ok (.if_icmp .ge 32, 3) := by decide +kernel
theorem dX3_numberedBy_11 : decode cX3_numberedBy 11 = .ok (.iload_n 3, 1) := by decide +kernel
theorem dX3_numberedBy_12 : decode cX3_numberedBy 12 = .ok (.iload_n 1, 1) := by decide +kernel
theorem dX3_numberedBy_13 : decode cX3_numberedBy 13 = .ok (.iload 4, 2) := by decide +kernel
theorem dX3_numberedBy_15 : decode cX3_numberedBy 15 = .ok (.ishr, 1) := by decide +kernel
theorem dX3_numberedBy_16 : decode cX3_numberedBy 16 = .ok (.iconst 1, 1) := by decide +kernel
theorem dX3_numberedBy_17 : decode cX3_numberedBy 17 = .ok (.iand, 1) := by decide +kernel
theorem dX3_numberedBy_18 : decode cX3_numberedBy 18 = .ok (.ifCond .eq 13, 3) := by decide +kernel
theorem dX3_numberedBy_21 : decode cX3_numberedBy 21 = .ok (.aload_n 0, 1) := by decide +kernel
theorem dX3_numberedBy_22 : decode cX3_numberedBy 22 = .ok (.getfield 26, 3) := by decide +kernel
theorem dX3_numberedBy_25 : decode cX3_numberedBy 25 = .ok (.iload 4, 2) := by decide +kernel
theorem dX3_numberedBy_27 : decode cX3_numberedBy 27 = .ok (.iaload, 1) := by decide +kernel
theorem dX3_numberedBy_28 : decode cX3_numberedBy 28 = .ok (.goto 4, 3) := by decide +kernel
theorem dX3_numberedBy_31 : decode cX3_numberedBy 31 = .ok (.iconst 0, 1) := by decide +kernel
theorem dX3_numberedBy_32 : decode cX3_numberedBy 32 = .ok (.ior, 1) := by decide +kernel
theorem dX3_numberedBy_33 : decode cX3_numberedBy 33 = .ok (.istore_n 3, 1) := by decide +kernel
theorem dX3_numberedBy_34 : decode cX3_numberedBy 34 = .ok (.iinc 4 1, 3) := by decide +kernel
theorem dX3_numberedBy_37 : decode cX3_numberedBy 37 = .ok (.goto (-32), 3) := by decide +kernel
theorem dX3_numberedBy_40 : decode cX3_numberedBy 40 = .ok (.iload_n 3, 1) := by decide +kernel
theorem dX3_numberedBy_41 : decode cX3_numberedBy 41 = .ok (.invokestatic 105, 3) := by decide +kernel
theorem dX3_numberedBy_44 : decode cX3_numberedBy 44 = .ok (.ireturn, 1) := by decide +kernel
theorem dX3_outcomeOfTurns_0 : decode cX3_outcomeOfTurns 0 = .ok (.aload_n 0, 1) := by decide +kernel
theorem dX3_outcomeOfTurns_1 : decode cX3_outcomeOfTurns 1 = .ok (.aload_n 1, 1) := by decide +kernel
theorem dX3_outcomeOfTurns_2 : decode cX3_outcomeOfTurns 2 = .ok (.iload_n 3, 1) := by decide +kernel
theorem dX3_outcomeOfTurns_3 : decode cX3_outcomeOfTurns 3 = .ok (.invokevirtual 119, 3) := by decide +kernel
theorem dX3_outcomeOfTurns_6 : decode cX3_outcomeOfTurns 6 = .ok (.pop, 1) := by decide +kernel
theorem dX3_outcomeOfTurns_7 : decode cX3_outcomeOfTurns 7 = .ok (.aload_n 0, 1) := by decide +kernel
theorem dX3_outcomeOfTurns_8 : decode cX3_outcomeOfTurns 8 = .ok (.aload_n 0, 1) := by decide +kernel
theorem dX3_outcomeOfTurns_9 : decode cX3_outcomeOfTurns 9 = .ok (.getfield 20, 3) := by decide +kernel
theorem dX3_outcomeOfTurns_12 : decode cX3_outcomeOfTurns 12 = .ok (.iconst 0, 1) := by decide +kernel
theorem dX3_outcomeOfTurns_13 : decode cX3_outcomeOfTurns 13 = .ok (.aaload, 1) := by decide +kernel
theorem dX3_outcomeOfTurns_14 : decode cX3_outcomeOfTurns 14 = .ok (.invokevirtual 64, 3) := by decide +kernel
theorem dX3_outcomeOfTurns_17 : decode cX3_outcomeOfTurns 17 = .ok (.aload_n 0, 1) := by decide +kernel
theorem dX3_outcomeOfTurns_18 : decode cX3_outcomeOfTurns 18 = .ok (.getfield 12, 3) := by decide +kernel
theorem dX3_outcomeOfTurns_21 : decode cX3_outcomeOfTurns 21 = .ok (.aload_n 1, 1) := by decide +kernel
theorem dX3_outcomeOfTurns_22 : decode cX3_outcomeOfTurns 22 = .ok (.invokevirtual 33, 3) := by decide +kernel
theorem dX3_outcomeOfTurns_25 : decode cX3_outcomeOfTurns 25 = .ok (.aload_n 1, 1) := by decide +kernel
theorem dX3_outcomeOfTurns_26 : decode cX3_outcomeOfTurns 26 = .ok (.invokevirtual 123, 3) := by decide +kernel
theorem dX3_outcomeOfTurns_29 : decode cX3_outcomeOfTurns 29 = .ok (.istore 4, 2) := by decide +kernel
theorem dX3_outcomeOfTurns_31 : decode cX3_outcomeOfTurns 31 = .ok (.aload_n 0, 1) := by decide +kernel
theorem dX3_outcomeOfTurns_32 : decode cX3_outcomeOfTurns 32 = .ok (.getfield 12, 3) := by decide +kernel
theorem dX3_outcomeOfTurns_35 : decode cX3_outcomeOfTurns 35 = .ok (.getfield 126, 3) := by decide +kernel
theorem dX3_outcomeOfTurns_38 : decode cX3_outcomeOfTurns 38 = .ok (.iload 4, 2) := by decide +kernel
theorem dX3_outcomeOfTurns_40 : decode cX3_outcomeOfTurns 40 = .ok (.iconst 4, 1) := by decide +kernel
theorem dX3_outcomeOfTurns_41 : decode cX3_outcomeOfTurns 41 = .ok (.aload_n 1, 1) := by decide +kernel
theorem dX3_outcomeOfTurns_42 : decode cX3_outcomeOfTurns 42 = .ok (.getfield 126, 3) := by decide +kernel
theorem dX3_outcomeOfTurns_45 : decode cX3_outcomeOfTurns 45 = .ok (.iload 4, 2) := by decide +kernel
theorem dX3_outcomeOfTurns_47 : decode cX3_outcomeOfTurns 47 = .ok (.iaload, 1) := by decide +kernel
theorem dX3_outcomeOfTurns_48 : decode cX3_outcomeOfTurns 48 = .ok (.isub, 1) := by decide +kernel
theorem dX3_outcomeOfTurns_49 : decode cX3_outcomeOfTurns 49 = .ok (.iastore, 1) := by decide +kernel
theorem dX3_outcomeOfTurns_50 : decode cX3_outcomeOfTurns 50 = .ok (.iconst 0, 1) := by decide +kernel
theorem dX3_outcomeOfTurns_51 : decode cX3_outcomeOfTurns 51 = .ok (.istore 5, 2) := by decide +kernel
theorem dX3_outcomeOfTurns_53 : decode cX3_outcomeOfTurns 53 = .ok (.iload 5, 2) := by decide +kernel
theorem dX3_outcomeOfTurns_55 : decode cX3_outcomeOfTurns 55 = .ok (.iload_n 3, 1) := by decide +kernel
theorem dX3_outcomeOfTurns_56 : decode cX3_outcomeOfTurns 56 = .ok (.if_icmp .ge 16, 3) := by decide +kernel
theorem dX3_outcomeOfTurns_59 : decode cX3_outcomeOfTurns 59 = .ok (.aload_n 0, 1) := by decide +kernel
theorem dX3_outcomeOfTurns_60 : decode cX3_outcomeOfTurns 60 = .ok (.getfield 12, 3) := by decide +kernel
theorem dX3_outcomeOfTurns_63 : decode cX3_outcomeOfTurns 63 = .ok (.invokevirtual 37, 3) := by decide +kernel
theorem dX3_outcomeOfTurns_66 : decode cX3_outcomeOfTurns 66 = .ok (.iinc 5 1, 3) := by decide +kernel
theorem dX3_outcomeOfTurns_69 : decode cX3_outcomeOfTurns 69 = .ok (.goto (-16), 3) := by decide +kernel
theorem dX3_outcomeOfTurns_72 : decode cX3_outcomeOfTurns 72 = .ok (.aload_n 0, 1) := by decide +kernel
theorem dX3_outcomeOfTurns_73 : decode cX3_outcomeOfTurns 73 = .ok (.aload_n 0, 1) := by decide +kernel
theorem dX3_outcomeOfTurns_74 : decode cX3_outcomeOfTurns 74 = .ok (.getfield 20, 3) := by decide +kernel
theorem dX3_outcomeOfTurns_77 : decode cX3_outcomeOfTurns 77 = .ok (.iconst 1, 1) := by decide +kernel
theorem dX3_outcomeOfTurns_78 : decode cX3_outcomeOfTurns 78 = .ok (.aaload, 1) := by decide +kernel
theorem dX3_outcomeOfTurns_79 : decode cX3_outcomeOfTurns 79 = .ok (.invokevirtual 64, 3) := by decide +kernel
theorem dX3_outcomeOfTurns_82 : decode cX3_outcomeOfTurns 82 = .ok (.aload_n 0, 1) := by decide +kernel
theorem dX3_outcomeOfTurns_83 : decode cX3_outcomeOfTurns 83 = .ok (.iload_n 2, 1) := by decide +kernel
theorem dX3_outcomeOfTurns_84 : decode cX3_outcomeOfTurns 84 = .ok (.aload_n 1, 1) := by decide +kernel
theorem dX3_outcomeOfTurns_85 : decode cX3_outcomeOfTurns 85 = .ok (.getfield 56, 3) := by decide +kernel
theorem dX3_outcomeOfTurns_88 : decode cX3_outcomeOfTurns 88 = .ok (.iconst 0, 1) := by decide +kernel
theorem dX3_outcomeOfTurns_89 : decode cX3_outcomeOfTurns 89 = .ok (.invokevirtual 129, 3) := by decide +kernel
theorem dX3_outcomeOfTurns_92 : decode cX3_outcomeOfTurns 92 = .ok (.ireturn, 1) := by decide +kernel
theorem dX3_walkersTurn_0 : decode cX3_walkersTurn 0 = .ok (.iload_n 1, 1) := by decide +kernel
theorem dX3_walkersTurn_1 : decode cX3_walkersTurn 1 = .ok (.ifCond .gt 12, 3) := by decide +kernel
theorem dX3_walkersTurn_4 : decode cX3_walkersTurn 4 = .ok (.aload_n 0, 1) := by decide +kernel
theorem dX3_walkersTurn_5 : decode cX3_walkersTurn 5 = .ok (.getfield 20, 3) := by decide +kernel
theorem dX3_walkersTurn_8 : decode cX3_walkersTurn 8 = .ok (.iload_n 3, 1) := by decide +kernel
theorem dX3_walkersTurn_9 : decode cX3_walkersTurn 9 = .ok (.aaload, 1) := by decide +kernel
theorem dX3_walkersTurn_10 : decode cX3_walkersTurn 10 = .ok (.iload_n 2, 1) := by decide +kernel
theorem dX3_walkersTurn_11 : decode cX3_walkersTurn 11 = .ok (.iaload, 1) := by decide +kernel
theorem dX3_walkersTurn_12 : decode cX3_walkersTurn 12 = .ok (.ireturn, 1) := by decide +kernel
theorem dX3_walkersTurn_13 : decode cX3_walkersTurn 13 = .ok (.aload_n 0, 1) := by decide +kernel
theorem dX3_walkersTurn_14 : decode cX3_walkersTurn 14 = .ok (.iload_n 1, 1) := by decide +kernel
theorem dX3_walkersTurn_15 : decode cX3_walkersTurn 15 = .ok (.iconst 1, 1) := by decide +kernel
theorem dX3_walkersTurn_16 : decode cX3_walkersTurn 16 = .ok (.isub, 1) := by decide +kernel
theorem dX3_walkersTurn_17 : decode cX3_walkersTurn 17 = .ok (.iload_n 2, 1) := by decide +kernel
theorem dX3_walkersTurn_18 : decode cX3_walkersTurn 18 = .ok (.iload_n 3, 1) := by decide +kernel
theorem dX3_walkersTurn_19 : decode cX3_walkersTurn 19 = .ok (.invokevirtual 133, 3) := by decide +kernel
theorem dX3_walkersTurn_22 : decode cX3_walkersTurn 22 = .ok (.istore 4, 2) := by decide +kernel
theorem dX3_walkersTurn_24 : decode cX3_walkersTurn 24 = .ok (.iload_n 2, 1) := by decide +kernel
theorem dX3_walkersTurn_25 : decode cX3_walkersTurn 25 = .ok (.ifCond .le 21, 3) := by decide +kernel
theorem dX3_walkersTurn_28 : decode cX3_walkersTurn 28 = .ok (.iload 4, 2) := by decide +kernel
theorem dX3_walkersTurn_30 : decode cX3_walkersTurn 30 = .ok (.aload_n 0, 1) := by decide +kernel
theorem dX3_walkersTurn_31 : decode cX3_walkersTurn 31 = .ok (.iload_n 1, 1) := by decide +kernel
theorem dX3_walkersTurn_32 : decode cX3_walkersTurn 32 = .ok (.iconst 1, 1) := by decide +kernel
theorem dX3_walkersTurn_33 : decode cX3_walkersTurn 33 = .ok (.isub, 1) := by decide +kernel
theorem dX3_walkersTurn_34 : decode cX3_walkersTurn 34 = .ok (.iload_n 2, 1) := by decide +kernel
theorem dX3_walkersTurn_35 : decode cX3_walkersTurn 35 = .ok (.iconst 1, 1) := by decide +kernel
theorem dX3_walkersTurn_36 : decode cX3_walkersTurn 36 = .ok (.isub, 1) := by decide +kernel
theorem dX3_walkersTurn_37 : decode cX3_walkersTurn 37 = .ok (.iload_n 3, 1) := by decide +kernel
theorem dX3_walkersTurn_38 : decode cX3_walkersTurn 38 = .ok (.invokevirtual 133, 3) := by decide +kernel
theorem dX3_walkersTurn_41 : decode cX3_walkersTurn 41 = .ok (.invokestatic 89, 3) := by decide +kernel
theorem dX3_walkersTurn_44 : decode cX3_walkersTurn 44 = .ok (.istore 4, 2) := by decide +kernel
theorem dX3_walkersTurn_46 : decode cX3_walkersTurn 46 = .ok (.iload_n 2, 1) := by decide +kernel
theorem dX3_walkersTurn_47 : decode cX3_walkersTurn 47 = .ok (.aload_n 0, 1) := by decide +kernel
theorem dX3_walkersTurn_48 : decode cX3_walkersTurn 48 = .ok (.getfield 12, 3) := by decide +kernel
theorem dX3_walkersTurn_51 : decode cX3_walkersTurn 51 = .ok (.getfield 74, 3) := by decide +kernel
theorem dX3_walkersTurn_54 : decode cX3_walkersTurn 54 = .ok (.iconst 1, 1) := by decide +kernel
theorem dX3_walkersTurn_55 : decode cX3_walkersTurn 55 = .ok (.isub, 1) := by decide +kernel
theorem dX3_walkersTurn_56 : decode cX3_walkersTurn 56 = .ok (.if_icmp .ge 21, 3) := by decide +kernel
theorem dX3_walkersTurn_59 : decode cX3_walkersTurn 59 = .ok (.iload 4, 2) := by decide +kernel
theorem dX3_walkersTurn_61 : decode cX3_walkersTurn 61 = .ok (.aload_n 0, 1) := by decide +kernel
theorem dX3_walkersTurn_62 : decode cX3_walkersTurn 62 = .ok (.iload_n 1, 1) := by decide +kernel
theorem dX3_walkersTurn_63 : decode cX3_walkersTurn 63 = .ok (.iconst 1, 1) := by decide +kernel
theorem dX3_walkersTurn_64 : decode cX3_walkersTurn 64 = .ok (.isub, 1) := by decide +kernel
theorem dX3_walkersTurn_65 : decode cX3_walkersTurn 65 = .ok (.iload_n 2, 1) := by decide +kernel
theorem dX3_walkersTurn_66 : decode cX3_walkersTurn 66 = .ok (.iconst 1, 1) := by decide +kernel
theorem dX3_walkersTurn_67 : decode cX3_walkersTurn 67 = .ok (.iadd, 1) := by decide +kernel
theorem dX3_walkersTurn_68 : decode cX3_walkersTurn 68 = .ok (.iload_n 3, 1) := by decide +kernel
theorem dX3_walkersTurn_69 : decode cX3_walkersTurn 69 = .ok (.invokevirtual 133, 3) := by decide +kernel
theorem dX3_walkersTurn_72 : decode cX3_walkersTurn 72 = .ok (.invokestatic 89, 3) := by decide +kernel
theorem dX3_walkersTurn_75 : decode cX3_walkersTurn 75 = .ok (.istore 4, 2) := by decide +kernel
theorem dX3_walkersTurn_77 : decode cX3_walkersTurn 77 = .ok (.iload 4, 2) := by decide +kernel
theorem dX3_walkersTurn_79 : decode cX3_walkersTurn 79 = .ok (.ireturn, 1) := by decide +kernel
theorem dX3_courtsTurn_0 : decode cX3_courtsTurn 0 = .ok (.iload_n 1, 1) := by decide +kernel
theorem dX3_courtsTurn_1 : decode cX3_courtsTurn 1 = .ok (.ifCond .gt 12, 3) := by decide +kernel
theorem dX3_courtsTurn_4 : decode cX3_courtsTurn 4 = .ok (.aload_n 0, 1) := by decide +kernel
theorem dX3_courtsTurn_5 : decode cX3_courtsTurn 5 = .ok (.getfield 20, 3) := by decide +kernel
theorem dX3_courtsTurn_8 : decode cX3_courtsTurn 8 = .ok (.iload_n 3, 1) := by decide +kernel
theorem dX3_courtsTurn_9 : decode cX3_courtsTurn 9 = .ok (.aaload, 1) := by decide +kernel
theorem dX3_courtsTurn_10 : decode cX3_courtsTurn 10 = .ok (.iload_n 2, 1) := by decide +kernel
theorem dX3_courtsTurn_11 : decode cX3_courtsTurn 11 = .ok (.iaload, 1) := by decide +kernel
theorem dX3_courtsTurn_12 : decode cX3_courtsTurn 12 = .ok (.ireturn, 1) := by decide +kernel
theorem dX3_courtsTurn_13 : decode cX3_courtsTurn 13 = .ok (.aload_n 0, 1) := by decide +kernel
theorem dX3_courtsTurn_14 : decode cX3_courtsTurn 14 = .ok (.iload_n 1, 1) := by decide +kernel
theorem dX3_courtsTurn_15 : decode cX3_courtsTurn 15 = .ok (.iconst 1, 1) := by decide +kernel
theorem dX3_courtsTurn_16 : decode cX3_courtsTurn 16 = .ok (.isub, 1) := by decide +kernel
theorem dX3_courtsTurn_17 : decode cX3_courtsTurn 17 = .ok (.iload_n 2, 1) := by decide +kernel
theorem dX3_courtsTurn_18 : decode cX3_courtsTurn 18 = .ok (.iload_n 3, 1) := by decide +kernel
theorem dX3_courtsTurn_19 : decode cX3_courtsTurn 19 = .ok (.invokevirtual 129, 3) := by decide +kernel
theorem dX3_courtsTurn_22 : decode cX3_courtsTurn 22 = .ok (.aload_n 0, 1) := by decide +kernel
theorem dX3_courtsTurn_23 : decode cX3_courtsTurn 23 = .ok (.iload_n 1, 1) := by decide +kernel
theorem dX3_courtsTurn_24 : decode cX3_courtsTurn 24 = .ok (.iconst 1, 1) := by decide +kernel
theorem dX3_courtsTurn_25 : decode cX3_courtsTurn 25 = .ok (.isub, 1) := by decide +kernel
theorem dX3_courtsTurn_26 : decode cX3_courtsTurn 26 = .ok (.iload_n 2, 1) := by decide +kernel
theorem dX3_courtsTurn_27 : decode cX3_courtsTurn 27 = .ok (.iconst 1, 1) := by decide +kernel
theorem dX3_courtsTurn_28 : decode cX3_courtsTurn 28 = .ok (.iload_n 3, 1) := by decide +kernel
theorem dX3_courtsTurn_29 : decode cX3_courtsTurn 29 = .ok (.isub, 1) := by decide +kernel
theorem dX3_courtsTurn_30 : decode cX3_courtsTurn 30 = .ok (.invokevirtual 129, 3) := by decide +kernel
theorem dX3_courtsTurn_33 : decode cX3_courtsTurn 33 = .ok (.invokestatic 84, 3) := by decide +kernel
theorem dX3_courtsTurn_36 : decode cX3_courtsTurn 36 = .ok (.ireturn, 1) := by decide +kernel
theorem dX3_hear_0 : decode cX3_hear 0 = .ok (.aload_n 0, 1) := by decide +kernel
theorem dX3_hear_1 : decode cX3_hear 1 = .ok (.iload_n 3, 1) := by decide +kernel
theorem dX3_hear_2 : decode cX3_hear 2 = .ok (.bipush 12, 2) := by decide +kernel
theorem dX3_hear_4 : decode cX3_hear 4 = .ok (.invokestatic 89, 3) := by decide +kernel
theorem dX3_hear_7 : decode cX3_hear 7 = .ok (.putfield 136, 3) := by decide +kernel
theorem dX3_hear_10 : decode cX3_hear 10 = .ok (.aload_n 1, 1) := by decide +kernel
theorem dX3_hear_11 : decode cX3_hear 11 = .ok (.getfield 139, 3) := by decide +kernel
theorem dX3_hear_14 : decode cX3_hear 14 = .ok (.iload_n 2, 1) := by decide +kernel
theorem dX3_hear_15 : decode cX3_hear 15 = .ok (.aload_n 0, 1) := by decide +kernel
theorem dX3_hear_16 : decode cX3_hear 16 = .ok (.getfield 30, 3) := by decide +kernel
theorem dX3_hear_19 : decode cX3_hear 19 = .ok (.iconst 0, 1) := by decide +kernel
theorem dX3_hear_20 : decode cX3_hear 20 = .ok (.aload_n 0, 1) := by decide +kernel
theorem dX3_hear_21 : decode cX3_hear 21 = .ok (.getfield 136, 3) := by decide +kernel
theorem dX3_hear_24 : decode cX3_hear 24 = .ok (.invokestatic 144, 3) := by decide +kernel
theorem dX3_hear_27 : decode cX3_hear 27 = .ok (.return_, 1) := by decide +kernel
theorem dX3_fitting_0 : decode cX3_fitting 0 = .ok (.iload_n 2, 1) := by decide +kernel
theorem dX3_fitting_1 : decode cX3_fitting 1 = .ok (.iconst 1, 1) := by decide +kernel
theorem dX3_fitting_2 : decode cX3_fitting 2 = .ok (.if_icmp .eq 8, 3) := by decide +kernel
theorem dX3_fitting_5 : decode cX3_fitting 5 = .ok (.iload_n 2, 1) := by decide +kernel
theorem dX3_fitting_6 : decode cX3_fitting 6 = .ok (.iconst 3, 1) := by decide +kernel
theorem dX3_fitting_7 : decode cX3_fitting 7 = .ok (.if_icmp .ne 7, 3) := by decide +kernel
theorem dX3_fitting_10 : decode cX3_fitting 10 = .ok (.iconst 0, 1) := by decide +kernel
theorem dX3_fitting_11 : decode cX3_fitting 11 = .ok (.goto 4, 3) := by decide +kernel
theorem dX3_fitting_14 : decode cX3_fitting 14 = .ok (.iconst 1, 1) := by decide +kernel
theorem dX3_fitting_15 : decode cX3_fitting 15 = .ok (.istore 4, 2) := by decide +kernel
theorem dX3_fitting_17 : decode cX3_fitting 17 = .ok (.aload_n 1, 1) := by decide +kernel
theorem dX3_fitting_18 : decode cX3_fitting 18 = .ok (.iload_n 2, 1) := by decide +kernel
theorem dX3_fitting_19 : decode cX3_fitting 19 = .ok (.invokestatic 150, 3) := by decide +kernel
theorem dX3_fitting_22 : decode cX3_fitting 22 = .ok (.istore 5, 2) := by decide +kernel
theorem dX3_fitting_24 : decode cX3_fitting 24 = .ok (.iconst 0, 1) := by decide +kernel
theorem dX3_fitting_25 : decode cX3_fitting 25 = .ok (.istore 6, 2) := by decide +kernel
theorem dX3_fitting_27 : decode cX3_fitting 27 = .ok (.iload 4, 2) := by decide +kernel
theorem dX3_fitting_29 : decode cX3_fitting 29 = .ok (.istore 7, 2) := by decide +kernel
theorem dX3_fitting_31 : decode cX3_fitting 31 = .ok (.iload 7, 2) := by decide +kernel
theorem dX3_fitting_33 : decode cX3_fitting 33 = .ok (.iload 5, 2) := by decide +kernel
theorem dX3_fitting_35 : decode cX3_fitting 35 = .ok (.if_icmp .gt 45, 3) := by decide +kernel
theorem dX3_fitting_38 : decode cX3_fitting 38 = .ok (.aload_n 0, 1) := by decide +kernel
theorem dX3_fitting_39 : decode cX3_fitting 39 = .ok (.getfield 12, 3) := by decide +kernel
theorem dX3_fitting_42 : decode cX3_fitting 42 = .ok (.aload_n 1, 1) := by decide +kernel
theorem dX3_fitting_43 : decode cX3_fitting 43 = .ok (.invokevirtual 33, 3) := by decide +kernel
theorem dX3_fitting_46 : decode cX3_fitting 46 = .ok (.aload_n 0, 1) := by decide +kernel
theorem dX3_fitting_47 : decode cX3_fitting 47 = .ok (.iload_n 2, 1) := by decide +kernel
theorem dX3_fitting_48 : decode cX3_fitting 48 = .ok (.iload_n 3, 1) := by decide +kernel
theorem dX3_fitting_49 : decode cX3_fitting 49 = .ok (.iload 7, 2) := by decide +kernel
theorem dX3_fitting_51 : decode cX3_fitting 51 = .ok (.invokevirtual 154, 3) := by decide +kernel
theorem dX3_fitting_54 : decode cX3_fitting 54 = .ok (.iload 6, 2) := by decide +kernel
theorem dX3_fitting_56 : decode cX3_fitting 56 = .ok (.aload_n 0, 1) := by decide +kernel
theorem dX3_fitting_57 : decode cX3_fitting 57 = .ok (.invokevirtual 158, 3) := by decide +kernel
theorem dX3_fitting_60 : decode cX3_fitting 60 = .ok (.ifCond .eq 10, 3) := by decide +kernel
theorem dX3_fitting_63 : decode cX3_fitting 63 = .ok (.iconst 1, 1) := by decide +kernel
theorem dX3_fitting_64 : decode cX3_fitting 64 = .ok (.iload 7, 2) := by decide +kernel
theorem dX3_fitting_66 : decode cX3_fitting 66 = .ok (.ishl, 1) := by decide +kernel
theorem dX3_fitting_67 : decode cX3_fitting 67 = .ok (.goto 4, 3) := by decide +kernel
theorem dX3_fitting_70 : decode cX3_fitting 70 = .ok (.iconst 0, 1) := by decide +kernel
theorem dX3_fitting_71 : decode cX3_fitting 71 = .ok (.ior, 1) := by decide +kernel
theorem dX3_fitting_72 : decode cX3_fitting 72 = .ok (.istore 6, 2) := by decide +kernel
theorem dX3_fitting_74 : decode cX3_fitting 74 = .ok (.iinc 7 1, 3) := by decide +kernel
theorem dX3_fitting_77 : decode cX3_fitting 77 = .ok (.goto (-46), 3) := by decide +kernel
theorem dX3_fitting_80 : decode cX3_fitting 80 = .ok (.iload 6, 2) := by decide +kernel
theorem dX3_fitting_82 : decode cX3_fitting 82 = .ok (.ireturn, 1) := by decide +kernel
theorem dX3_mostOf_0 : decode cX3_mostOf 0 = .ok (.iload_n 1, 1) := by decide +kernel
theorem dX3_mostOf_1 : decode cX3_mostOf 1 = .ok (.tableswitch 39 0 2 #[27, 29, 36], 27) := by decide +kernel
theorem dX3_mostOf_28 : decode cX3_mostOf 28 = .ok (.iconst 5, 1) := by decide +kernel
theorem dX3_mostOf_29 : decode cX3_mostOf 29 = .ok (.ireturn, 1) := by decide +kernel
theorem dX3_mostOf_30 : decode cX3_mostOf 30 = .ok (.aload_n 0, 1) := by decide +kernel
theorem dX3_mostOf_31 : decode cX3_mostOf 31 = .ok (.getfield 74, 3) := by decide +kernel
theorem dX3_mostOf_34 : decode cX3_mostOf 34 = .ok (.iconst 1, 1) := by decide +kernel
theorem dX3_mostOf_35 : decode cX3_mostOf 35 = .ok (.isub, 1) := by decide +kernel
theorem dX3_mostOf_36 : decode cX3_mostOf 36 = .ok (.ireturn, 1) := by decide +kernel
theorem dX3_mostOf_37 : decode cX3_mostOf 37 = .ok (.bipush 9, 2) := by decide +kernel
theorem dX3_mostOf_39 : decode cX3_mostOf 39 = .ok (.ireturn, 1) := by decide +kernel
theorem dX3_mostOf_40 : decode cX3_mostOf 40 = .ok (.iconst 4, 1) := by decide +kernel
theorem dX3_mostOf_41 : decode cX3_mostOf 41 = .ok (.ireturn, 1) := by decide +kernel
theorem dX3_suppose_0 : decode cX3_suppose 0 = .ok (.iload_n 1, 1) := by decide +kernel
theorem dX3_suppose_1 : decode cX3_suppose 1 = .ok (.tableswitch 66 0 2 #[27, 40, 53], 27) := by decide +kernel
theorem dX3_suppose_28 : decode cX3_suppose 28 = .ok (.aload_n 0, 1) := by decide +kernel
theorem dX3_suppose_29 : decode cX3_suppose 29 = .ok (.getfield 12, 3) := by decide +kernel
theorem dX3_suppose_32 : decode cX3_suppose 32 = .ok (.getfield 161, 3) := by decide +kernel
theorem dX3_suppose_35 : decode cX3_suppose 35 = .ok (.iload_n 2, 1) := by decide +kernel
theorem dX3_suppose_36 : decode cX3_suppose 36 = .ok (.iload_n 3, 1) := by decide +kernel
theorem dX3_suppose_37 : decode cX3_suppose 37 = .ok (.iastore, 1) := by decide +kernel
theorem dX3_suppose_38 : decode cX3_suppose 38 = .ok (.goto 39, 3) := by decide +kernel
theorem dX3_suppose_41 : decode cX3_suppose 41 = .ok (.aload_n 0, 1) := by decide +kernel
theorem dX3_suppose_42 : decode cX3_suppose 42 = .ok (.getfield 12, 3) := by decide +kernel
theorem dX3_suppose_45 : decode cX3_suppose 45 = .ok (.getfield 164, 3) := by decide +kernel
theorem dX3_suppose_48 : decode cX3_suppose 48 = .ok (.iload_n 2, 1) := by decide +kernel
theorem dX3_suppose_49 : decode cX3_suppose 49 = .ok (.iload_n 3, 1) := by decide +kernel
theorem dX3_suppose_50 : decode cX3_suppose 50 = .ok (.iastore, 1) := by decide +kernel
theorem dX3_suppose_51 : decode cX3_suppose 51 = .ok (.goto 26, 3) := by decide +kernel
theorem dX3_suppose_54 : decode cX3_suppose 54 = .ok (.aload_n 0, 1) := by decide +kernel
theorem dX3_suppose_55 : decode cX3_suppose 55 = .ok (.getfield 12, 3) := by decide +kernel
theorem dX3_suppose_58 : decode cX3_suppose 58 = .ok (.getfield 167, 3) := by decide +kernel
theorem dX3_suppose_61 : decode cX3_suppose 61 = .ok (.iload_n 2, 1) := by decide +kernel
theorem dX3_suppose_62 : decode cX3_suppose 62 = .ok (.iload_n 3, 1) := by decide +kernel
theorem dX3_suppose_63 : decode cX3_suppose 63 = .ok (.iastore, 1) := by decide +kernel
theorem dX3_suppose_64 : decode cX3_suppose 64 = .ok (.goto 13, 3) := by decide +kernel
theorem dX3_suppose_67 : decode cX3_suppose 67 = .ok (.aload_n 0, 1) := by decide +kernel
theorem dX3_suppose_68 : decode cX3_suppose 68 = .ok (.getfield 12, 3) := by decide +kernel
theorem dX3_suppose_71 : decode cX3_suppose 71 = .ok (.getfield 126, 3) := by decide +kernel
theorem dX3_suppose_74 : decode cX3_suppose 74 = .ok (.iload_n 2, 1) := by decide +kernel
theorem dX3_suppose_75 : decode cX3_suppose 75 = .ok (.iload_n 3, 1) := by decide +kernel
theorem dX3_suppose_76 : decode cX3_suppose 76 = .ok (.iastore, 1) := by decide +kernel
theorem dX3_suppose_77 : decode cX3_suppose 77 = .ok (.return_, 1) := by decide +kernel
theorem dX3_isAsTold_0 : decode cX3_isAsTold 0 = .ok (.iconst 0, 1) := by decide +kernel
theorem dX3_isAsTold_1 : decode cX3_isAsTold 1 = .ok (.istore_n 1, 1) := by decide +kernel
theorem dX3_isAsTold_2 : decode cX3_isAsTold 2 = .ok (.iload_n 1, 1) := by decide +kernel
theorem dX3_isAsTold_3 : decode cX3_isAsTold 3 = .ok (.aload_n 0, 1) := by decide +kernel
theorem dX3_isAsTold_4 : decode cX3_isAsTold 4 = .ok (.getfield 136, 3) := by decide +kernel
theorem dX3_isAsTold_7 : decode cX3_isAsTold 7 = .ok (.if_icmp .ge 41, 3) := by decide +kernel
theorem dX3_isAsTold_10 : decode cX3_isAsTold 10 = .ok (.aload_n 0, 1) := by decide +kernel
theorem dX3_isAsTold_11 : decode cX3_isAsTold 11 = .ok (.getfield 12, 3) := by decide +kernel
theorem dX3_isAsTold_14 : decode cX3_isAsTold 14 = .ok (.invokevirtual 37, 3) := by decide +kernel
theorem dX3_isAsTold_17 : decode cX3_isAsTold 17 = .ok (.aload_n 0, 1) := by decide +kernel
theorem dX3_isAsTold_18 : decode cX3_isAsTold 18 = .ok (.getfield 12, 3) := by decide +kernel
theorem dX3_isAsTold_21 : decode cX3_isAsTold 21 = .ok (.aload_n 0, 1) := by decide +kernel
theorem dX3_isAsTold_22 : decode cX3_isAsTold 22 = .ok (.getfield 12, 3) := by decide +kernel
theorem dX3_isAsTold_25 : decode cX3_isAsTold 25 = .ok (.getfield 56, 3) := by decide +kernel
theorem dX3_isAsTold_28 : decode cX3_isAsTold 28 = .ok (.invokevirtual 80, 3) := by decide +kernel
theorem dX3_isAsTold_31 : decode cX3_isAsTold 31 = .ok (.aload_n 0, 1) := by decide +kernel
theorem dX3_isAsTold_32 : decode cX3_isAsTold 32 = .ok (.getfield 30, 3) := by decide +kernel
theorem dX3_isAsTold_35 : decode cX3_isAsTold 35 = .ok (.iload_n 1, 1) := by decide +kernel
theorem dX3_isAsTold_36 : decode cX3_isAsTold 36 = .ok (.iaload, 1) := by decide +kernel
theorem dX3_isAsTold_37 : decode cX3_isAsTold 37 = .ok (.if_icmp .eq 5, 3) := by decide +kernel
theorem dX3_isAsTold_40 : decode cX3_isAsTold 40 = .ok (.iconst 0, 1) := by decide +kernel
theorem dX3_isAsTold_41 : decode cX3_isAsTold 41 = .ok (.ireturn, 1) := by decide +kernel
theorem dX3_isAsTold_42 : decode cX3_isAsTold 42 = .ok (.iinc 1 1, 3) := by decide +kernel
theorem dX3_isAsTold_45 : decode cX3_isAsTold 45 = .ok (.goto (-43), 3) := by decide +kernel
theorem dX3_isAsTold_48 : decode cX3_isAsTold 48 = .ok (.iconst 1, 1) := by decide +kernel
theorem dX3_isAsTold_49 : decode cX3_isAsTold 49 = .ok (.ireturn, 1) := by decide +kernel
theorem dX3_drawYears_0 : decode cX3_drawYears 0 = .ok (.aload_n 0, 1) := by decide +kernel
theorem dX3_drawYears_1 : decode cX3_drawYears 1 = .ok (.getfield 12, 3) := by decide +kernel
theorem dX3_drawYears_4 : decode cX3_drawYears 4 = .ok (.aload_n 1, 1) := by decide +kernel
theorem dX3_drawYears_5 : decode cX3_drawYears 5 = .ok (.invokevirtual 33, 3) := by decide +kernel
theorem dX3_drawYears_8 : decode cX3_drawYears 8 = .ok (.iload_n 3, 1) := by decide +kernel
theorem dX3_drawYears_9 : decode cX3_drawYears 9 = .ok (.i2l, 1) := by decide +kernel
theorem dX3_drawYears_10 : decode cX3_drawYears 10 = .ok (.lstore 5, 2) := by decide +kernel
theorem dX3_drawYears_12 : decode cX3_drawYears 12 = .ok (.iconst 0, 1) := by decide +kernel
theorem dX3_drawYears_13 : decode cX3_drawYears 13 = .ok (.istore 7, 2) := by decide +kernel
theorem dX3_drawYears_15 : decode cX3_drawYears 15 = .ok (.iconst 0, 1) := by decide +kernel
theorem dX3_drawYears_16 : decode cX3_drawYears 16 = .ok (.istore 8, 2) := by decide +kernel
theorem dX3_drawYears_18 : decode cX3_drawYears 18 = .ok (.iload 8, 2) := by decide +kernel
theorem dX3_drawYears_20 : decode cX3_drawYears 20 = .ok (.iload_n 2, 1) := by decide +kernel
theorem dX3_drawYears_21 : decode cX3_drawYears 21 = .ok (.if_icmp .ge 54, 3) := by decide +kernel
theorem dX3_drawYears_24 : decode cX3_drawYears 24 = .ok (.lload 5, 2) := by decide +kernel
theorem dX3_drawYears_26 : decode cX3_drawYears 26 = .ok (.ldc2_w 170, 3) := by decide +kernel
theorem dX3_drawYears_29 : decode cX3_drawYears 29 = .ok (.lmul, 1) := by decide +kernel
theorem dX3_drawYears_30 : decode cX3_drawYears 30 = .ok (.ldc2_w 172, 3) := by decide +kernel
theorem dX3_drawYears_33 : decode cX3_drawYears 33 = .ok (.lrem, 1) := by decide +kernel
theorem dX3_drawYears_34 : decode cX3_drawYears 34 = .ok (.lstore 5, 2) := by decide +kernel
theorem dX3_drawYears_36 : decode cX3_drawYears 36 = .ok (.aload_n 0, 1) := by decide +kernel
theorem dX3_drawYears_37 : decode cX3_drawYears 37 = .ok (.lload 5, 2) := by decide +kernel
theorem dX3_drawYears_39 : decode cX3_drawYears 39 = .ok (.l2i, 1) := by decide +kernel
theorem dX3_drawYears_40 : decode cX3_drawYears 40 = .ok (.invokevirtual 174, 3) := by decide +kernel
theorem dX3_drawYears_43 : decode cX3_drawYears 43 = .ok (.aload_n 0, 1) := by decide +kernel
theorem dX3_drawYears_44 : decode cX3_drawYears 44 = .ok (.getfield 12, 3) := by decide +kernel
theorem dX3_drawYears_47 : decode cX3_drawYears 47 = .ok (.invokevirtual 37, 3) := by decide +kernel
theorem dX3_drawYears_50 : decode cX3_drawYears 50 = .ok (.iload 7, 2) := by decide +kernel
theorem dX3_drawYears_52 : decode cX3_drawYears 52 = .ok (.aload_n 0, 1) := by decide +kernel
theorem dX3_drawYears_53 : decode cX3_drawYears 53 = .ok (.getfield 12, 3) := by decide +kernel
theorem dX3_drawYears_56 : decode cX3_drawYears 56 = .ok (.aload_n 0, 1) := by decide +kernel
theorem dX3_drawYears_57 : decode cX3_drawYears 57 = .ok (.getfield 12, 3) := by decide +kernel
theorem dX3_drawYears_60 : decode cX3_drawYears 60 = .ok (.getfield 113, 3) := by decide +kernel
theorem dX3_drawYears_63 : decode cX3_drawYears 63 = .ok (.invokevirtual 80, 3) := by decide +kernel
theorem dX3_drawYears_66 : decode cX3_drawYears 66 = .ok (.iadd, 1) := by decide +kernel
theorem dX3_drawYears_67 : decode cX3_drawYears 67 = .ok (.istore 7, 2) := by decide +kernel
theorem dX3_drawYears_69 : decode cX3_drawYears 69 = .ok (.iinc 8 1, 3) := by decide +kernel
theorem dX3_drawYears_72 : decode cX3_drawYears 72 = .ok (.goto (-54), 3) := by decide +kernel
theorem dX3_drawYears_75 : decode cX3_drawYears 75 = .ok (.iload 4, 2) := by decide +kernel
theorem dX3_drawYears_77 : decode cX3_drawYears 77 = .ok (.ifCond .ne 13, 3) := by decide +kernel
theorem dX3_drawYears_80 : decode cX3_drawYears 80 = .ok (.aload_n 0, 1) := by decide +kernel
theorem dX3_drawYears_81 : decode cX3_drawYears 81 = .ok (.getfield 12, 3) := by decide +kernel
theorem dX3_drawYears_84 : decode cX3_drawYears 84 = .ok (.getfield 178, 3) := by decide +kernel
theorem dX3_drawYears_87 : decode cX3_drawYears 87 = .ok (.goto 5, 3) := by decide +kernel
theorem dX3_drawYears_90 : decode cX3_drawYears 90 = .ok (.iload 7, 2) := by decide +kernel
theorem dX3_drawYears_92 : decode cX3_drawYears 92 = .ok (.ireturn, 1) := by decide +kernel
theorem dX3_drawOne_0 : decode cX3_drawOne 0 = .ok (.aload_n 0, 1) := by decide +kernel
theorem dX3_drawOne_1 : decode cX3_drawOne 1 = .ok (.getfield 12, 3) := by decide +kernel
theorem dX3_drawOne_4 : decode cX3_drawOne 4 = .ok (.getfield 181, 3) := by decide +kernel
theorem dX3_drawOne_7 : decode cX3_drawOne 7 = .ok (.ifCond .le 23, 3) := by decide +kernel
theorem dX3_drawOne_10 : decode cX3_drawOne 10 = .ok (.aload_n 0, 1) := by decide +kernel
theorem dX3_drawOne_11 : decode cX3_drawOne 11 = .ok (.getfield 12, 3) := by decide +kernel
theorem dX3_drawOne_14 : decode cX3_drawOne 14 = .ok (.getfield 184, 3) := by decide +kernel
theorem dX3_drawOne_17 : decode cX3_drawOne 17 = .ok (.ifCond .le 13, 3) := by decide +kernel
theorem dX3_drawOne_20 : decode cX3_drawOne 20 = .ok (.aload_n 0, 1) := by decide +kernel
theorem dX3_drawOne_21 : decode cX3_drawOne 21 = .ok (.getfield 12, 3) := by decide +kernel
theorem dX3_drawOne_24 : decode cX3_drawOne 24 = .ok (.getfield 74, 3) := by decide +kernel
theorem dX3_drawOne_27 : decode cX3_drawOne 27 = .ok (.ifCond .gt 4, 3) := by decide +kernel
theorem dX3_drawOne_30 : decode cX3_drawOne 30 = .ok (.return_, 1) := by decide +kernel
theorem dX3_drawOne_31 : decode cX3_drawOne 31 = .ok (.iload_n 1, 1) := by decide +kernel
theorem dX3_drawOne_32 : decode cX3_drawOne 32 = .ok (.iconst 3, 1) := by decide +kernel
theorem dX3_drawOne_33 : decode cX3_drawOne 33 = .ok (.irem, 1) := by decide +kernel
theorem dX3_drawOne_34 : decode cX3_drawOne 34 = .ok (.ifCond .ne 23, 3) := by decide +kernel
theorem dX3_drawOne_37 : decode cX3_drawOne 37 = .ok (.aload_n 0, 1) := by decide +kernel
theorem dX3_drawOne_38 : decode cX3_drawOne 38 = .ok (.getfield 12, 3) := by decide +kernel
theorem dX3_drawOne_41 : decode cX3_drawOne 41 = .ok (.getfield 126, 3) := by decide +kernel
theorem dX3_drawOne_44 : decode cX3_drawOne 44 = .ok (.iload_n 1, 1) := by decide +kernel
theorem dX3_drawOne_45 : decode cX3_drawOne 45 = .ok (.aload_n 0, 1) := by decide +kernel
theorem dX3_drawOne_46 : decode cX3_drawOne 46 = .ok (.getfield 12, 3) := by decide +kernel
theorem dX3_drawOne_49 : decode cX3_drawOne 49 = .ok (.getfield 181, 3) := by decide +kernel
theorem dX3_drawOne_52 : decode cX3_drawOne 52 = .ok (.irem, 1) := by decide +kernel
theorem dX3_drawOne_53 : decode cX3_drawOne 53 = .ok (.iload_n 1, 1) := by decide +kernel
theorem dX3_drawOne_54 : decode cX3_drawOne 54 = .ok (.iconst 5, 1) := by decide +kernel
theorem dX3_drawOne_55 : decode cX3_drawOne 55 = .ok (.irem, 1) := by decide +kernel
theorem dX3_drawOne_56 : decode cX3_drawOne 56 = .ok (.iastore, 1) := by decide +kernel
theorem dX3_drawOne_57 : decode cX3_drawOne 57 = .ok (.iload_n 1, 1) := by decide +kernel
theorem dX3_drawOne_58 : decode cX3_drawOne 58 = .ok (.aload_n 0, 1) := by decide +kernel
theorem dX3_drawOne_59 : decode cX3_drawOne 59 = .ok (.getfield 12, 3) := by decide +kernel
theorem dX3_drawOne_62 : decode cX3_drawOne 62 = .ok (.getfield 184, 3) := by decide +kernel
theorem dX3_drawOne_65 : decode cX3_drawOne 65 = .ok (.irem, 1) := by decide +kernel
theorem dX3_drawOne_66 : decode cX3_drawOne 66 = .ok (.istore_n 2, 1) := by decide +kernel
theorem dX3_drawOne_67 : decode cX3_drawOne 67 = .ok (.aload_n 0, 1) := by decide +kernel
theorem dX3_drawOne_68 : decode cX3_drawOne 68 = .ok (.getfield 12, 3) := by decide +kernel
theorem dX3_drawOne_71 : decode cX3_drawOne 71 = .ok (.iload_n 2, 1) := by decide +kernel
theorem dX3_drawOne_72 : decode cX3_drawOne 72 = .ok (.invokevirtual 40, 3) := by decide +kernel
theorem dX3_drawOne_75 : decode cX3_drawOne 75 = .ok (.ifCond .ne 26, 3) := by decide +kernel
theorem dX3_drawOne_78 : decode cX3_drawOne 78 = .ok (.aload_n 0, 1) := by decide +kernel
theorem dX3_drawOne_79 : decode cX3_drawOne 79 = .ok (.getfield 12, 3) := by decide +kernel
theorem dX3_drawOne_82 : decode cX3_drawOne 82 = .ok (.iload_n 2, 1) := by decide +kernel
theorem dX3_drawOne_83 : decode cX3_drawOne 83 = .ok (.iload_n 1, 1) := by decide +kernel
theorem dX3_drawOne_84 : decode cX3_drawOne 84 = .ok (.aload_n 0, 1) := by decide +kernel
