theorem dX3_drawOne_85 : decode cX3_drawOne 85 = .ok (.getfield 12, 3) := by decide +kernel
theorem dX3_drawOne_88 : decode cX3_drawOne 88 = .ok (.getfield 74, 3) := by decide +kernel
theorem dX3_drawOne_91 : decode cX3_drawOne 91 = .ok (.irem, 1) := by decide +kernel
theorem dX3_drawOne_92 : decode cX3_drawOne 92 = .ok (.iload_n 1, 1) := by decide +kernel
theorem dX3_drawOne_93 : decode cX3_drawOne 93 = .ok (.bipush 9, 2) := by decide +kernel
theorem dX3_drawOne_95 : decode cX3_drawOne 95 = .ok (.irem, 1) := by decide +kernel
theorem dX3_drawOne_96 : decode cX3_drawOne 96 = .ok (.iconst 1, 1) := by decide +kernel
theorem dX3_drawOne_97 : decode cX3_drawOne 97 = .ok (.iadd, 1) := by decide +kernel
theorem dX3_drawOne_98 : decode cX3_drawOne 98 = .ok (.invokevirtual 187, 3) := by decide +kernel
theorem dX3_drawOne_101 : decode cX3_drawOne 101 = .ok (.return_, 1) := by decide +kernel
theorem dX4_init_0 : decode cX4_init 0 = .ok (.aload_n 0, 1) := by decide +kernel
theorem dX4_init_1 : decode cX4_init 1 = .ok (.invokespecial 3, 3) := by decide +kernel
theorem dX4_init_4 : decode cX4_init 4 = .ok (.aload_n 0, 1) := by decide +kernel
theorem dX4_init_5 : decode cX4_init 5 = .ok (.new 9, 3) := by decide +kernel
theorem dX4_init_8 : decode cX4_init 8 = .ok (.dup, 1) := by decide +kernel
theorem dX4_init_9 : decode cX4_init 9 = .ok (.invokespecial 11, 3) := by decide +kernel
theorem dX4_init_12 : decode cX4_init 12 = .ok (.putfield 12, 3) := by decide +kernel
theorem dX4_init_15 : decode cX4_init 15 = .ok (.aload_n 0, 1) := by decide +kernel
theorem dX4_init_16 : decode cX4_init 16 = .ok (.bipush 120, 2) := by decide +kernel
theorem dX4_init_18 : decode cX4_init 18 = .ok (.newarray .int, 2) := by decide +kernel
theorem dX4_init_20 : decode cX4_init 20 = .ok (.putfield 18, 3) := by decide +kernel
theorem dX4_init_23 : decode cX4_init 23 = .ok (.return_, 1) := by decide +kernel
theorem dX4_append_0 : decode cX4_append 0 = .ok (.aload_n 0, 1) := by decide +kernel
theorem dX4_append_1 : decode cX4_append 1 = .ok (.getfield 22, 3) := by decide +kernel
theorem dX4_append_4 : decode cX4_append 4 = .ok (.bipush 120, 2) := by decide +kernel
theorem dX4_append_6 : decode cX4_append 6 = .ok (.if_icmp .ge 23, 3) := by decide +kernel
theorem dX4_append_9 : decode cX4_append 9 = .ok (.aload_n 0, 1) := by decide +kernel
theorem dX4_append_10 : decode cX4_append 10 = .ok (.getfield 18, 3) := by decide +kernel
theorem dX4_append_13 : decode cX4_append 13 = .ok (.aload_n 0, 1) := by decide +kernel
theorem dX4_append_14 : decode cX4_append 14 = .ok (.getfield 22, 3) := by decide +kernel
theorem dX4_append_17 : decode cX4_append 17 = .ok (.iload_n 1, 1) := by decide +kernel
theorem dX4_append_18 : decode cX4_append 18 = .ok (.iastore, 1) := by decide +kernel
theorem dX4_append_19 : decode cX4_append 19 = .ok (.aload_n 0, 1) := by decide +kernel
theorem dX4_append_20 : decode cX4_append 20 = .ok (.dup, 1) := by decide +kernel
theorem dX4_append_21 : decode cX4_append 21 = .ok (.getfield 22, 3) := by decide +kernel
theorem dX4_append_24 : decode cX4_append 24 = .ok (.iconst 1, 1) := by decide +kernel
theorem dX4_append_25 : decode cX4_append 25 = .ok (.iadd, 1) := by decide +kernel
theorem dX4_append_26 : decode cX4_append 26 = .ok (.putfield 22, 3) := by decide +kernel
theorem dX4_append_29 : decode cX4_append 29 = .ok (.return_, 1) := by decide +kernel
theorem dX4_read_0 : decode cX4_read 0 = .ok (.aload_n 0, 1) := by decide +kernel
theorem dX4_read_1 : decode cX4_read 1 = .ok (.iconst 0, 1) := by decide +kernel
theorem dX4_read_2 : decode cX4_read 2 = .ok (.putfield 26, 3) := by decide +kernel
theorem dX4_read_5 : decode cX4_read 5 = .ok (.aload_n 0, 1) := by decide +kernel
theorem dX4_read_6 : decode cX4_read 6 = .ok (.iconst 0, 1) := by decide +kernel
theorem dX4_read_7 : decode cX4_read 7 = .ok (.putfield 29, 3) := by decide +kernel
theorem dX4_read_10 : decode cX4_read 10 = .ok (.aload_n 0, 1) := by decide +kernel
theorem dX4_read_11 : decode cX4_read 11 = .ok (.getfield 12, 3) := by decide +kernel
theorem dX4_read_14 : decode cX4_read 14 = .ok (.invokevirtual 32, 3) := by decide +kernel
theorem dX4_read_17 : decode cX4_read 17 = .ok (.aload_n 0, 1) := by decide +kernel
theorem dX4_read_18 : decode cX4_read 18 = .ok (.invokevirtual 35, 3) := by decide +kernel
theorem dX4_read_21 : decode cX4_read 21 = .ok (.aload_n 0, 1) := by decide +kernel
theorem dX4_read_22 : decode cX4_read 22 = .ok (.invokevirtual 38, 3) := by decide +kernel
theorem dX4_read_25 : decode cX4_read 25 = .ok (.aload_n 0, 1) := by decide +kernel
theorem dX4_read_26 : decode cX4_read 26 = .ok (.invokevirtual 41, 3) := by decide +kernel
theorem dX4_read_29 : decode cX4_read 29 = .ok (.iconst 0, 1) := by decide +kernel
theorem dX4_read_30 : decode cX4_read 30 = .ok (.istore_n 1, 1) := by decide +kernel
theorem dX4_read_31 : decode cX4_read 31 = .ok (.iload_n 1, 1) := by decide +kernel
theorem dX4_read_32 : decode cX4_read 32 = .ok (.bipush 6, 2) := by decide +kernel
theorem dX4_read_34 : decode cX4_read 34 = .ok (.if_icmp .ge 29, 3) := by decide +kernel
theorem dX4_read_37 : decode cX4_read 37 = .ok (.aload_n 0, 1) := by decide +kernel
theorem dX4_read_38 : decode cX4_read 38 = .ok (.getfield 26, 3) := by decide +kernel
theorem dX4_read_41 : decode cX4_read 41 = .ok (.ifCond .ne 22, 3) := by decide +kernel
theorem dX4_read_44 : decode cX4_read 44 = .ok (.aload_n 0, 1) := by decide +kernel
theorem dX4_read_45 : decode cX4_read 45 = .ok (.getfield 44, 3) := by decide +kernel
theorem dX4_read_48 : decode cX4_read 48 = .ok (.bipush 103, 2) := by decide +kernel
theorem dX4_read_50 : decode cX4_read 50 = .ok (.if_icmp .ne 13, 3) := by decide +kernel
theorem dX4_read_53 : decode cX4_read 53 = .ok (.aload_n 0, 1) := by decide +kernel
theorem dX4_read_54 : decode cX4_read 54 = .ok (.invokevirtual 41, 3) := by decide +kernel
theorem dX4_read_57 : decode cX4_read 57 = .ok (.iinc 1 1, 3) := by decide +kernel
theorem dX4_read_60 : decode cX4_read 60 = .ok (.goto (-29), 3) := by decide +kernel
theorem dX4_read_63 : decode cX4_read 63 = .ok (.aload_n 0, 1) := by decide +kernel
theorem dX4_read_64 : decode cX4_read 64 = .ok (.invokevirtual 47, 3) := by decide +kernel
theorem dX4_read_67 : decode cX4_read 67 = .ok (.iconst 0, 1) := by decide +kernel
theorem dX4_read_68 : decode cX4_read 68 = .ok (.istore_n 1, 1) := by decide +kernel
theorem dX4_read_69 : decode cX4_read 69 = .ok (.iload_n 1, 1) := by decide +kernel
theorem dX4_read_70 : decode cX4_read 70 = .ok (.bipush 6, 2) := by decide +kernel
theorem dX4_read_72 : decode cX4_read 72 = .ok (.if_icmp .ge 30, 3) := by decide +kernel
theorem dX4_read_75 : decode cX4_read 75 = .ok (.aload_n 0, 1) := by decide +kernel
theorem dX4_read_76 : decode cX4_read 76 = .ok (.getfield 26, 3) := by decide +kernel
theorem dX4_read_79 : decode cX4_read 79 = .ok (.ifCond .ne 23, 3) := by decide +kernel
theorem dX4_read_82 : decode cX4_read 82 = .ok (.aload_n 0, 1) := by decide +kernel
theorem dX4_read_83 : decode cX4_read 83 = .ok (.getfield 44, 3) := by decide +kernel
theorem dX4_read_86 : decode cX4_read 86 = .ok (.sipush 258, 3) := by decide +kernel
theorem dX4_read_89 : decode cX4_read 89 = .ok (.if_icmp .eq 13, 3) := by decide +kernel
theorem dX4_read_92 : decode cX4_read 92 = .ok (.aload_n 0, 1) := by decide +kernel
theorem dX4_read_93 : decode cX4_read 93 = .ok (.invokevirtual 47, 3) := by decide +kernel
theorem dX4_read_96 : decode cX4_read 96 = .ok (.iinc 1 1, 3) := by decide +kernel
theorem dX4_read_99 : decode cX4_read 99 = .ok (.goto (-30), 3) := by decide +kernel
theorem dX4_read_102 : decode cX4_read 102 = .ok (.aload_n 0, 1) := by decide +kernel
theorem dX4_read_103 : decode cX4_read 103 = .ok (.getfield 12, 3) := by decide +kernel
theorem dX4_read_106 : decode cX4_read 106 = .ok (.aload_n 0, 1) := by decide +kernel
theorem dX4_read_107 : decode cX4_read 107 = .ok (.getfield 26, 3) := by decide +kernel
theorem dX4_read_110 : decode cX4_read 110 = .ok (.ifCond .ne 7, 3) := by decide +kernel
theorem dX4_read_113 : decode cX4_read 113 = .ok (.iconst 1, 1) := by decide +kernel
theorem dX4_read_114 : decode cX4_read 114 = .ok (.goto 4, 3) := by decide +kernel
theorem dX4_read_117 : decode cX4_read 117 = .ok (.iconst 0, 1) := by decide +kernel
theorem dX4_read_118 : decode cX4_read 118 = .ok (.putfield 50, 3) := by decide +kernel
theorem dX4_read_121 : decode cX4_read 121 = .ok (.aload_n 0, 1) := by decide +kernel
theorem dX4_read_122 : decode cX4_read 122 = .ok (.iconst 0, 1) := by decide +kernel
theorem dX4_read_123 : decode cX4_read 123 = .ok (.putfield 22, 3) := by decide +kernel
theorem dX4_read_126 : decode cX4_read 126 = .ok (.return_, 1) := by decide +kernel
theorem dX4_readLaw_0 : decode cX4_readLaw 0 = .ok (.aload_n 0, 1) := by decide +kernel
theorem dX4_readLaw_1 : decode cX4_readLaw 1 = .ok (.bipush 101, 2) := by decide +kernel
theorem dX4_readLaw_3 : decode cX4_readLaw 3 = .ok (.invokevirtual 54, 3) := by decide +kernel
theorem dX4_readLaw_6 : decode cX4_readLaw 6 = .ok (.aload_n 0, 1) := by decide +kernel
theorem dX4_readLaw_7 : decode cX4_readLaw 7 = .ok (.getfield 12, 3) := by decide +kernel
theorem dX4_readLaw_10 : decode cX4_readLaw 10 = .ok (.aload_n 0, 1) := by decide +kernel
theorem dX4_readLaw_11 : decode cX4_readLaw 11 = .ok (.bipush 6, 2) := by decide +kernel
theorem dX4_readLaw_13 : decode cX4_readLaw 13 = .ok (.bipush 16, 2) := by decide +kernel
theorem dX4_readLaw_15 : decode cX4_readLaw 15 = .ok (.invokevirtual 58, 3) := by decide +kernel
theorem dX4_readLaw_18 : decode cX4_readLaw 18 = .ok (.putfield 62, 3) := by decide +kernel
theorem dX4_readLaw_21 : decode cX4_readLaw 21 = .ok (.aload_n 0, 1) := by decide +kernel
theorem dX4_readLaw_22 : decode cX4_readLaw 22 = .ok (.bipush 44, 2) := by decide +kernel
theorem dX4_readLaw_24 : decode cX4_readLaw 24 = .ok (.invokevirtual 54, 3) := by decide +kernel
theorem dX4_readLaw_27 : decode cX4_readLaw 27 = .ok (.aload_n 0, 1) := by decide +kernel
theorem dX4_readLaw_28 : decode cX4_readLaw 28 = .ok (.getfield 12, 3) := by decide +kernel
theorem dX4_readLaw_31 : decode cX4_readLaw 31 = .ok (.aload_n 0, 1) := by decide +kernel
theorem dX4_readLaw_32 : decode cX4_readLaw 32 = .ok (.iconst 0, 1) := by decide +kernel
theorem dX4_readLaw_33 : decode cX4_readLaw 33 = .ok (.aload_n 0, 1) := by decide +kernel
theorem dX4_readLaw_34 : decode cX4_readLaw 34 = .ok (.getfield 12, 3) := by decide +kernel
theorem dX4_readLaw_37 : decode cX4_readLaw 37 = .ok (.getfield 62, 3) := by decide +kernel
theorem dX4_readLaw_40 : decode cX4_readLaw 40 = .ok (.iconst 1, 1) := by decide +kernel
theorem dX4_readLaw_41 : decode cX4_readLaw 41 = .ok (.isub, 1) := by decide +kernel
theorem dX4_readLaw_42 : decode cX4_readLaw 42 = .ok (.invokevirtual 58, 3) := by decide +kernel
theorem dX4_readLaw_45 : decode cX4_readLaw 45 = .ok (.putfield 65, 3) := by decide +kernel
theorem dX4_readLaw_48 : decode cX4_readLaw 48 = .ok (.aload_n 0, 1) := by decide +kernel
theorem dX4_readLaw_49 : decode cX4_readLaw 49 = .ok (.bipush 44, 2) := by decide +kernel
theorem dX4_readLaw_51 : decode cX4_readLaw 51 = .ok (.invokevirtual 54, 3) := by decide +kernel
theorem dX4_readLaw_54 : decode cX4_readLaw 54 = .ok (.aload_n 0, 1) := by decide +kernel
theorem dX4_readLaw_55 : decode cX4_readLaw 55 = .ok (.getfield 12, 3) := by decide +kernel
theorem dX4_readLaw_58 : decode cX4_readLaw 58 = .ok (.aload_n 0, 1) := by decide +kernel
theorem dX4_readLaw_59 : decode cX4_readLaw 59 = .ok (.iconst 0, 1) := by decide +kernel
theorem dX4_readLaw_60 : decode cX4_readLaw 60 = .ok (.aload_n 0, 1) := by decide +kernel
theorem dX4_readLaw_61 : decode cX4_readLaw 61 = .ok (.getfield 12, 3) := by decide +kernel
theorem dX4_readLaw_64 : decode cX4_readLaw 64 = .ok (.getfield 62, 3) := by decide +kernel
theorem dX4_readLaw_67 : decode cX4_readLaw 67 = .ok (.iconst 1, 1) := by decide +kernel
theorem dX4_readLaw_68 : decode cX4_readLaw 68 = .ok (.isub, 1) := by decide +kernel
theorem dX4_readLaw_69 : decode cX4_readLaw 69 = .ok (.invokevirtual 58, 3) := by decide +kernel
theorem dX4_readLaw_72 : decode cX4_readLaw 72 = .ok (.putfield 68, 3) := by decide +kernel
theorem dX4_readLaw_75 : decode cX4_readLaw 75 = .ok (.aload_n 0, 1) := by decide +kernel
theorem dX4_readLaw_76 : decode cX4_readLaw 76 = .ok (.bipush 44, 2) := by decide +kernel
theorem dX4_readLaw_78 : decode cX4_readLaw 78 = .ok (.invokevirtual 54, 3) := by decide +kernel
theorem dX4_readLaw_81 : decode cX4_readLaw 81 = .ok (.aload_n 0, 1) := by decide +kernel
theorem dX4_readLaw_82 : decode cX4_readLaw 82 = .ok (.getfield 12, 3) := by decide +kernel
theorem dX4_readLaw_85 : decode cX4_readLaw 85 = .ok (.aload_n 0, 1) := by decide +kernel
theorem dX4_readLaw_86 : decode cX4_readLaw 86 = .ok (.iconst 0, 1) := by decide +kernel
theorem dX4_readLaw_87 : decode cX4_readLaw 87 = .ok (.bipush 15, 2) := by decide +kernel
theorem dX4_readLaw_89 : decode cX4_readLaw 89 = .ok (.invokevirtual 58, 3) := by decide +kernel
theorem dX4_readLaw_92 : decode cX4_readLaw 92 = .ok (.putfield 71, 3) := by decide +kernel
theorem dX4_readLaw_95 : decode cX4_readLaw 95 = .ok (.aload_n 0, 1) := by decide +kernel
theorem dX4_readLaw_96 : decode cX4_readLaw 96 = .ok (.bipush 59, 2) := by decide +kernel
theorem dX4_readLaw_98 : decode cX4_readLaw 98 = .ok (.invokevirtual 54, 3) := by decide +kernel
theorem dX4_readLaw_101 : decode cX4_readLaw 101 = .ok (.return_, 1) := by decide +kernel
theorem dX4_readWind_0 : decode cX4_readWind 0 = .ok (.aload_n 0, 1) := by decide +kernel
theorem dX4_readWind_1 : decode cX4_readWind 1 = .ok (.getfield 44, 3) := by decide +kernel
theorem dX4_readWind_4 : decode cX4_readWind 4 = .ok (.bipush 103, 2) := by decide +kernel
theorem dX4_readWind_6 : decode cX4_readWind 6 = .ok (.if_icmp .ne 20, 3) := by decide +kernel
theorem dX4_readWind_9 : decode cX4_readWind 9 = .ok (.aload_n 0, 1) := by decide +kernel
theorem dX4_readWind_10 : decode cX4_readWind 10 = .ok (.getfield 12, 3) := by decide +kernel
theorem dX4_readWind_13 : decode cX4_readWind 13 = .ok (.getfield 74, 3) := by decide +kernel
theorem dX4_readWind_16 : decode cX4_readWind 16 = .ok (.bipush 6, 2) := by decide +kernel
theorem dX4_readWind_18 : decode cX4_readWind 18 = .ok (.if_icmp .ne 8, 3) := by decide +kernel
theorem dX4_readWind_21 : decode cX4_readWind 21 = .ok (.aload_n 0, 1) := by decide +kernel
theorem dX4_readWind_22 : decode cX4_readWind 22 = .ok (.iconst 3, 1) := by decide +kernel
theorem dX4_readWind_23 : decode cX4_readWind 23 = .ok (.invokevirtual 77, 3) := by decide +kernel
theorem dX4_readWind_26 : decode cX4_readWind 26 = .ok (.aload_n 0, 1) := by decide +kernel
theorem dX4_readWind_27 : decode cX4_readWind 27 = .ok (.bipush 103, 2) := by decide +kernel
theorem dX4_readWind_29 : decode cX4_readWind 29 = .ok (.invokevirtual 54, 3) := by decide +kernel
theorem dX4_readWind_32 : decode cX4_readWind 32 = .ok (.aload_n 0, 1) := by decide +kernel
theorem dX4_readWind_33 : decode cX4_readWind 33 = .ok (.getfield 12, 3) := by decide +kernel
theorem dX4_readWind_36 : decode cX4_readWind 36 = .ok (.aload_n 0, 1) := by decide +kernel
theorem dX4_readWind_37 : decode cX4_readWind 37 = .ok (.iconst 0, 1) := by decide +kernel
theorem dX4_readWind_38 : decode cX4_readWind 38 = .ok (.iconst 4, 1) := by decide +kernel
theorem dX4_readWind_39 : decode cX4_readWind 39 = .ok (.invokevirtual 58, 3) := by decide +kernel
theorem dX4_readWind_42 : decode cX4_readWind 42 = .ok (.invokevirtual 80, 3) := by decide +kernel
theorem dX4_readWind_45 : decode cX4_readWind 45 = .ok (.aload_n 0, 1) := by decide +kernel
theorem dX4_readWind_46 : decode cX4_readWind 46 = .ok (.bipush 59, 2) := by decide +kernel
theorem dX4_readWind_48 : decode cX4_readWind 48 = .ok (.invokevirtual 54, 3) := by decide +kernel
theorem dX4_readWind_51 : decode cX4_readWind 51 = .ok (.return_, 1) := by decide +kernel
theorem dX4_readSheet_0 : decode cX4_readSheet 0 = .ok (.aload_n 0, 1) := by decide +kernel
theorem dX4_readSheet_1 : decode cX4_readSheet 1 = .ok (.getfield 44, 3) := by decide +kernel
theorem dX4_readSheet_4 : decode cX4_readSheet 4 = .ok (.invokestatic 83, 3) := by decide +kernel
theorem dX4_readSheet_7 : decode cX4_readSheet 7 = .ok (.istore_n 1, 1) := by decide +kernel
theorem dX4_readSheet_8 : decode cX4_readSheet 8 = .ok (.iload_n 1, 1) := by decide +kernel
theorem dX4_readSheet_9 : decode cX4_readSheet 9 = .ok (.ifCond .ne 11, 3) := by decide +kernel
theorem dX4_readSheet_12 : decode cX4_readSheet 12 = .ok (.aload_n 0, 1) := by decide +kernel
theorem dX4_readSheet_13 : decode cX4_readSheet 13 = .ok (.iconst 1, 1) := by decide +kernel
theorem dX4_readSheet_14 : decode cX4_readSheet 14 = .ok (.invokevirtual 77, 3) := by decide +kernel
theorem dX4_readSheet_17 : decode cX4_readSheet 17 = .ok (.goto 20, 3) := by decide +kernel
theorem dX4_readSheet_20 : decode cX4_readSheet 20 = .ok (.aload_n 0, 1) := by decide +kernel
theorem dX4_readSheet_21 : decode cX4_readSheet 21 = .ok (.getfield 12, 3) := by decide +kernel
theorem dX4_readSheet_24 : decode cX4_readSheet 24 = .ok (.getfield 87, 3) := by decide +kernel
theorem dX4_readSheet_27 : decode cX4_readSheet 27 = .ok (.bipush 6, 2) := by decide +kernel
theorem dX4_readSheet_29 : decode cX4_readSheet 29 = .ok (.if_icmp .ne 8, 3) := by decide +kernel
theorem dX4_readSheet_32 : decode cX4_readSheet 32 = .ok (.aload_n 0, 1) := by decide +kernel
theorem dX4_readSheet_33 : decode cX4_readSheet 33 = .ok (.iconst 3, 1) := by decide +kernel
theorem dX4_readSheet_34 : decode cX4_readSheet 34 = .ok (.invokevirtual 77, 3) := by decide +kernel
theorem dX4_readSheet_37 : decode cX4_readSheet 37 = .ok (.aload_n 0, 1) := by decide +kernel
theorem dX4_readSheet_38 : decode cX4_readSheet 38 = .ok (.aload_n 0, 1) := by decide +kernel
theorem dX4_readSheet_39 : decode cX4_readSheet 39 = .ok (.getfield 44, 3) := by decide +kernel
theorem dX4_readSheet_42 : decode cX4_readSheet 42 = .ok (.invokevirtual 54, 3) := by decide +kernel
theorem dX4_readSheet_45 : decode cX4_readSheet 45 = .ok (.aload_n 0, 1) := by decide +kernel
theorem dX4_readSheet_46 : decode cX4_readSheet 46 = .ok (.iconst 0, 1) := by decide +kernel
theorem dX4_readSheet_47 : decode cX4_readSheet 47 = .ok (.aload_n 0, 1) := by decide +kernel
theorem dX4_readSheet_48 : decode cX4_readSheet 48 = .ok (.getfield 12, 3) := by decide +kernel
theorem dX4_readSheet_51 : decode cX4_readSheet 51 = .ok (.getfield 62, 3) := by decide +kernel
theorem dX4_readSheet_54 : decode cX4_readSheet 54 = .ok (.iconst 1, 1) := by decide +kernel
theorem dX4_readSheet_55 : decode cX4_readSheet 55 = .ok (.isub, 1) := by decide +kernel
theorem dX4_readSheet_56 : decode cX4_readSheet 56 = .ok (.invokevirtual 58, 3) := by decide +kernel
theorem dX4_readSheet_59 : decode cX4_readSheet 59 = .ok (.istore_n 2, 1) := by decide +kernel
theorem dX4_readSheet_60 : decode cX4_readSheet 60 = .ok (.aload_n 0, 1) := by decide +kernel
theorem dX4_readSheet_61 : decode cX4_readSheet 61 = .ok (.bipush 44, 2) := by decide +kernel
theorem dX4_readSheet_63 : decode cX4_readSheet 63 = .ok (.invokevirtual 54, 3) := by decide +kernel
theorem dX4_readSheet_66 : decode cX4_readSheet 66 = .ok (.aload_n 0, 1) := by decide +kernel
theorem dX4_readSheet_67 : decode cX4_readSheet 67 = .ok (.iconst 1, 1) := by decide +kernel
theorem dX4_readSheet_68 : decode cX4_readSheet 68 = .ok (.iconst 5, 1) := by decide +kernel
theorem dX4_readSheet_69 : decode cX4_readSheet 69 = .ok (.invokevirtual 58, 3) := by decide +kernel
theorem dX4_readSheet_72 : decode cX4_readSheet 72 = .ok (.istore_n 3, 1) := by decide +kernel
theorem dX4_readSheet_73 : decode cX4_readSheet 73 = .ok (.aload_n 0, 1) := by decide +kernel
theorem dX4_readSheet_74 : decode cX4_readSheet 74 = .ok (.bipush 44, 2) := by decide +kernel
theorem dX4_readSheet_76 : decode cX4_readSheet 76 = .ok (.invokevirtual 54, 3) := by decide +kernel
theorem dX4_readSheet_79 : decode cX4_readSheet 79 = .ok (.aload_n 0, 1) := by decide +kernel
theorem dX4_readSheet_80 : decode cX4_readSheet 80 = .ok (.iconst 1, 1) := by decide +kernel
theorem dX4_readSheet_81 : decode cX4_readSheet 81 = .ok (.bipush 9, 2) := by decide +kernel
theorem dX4_readSheet_83 : decode cX4_readSheet 83 = .ok (.invokevirtual 58, 3) := by decide +kernel
theorem dX4_readSheet_86 : decode cX4_readSheet 86 = .ok (.istore 4, 2) := by decide +kernel
theorem dX4_readSheet_88 : decode cX4_readSheet 88 = .ok (.aload_n 0, 1) := by decide +kernel
theorem dX4_readSheet_89 : decode cX4_readSheet 89 = .ok (.bipush 59, 2) := by decide +kernel
theorem dX4_readSheet_91 : decode cX4_readSheet 91 = .ok (.invokevirtual 54, 3) := by decide +kernel
theorem dX4_readSheet_94 : decode cX4_readSheet 94 = .ok (.aload_n 0, 1) := by decide +kernel
theorem dX4_readSheet_95 : decode cX4_readSheet 95 = .ok (.getfield 12, 3) := by decide +kernel
theorem dX4_readSheet_98 : decode cX4_readSheet 98 = .ok (.iload_n 1, 1) := by decide +kernel
theorem dX4_readSheet_99 : decode cX4_readSheet 99 = .ok (.iload_n 2, 1) := by decide +kernel
theorem dX4_readSheet_100 : decode cX4_readSheet 100 = .ok (.iload_n 3, 1) := by decide +kernel
theorem dX4_readSheet_101 : decode cX4_readSheet 101 = .ok (.iload 4, 2) := by decide +kernel
theorem dX4_readSheet_103 : decode cX4_readSheet 103 = .ok (.invokevirtual 90, 3) := by decide +kernel
theorem dX4_readSheet_106 : decode cX4_readSheet 106 = .ok (.return_, 1) := by decide +kernel
theorem dX4_kindOfSort_0 : decode cX4_kindOfSort 0 = .ok (.iload_n 0, 1) := by decide +kernel
theorem dX4_kindOfSort_1 : decode cX4_kindOfSort 1 = .ok (.lookupswitch 61 #[(98, 53), (104, 57), (111, 59), (115, 51), (119, 55)], 51) := by decide +kernel
theorem dX4_kindOfSort_52 : decode cX4_kindOfSort 52 = .ok (.iconst 1, 1) := by decide +kernel
theorem dX4_kindOfSort_53 : decode cX4_kindOfSort 53 = .ok (.ireturn, 1) := by decide +kernel
theorem dX4_kindOfSort_54 : decode cX4_kindOfSort 54 = .ok (.iconst 2, 1) := by decide +kernel
theorem dX4_kindOfSort_55 : decode cX4_kindOfSort 55 = .ok (.ireturn, 1) := by decide +kernel
theorem dX4_kindOfSort_56 : decode cX4_kindOfSort 56 = .ok (.iconst 3, 1) := by decide +kernel
theorem dX4_kindOfSort_57 : decode cX4_kindOfSort 57 = .ok (.ireturn, 1) := by decide +kernel
theorem dX4_kindOfSort_58 : decode cX4_kindOfSort 58 = .ok (.iconst 4, 1) := by decide +kernel
theorem dX4_kindOfSort_59 : decode cX4_kindOfSort 59 = .ok (.ireturn, 1) := by decide +kernel
theorem dX4_kindOfSort_60 : decode cX4_kindOfSort 60 = .ok (.iconst 5, 1) := by decide +kernel
theorem dX4_kindOfSort_61 : decode cX4_kindOfSort 61 = .ok (.ireturn, 1) := by decide +kernel
theorem dX4_kindOfSort_62 : decode cX4_kindOfSort 62 = .ok (.iconst 0, 1) := by decide +kernel
theorem dX4_kindOfSort_63 : decode cX4_kindOfSort 63 = .ok (.ireturn, 1) := by decide +kernel
theorem dX4_fail_0 : decode cX4_fail 0 = .ok (.aload_n 0, 1) := by decide +kernel
theorem dX4_fail_1 : decode cX4_fail 1 = .ok (.getfield 26, 3) := by decide +kernel
theorem dX4_fail_4 : decode cX4_fail 4 = .ok (.ifCond .ne 8, 3) := by decide +kernel
theorem dX4_fail_7 : decode cX4_fail 7 = .ok (.aload_n 0, 1) := by decide +kernel
theorem dX4_fail_8 : decode cX4_fail 8 = .ok (.iload_n 1, 1) := by decide +kernel
theorem dX4_fail_9 : decode cX4_fail 9 = .ok (.putfield 26, 3) := by decide +kernel
theorem dX4_fail_12 : decode cX4_fail 12 = .ok (.return_, 1) := by decide +kernel
theorem dX4_take_0 : decode cX4_take 0 = .ok (.aload_n 0, 1) := by decide +kernel
theorem dX4_take_1 : decode cX4_take 1 = .ok (.getfield 26, 3) := by decide +kernel
theorem dX4_take_4 : decode cX4_take 4 = .ok (.ifCond .ne 16, 3) := by decide +kernel
theorem dX4_take_7 : decode cX4_take 7 = .ok (.aload_n 0, 1) := by decide +kernel
theorem dX4_take_8 : decode cX4_take 8 = .ok (.getfield 44, 3) := by decide +kernel
theorem dX4_take_11 : decode cX4_take 11 = .ok (.iload_n 1, 1) := by decide +kernel
theorem dX4_take_12 : decode cX4_take 12 = .ok (.if_icmp .eq 8, 3) := by decide +kernel
theorem dX4_take_15 : decode cX4_take 15 = .ok (.aload_n 0, 1) := by decide +kernel
theorem dX4_take_16 : decode cX4_take 16 = .ok (.iconst 1, 1) := by decide +kernel
theorem dX4_take_17 : decode cX4_take 17 = .ok (.invokevirtual 77, 3) := by decide +kernel
theorem dX4_take_20 : decode cX4_take 20 = .ok (.aload_n 0, 1) := by decide +kernel
theorem dX4_take_21 : decode cX4_take 21 = .ok (.invokevirtual 35, 3) := by decide +kernel
theorem dX4_take_24 : decode cX4_take 24 = .ok (.return_, 1) := by decide +kernel
theorem dX4_takeNumber_0 : decode cX4_takeNumber 0 = .ok (.aload_n 0, 1) := by decide +kernel
theorem dX4_takeNumber_1 : decode cX4_takeNumber 1 = .ok (.getfield 26, 3) := by decide +kernel
theorem dX4_takeNumber_4 : decode cX4_takeNumber 4 = .ok (.ifCond .ne 21, 3) := by decide +kernel
theorem dX4_takeNumber_7 : decode cX4_takeNumber 7 = .ok (.aload_n 0, 1) := by decide +kernel
theorem dX4_takeNumber_8 : decode cX4_takeNumber 8 = .ok (.getfield 44, 3) := by decide +kernel
theorem dX4_takeNumber_11 : decode cX4_takeNumber 11 = .ok (.sipush 256, 3) := by decide +kernel
theorem dX4_takeNumber_14 : decode cX4_takeNumber 14 = .ok (.if_icmp .eq 11, 3) := by decide +kernel
theorem dX4_takeNumber_17 : decode cX4_takeNumber 17 = .ok (.aload_n 0, 1) := by decide +kernel
theorem dX4_takeNumber_18 : decode cX4_takeNumber 18 = .ok (.iconst 1, 1) := by decide +kernel
theorem dX4_takeNumber_19 : decode cX4_takeNumber 19 = .ok (.invokevirtual 77, 3) := by decide +kernel
theorem dX4_takeNumber_22 : decode cX4_takeNumber 22 = .ok (.goto 27, 3) := by decide +kernel
theorem dX4_takeNumber_25 : decode cX4_takeNumber 25 = .ok (.aload_n 0, 1) := by decide +kernel
theorem dX4_takeNumber_26 : decode cX4_takeNumber 26 = .ok (.getfield 26, 3) := by decide +kernel
theorem dX4_takeNumber_29 : decode cX4_takeNumber 29 = .ok (.ifCond .ne 20, 3) := by decide +kernel
theorem dX4_takeNumber_32 : decode cX4_takeNumber 32 = .ok (.aload_n 0, 1) := by decide +kernel
theorem dX4_takeNumber_33 : decode cX4_takeNumber 33 = .ok (.getfield 94, 3) := by decide +kernel
theorem dX4_takeNumber_36 : decode cX4_takeNumber 36 = .ok (.iload_n 1, 1) := by decide +kernel
theorem dX4_takeNumber_37 : decode cX4_takeNumber 37 = .ok (.iload_n 2, 1) := by decide +kernel
theorem dX4_takeNumber_38 : decode cX4_takeNumber 38 = .ok (.invokestatic 97, 3) := by decide +kernel
theorem dX4_takeNumber_41 : decode cX4_takeNumber 41 = .ok (.ifCond .ne 8, 3) := by decide +kernel
theorem dX4_takeNumber_44 : decode cX4_takeNumber 44 = .ok (.aload_n 0, 1) := by decide +kernel
theorem dX4_takeNumber_45 : decode cX4_takeNumber 45 = .ok (.iconst 2, 1) := by decide +kernel
theorem dX4_takeNumber_46 : decode cX4_takeNumber 46 = .ok (.invokevirtual 77, 3) := by decide +kernel
theorem dX4_takeNumber_49 : decode cX4_takeNumber 49 = .ok (.aload_n 0, 1) := by decide +kernel
theorem dX4_takeNumber_50 : decode cX4_takeNumber 50 = .ok (.getfield 94, 3) := by decide +kernel
theorem dX4_takeNumber_53 : decode cX4_takeNumber 53 = .ok (.istore_n 3, 1) := by decide +kernel
theorem dX4_takeNumber_54 : decode cX4_takeNumber 54 = .ok (.aload_n 0, 1) := by decide +kernel
theorem dX4_takeNumber_55 : decode cX4_takeNumber 55 = .ok (.invokevirtual 35, 3) := by decide +kernel
theorem dX4_takeNumber_58 : decode cX4_takeNumber 58 = .ok (.aload_n 0, 1) := by decide +kernel
theorem dX4_takeNumber_59 : decode cX4_takeNumber 59 = .ok (.getfield 26, 3) := by decide +kernel
theorem dX4_takeNumber_62 : decode cX4_takeNumber 62 = .ok (.ifCond .ne 7, 3) := by decide +kernel
theorem dX4_takeNumber_65 : decode cX4_takeNumber 65 = .ok (.iload_n 3, 1) := by decide +kernel
theorem dX4_takeNumber_66 : decode cX4_takeNumber 66 = .ok (.goto 4, 3) := by decide +kernel
theorem dX4_takeNumber_69 : decode cX4_takeNumber 69 = .ok (.iconst 0, 1) := by decide +kernel
theorem dX4_takeNumber_70 : decode cX4_takeNumber 70 = .ok (.ireturn, 1) := by decide +kernel
theorem dX4_nextToken_0 : decode cX4_nextToken 0 = .ok (.aload_n 0, 1) := by decide +kernel
theorem dX4_nextToken_1 : decode cX4_nextToken 1 = .ok (.getfield 26, 3) := by decide +kernel
theorem dX4_nextToken_4 : decode cX4_nextToken 4 = .ok (.ifCond .eq 4, 3) := by decide +kernel
theorem dX4_nextToken_7 : decode cX4_nextToken 7 = .ok (.return_, 1) := by decide +kernel
theorem dX4_nextToken_8 : decode cX4_nextToken 8 = .ok (.aload_n 0, 1) := by decide +kernel
theorem dX4_nextToken_9 : decode cX4_nextToken 9 = .ok (.aload_n 0, 1) := by decide +kernel
theorem dX4_nextToken_10 : decode cX4_nextToken 10 = .ok (.getfield 29, 3) := by decide +kernel
theorem dX4_nextToken_13 : decode cX4_nextToken 13 = .ok (.putfield 101, 3) := by decide +kernel
theorem dX4_nextToken_16 : decode cX4_nextToken 16 = .ok (.aload_n 0, 1) := by decide +kernel
theorem dX4_nextToken_17 : decode cX4_nextToken 17 = .ok (.getfield 101, 3) := by decide +kernel
theorem dX4_nextToken_20 : decode cX4_nextToken 20 = .ok (.aload_n 0, 1) := by decide +kernel
theorem dX4_nextToken_21 : decode cX4_nextToken 21 = .ok (.getfield 22, 3) := by decide +kernel
theorem dX4_nextToken_24 : decode cX4_nextToken 24 = .ok (.if_icmp .lt 11, 3) := by decide +kernel
theorem dX4_nextToken_27 : decode cX4_nextToken 27 = .ok (.aload_n 0, 1) := by decide +kernel
theorem dX4_nextToken_28 : decode cX4_nextToken 28 = .ok (.sipush 258, 3) := by decide +kernel
theorem dX4_nextToken_31 : decode cX4_nextToken 31 = .ok (.putfield 44, 3) := by decide +kernel
theorem dX4_nextToken_34 : decode cX4_nextToken 34 = .ok (.return_, 1) := by decide +kernel
theorem dX4_nextToken_35 : decode cX4_nextToken 35 = .ok (.aload_n 0, 1) := by decide +kernel
theorem dX4_nextToken_36 : decode cX4_nextToken 36 = .ok (.getfield 18, 3) := by decide +kernel
theorem dX4_nextToken_39 : decode cX4_nextToken 39 = .ok (.aload_n 0, 1) := by decide +kernel
theorem dX4_nextToken_40 : decode cX4_nextToken 40 = .ok (.getfield 101, 3) := by decide +kernel
theorem dX4_nextToken_43 : decode cX4_nextToken 43 = .ok (.iaload, 1) := by decide +kernel
theorem dX4_nextToken_44 : decode cX4_nextToken 44 = .ok (.istore_n 1, 1) := by decide +kernel
theorem dX4_nextToken_45 : decode cX4_nextToken 45 = .ok (.iload_n 1, 1) := by decide +kernel
theorem dX4_nextToken_46 : decode cX4_nextToken 46 = .ok (.invokestatic 104, 3) := by decide +kernel
theorem dX4_nextToken_49 : decode cX4_nextToken 49 = .ok (.ifCond .eq 8, 3) := by decide +kernel
theorem dX4_nextToken_52 : decode cX4_nextToken 52 = .ok (.aload_n 0, 1) := by decide +kernel
theorem dX4_nextToken_53 : decode cX4_nextToken 53 = .ok (.invokevirtual 108, 3) := by decide +kernel
theorem dX4_nextToken_56 : decode cX4_nextToken 56 = .ok (.return_, 1) := by decide +kernel
theorem dX4_nextToken_57 : decode cX4_nextToken 57 = .ok (.aload_n 0, 1) := by decide +kernel
theorem dX4_nextToken_58 : decode cX4_nextToken 58 = .ok (.aload_n 0, 1) := by decide +kernel
theorem dX4_nextToken_59 : decode cX4_nextToken 59 = .ok (.getfield 101, 3) := by decide +kernel
theorem dX4_nextToken_62 : decode cX4_nextToken 62 = .ok (.iconst 1, 1) := by decide +kernel
theorem dX4_nextToken_63 : decode cX4_nextToken 63 = .ok (.iadd, 1) := by decide +kernel
theorem dX4_nextToken_64 : decode cX4_nextToken 64 = .ok (.putfield 29, 3) := by decide +kernel
theorem dX4_nextToken_67 : decode cX4_nextToken 67 = .ok (.aload_n 0, 1) := by decide +kernel
theorem dX4_nextToken_68 : decode cX4_nextToken 68 = .ok (.iload_n 1, 1) := by decide +kernel
theorem dX4_nextToken_69 : decode cX4_nextToken 69 = .ok (.bipush 97, 2) := by decide +kernel
theorem dX4_nextToken_71 : decode cX4_nextToken 71 = .ok (.bipush 122, 2) := by decide +kernel
theorem dX4_nextToken_73 : decode cX4_nextToken 73 = .ok (.invokestatic 97, 3) := by decide +kernel
theorem dX4_nextToken_76 : decode cX4_nextToken 76 = .ok (.ifCond .ne 15, 3) := by decide +kernel
theorem dX4_nextToken_79 : decode cX4_nextToken 79 = .ok (.iload_n 1, 1) := by decide +kernel
theorem dX4_nextToken_80 : decode cX4_nextToken 80 = .ok (.bipush 44, 2) := by decide +kernel
theorem dX4_nextToken_82 : decode cX4_nextToken 82 = .ok (.if_icmp .eq 9, 3) := by decide +kernel
theorem dX4_nextToken_85 : decode cX4_nextToken 85 = .ok (.iload_n 1, 1) := by decide +kernel
theorem dX4_nextToken_86 : decode cX4_nextToken 86 = .ok (.bipush 59, 2) := by decide +kernel
theorem dX4_nextToken_88 : decode cX4_nextToken 88 = .ok (.if_icmp .ne 7, 3) := by decide +kernel
theorem dX4_nextToken_91 : decode cX4_nextToken 91 = .ok (.iload_n 1, 1) := by decide +kernel
theorem dX4_nextToken_92 : decode cX4_nextToken 92 = .ok (.goto 6, 3) := by decide +kernel
theorem dX4_nextToken_95 : decode cX4_nextToken 95 = .ok (.sipush 257, 3) := by decide +kernel
theorem dX4_nextToken_98 : decode cX4_nextToken 98 = .ok (.putfield 44, 3) := by decide +kernel
theorem dX4_nextToken_101 : decode cX4_nextToken 101 = .ok (.return_, 1) := by decide +kernel
theorem dX4_readFigures_0 : decode cX4_readFigures 0 = .ok (.aload_n 0, 1) := by decide +kernel
theorem dX4_readFigures_1 : decode cX4_readFigures 1 = .ok (.iconst 0, 1) := by decide +kernel
theorem dX4_readFigures_2 : decode cX4_readFigures 2 = .ok (.putfield 94, 3) := by decide +kernel
theorem dX4_readFigures_5 : decode cX4_readFigures 5 = .ok (.aload_n 0, 1) := by decide +kernel
theorem dX4_readFigures_6 : decode cX4_readFigures 6 = .ok (.getfield 101, 3) := by decide +kernel
theorem dX4_readFigures_9 : decode cX4_readFigures 9 = .ok (.istore_n 1, 1) := by decide +kernel
theorem dX4_readFigures_10 : decode cX4_readFigures 10 = .ok (.iload_n 1, 1) := by decide +kernel
theorem dX4_readFigures_11 : decode cX4_readFigures 11 = .ok (.aload_n 0, 1) := by decide +kernel
theorem dX4_readFigures_12 : decode cX4_readFigures 12 = .ok (.getfield 22, 3) := by decide +kernel
theorem dX4_readFigures_15 : decode cX4_readFigures 15 = .ok (.if_icmp .ge 59, 3) := by decide +kernel
theorem dX4_readFigures_18 : decode cX4_readFigures 18 = .ok (.iload_n 1, 1) := by decide +kernel
theorem dX4_readFigures_19 : decode cX4_readFigures 19 = .ok (.aload_n 0, 1) := by decide +kernel
theorem dX4_readFigures_20 : decode cX4_readFigures 20 = .ok (.getfield 101, 3) := by decide +kernel
theorem dX4_readFigures_23 : decode cX4_readFigures 23 = .ok (.iconst 3, 1) := by decide +kernel
theorem dX4_readFigures_24 : decode cX4_readFigures 24 = .ok (.iadd, 1) := by decide +kernel
theorem dX4_readFigures_25 : decode cX4_readFigures 25 = .ok (.if_icmp .ge 49, 3) := by decide +kernel
theorem dX4_readFigures_28 : decode cX4_readFigures 28 = .ok (.aload_n 0, 1) := by decide +kernel
theorem dX4_readFigures_29 : decode cX4_readFigures 29 = .ok (.getfield 18, 3) := by decide +kernel
theorem dX4_readFigures_32 : decode cX4_readFigures 32 = .ok (.iload_n 1, 1) := by decide +kernel
theorem dX4_readFigures_33 : decode cX4_readFigures 33 = .ok (.iaload, 1) := by decide +kernel
theorem dX4_readFigures_34 : decode cX4_readFigures 34 = .ok (.invokestatic 104, 3) := by decide +kernel
theorem dX4_readFigures_37 : decode cX4_readFigures 37 = .ok (.ifCond .eq 37, 3) := by decide +kernel
theorem dX4_readFigures_40 : decode cX4_readFigures 40 = .ok (.aload_n 0, 1) := by decide +kernel
theorem dX4_readFigures_41 : decode cX4_readFigures 41 = .ok (.bipush 10, 2) := by decide +kernel
theorem dX4_readFigures_43 : decode cX4_readFigures 43 = .ok (.aload_n 0, 1) := by decide +kernel
theorem dX4_readFigures_44 : decode cX4_readFigures 44 = .ok (.getfield 94, 3) := by decide +kernel
theorem dX4_readFigures_47 : decode cX4_readFigures 47 = .ok (.imul, 1) := by decide +kernel
theorem dX4_readFigures_48 : decode cX4_readFigures 48 = .ok (.aload_n 0, 1) := by decide +kernel
theorem dX4_readFigures_49 : decode cX4_readFigures 49 = .ok (.getfield 18, 3) := by decide +kernel
theorem dX4_readFigures_52 : decode cX4_readFigures 52 = .ok (.iload_n 1, 1) := by decide +kernel
theorem dX4_readFigures_53 : decode cX4_readFigures 53 = .ok (.iaload, 1) := by decide +kernel
theorem dX4_readFigures_54 : decode cX4_readFigures 54 = .ok (.iadd, 1) := by decide +kernel
theorem dX4_readFigures_55 : decode cX4_readFigures 55 = .ok (.bipush 48, 2) := by decide +kernel
theorem dX4_readFigures_57 : decode cX4_readFigures 57 = .ok (.isub, 1) := by decide +kernel
theorem dX4_readFigures_58 : decode cX4_readFigures 58 = .ok (.putfield 94, 3) := by decide +kernel
theorem dX4_readFigures_61 : decode cX4_readFigures 61 = .ok (.aload_n 0, 1) := by decide +kernel
theorem dX4_readFigures_62 : decode cX4_readFigures 62 = .ok (.iload_n 1, 1) := by decide +kernel
theorem dX4_readFigures_63 : decode cX4_readFigures 63 = .ok (.iconst 1, 1) := by decide +kernel
theorem dX4_readFigures_64 : decode cX4_readFigures 64 = .ok (.iadd, 1) := by decide +kernel
theorem dX4_readFigures_65 : decode cX4_readFigures 65 = .ok (.putfield 29, 3) := by decide +kernel
theorem dX4_readFigures_68 : decode cX4_readFigures 68 = .ok (.iinc 1 1, 3) := by decide +kernel
theorem dX4_readFigures_71 : decode cX4_readFigures 71 = .ok (.goto (-61), 3) := by decide +kernel
theorem dX4_readFigures_74 : decode cX4_readFigures 74 = .ok (.aload_n 0, 1) := by decide +kernel
theorem dX4_readFigures_75 : decode cX4_readFigures 75 = .ok (.aload_n 0, 1) := by decide +kernel
theorem dX4_readFigures_76 : decode cX4_readFigures 76 = .ok (.getfield 29, 3) := by decide +kernel
theorem dX4_readFigures_79 : decode cX4_readFigures 79 = .ok (.aload_n 0, 1) := by decide +kernel
theorem dX4_readFigures_80 : decode cX4_readFigures 80 = .ok (.getfield 101, 3) := by decide +kernel
theorem dX4_readFigures_83 : decode cX4_readFigures 83 = .ok (.isub, 1) := by decide +kernel
theorem dX4_readFigures_84 : decode cX4_readFigures 84 = .ok (.iconst 2, 1) := by decide +kernel
theorem dX4_readFigures_85 : decode cX4_readFigures 85 = .ok (.if_icmp .gt 9, 3) := by decide +kernel
theorem dX4_readFigures_88 : decode cX4_readFigures 88 = .ok (.sipush 256, 3) := by decide +kernel
theorem dX4_readFigures_91 : decode cX4_readFigures 91 = .ok (.goto 6, 3) := by decide +kernel
theorem dX4_readFigures_94 : decode cX4_readFigures 94 = .ok (.sipush 257, 3) := by decide +kernel
theorem dX4_readFigures_97 : decode cX4_readFigures 97 = .ok (.putfield 44, 3) := by decide +kernel
theorem dX4_readFigures_100 : decode cX4_readFigures 100 = .ok (.return_, 1) := by decide +kernel
theorem dX4_isFigure_0 : decode cX4_isFigure 0 = .ok (.iload_n 0, 1) := by decide +kernel
theorem dX4_isFigure_1 : decode cX4_isFigure 1 = .ok (.bipush 48, 2) := by decide +kernel
theorem dX4_isFigure_3 : decode cX4_isFigure 3 = .ok (.bipush 57, 2) := by decide +kernel
theorem dX4_isFigure_5 : decode cX4_isFigure 5 = .ok (.invokestatic 97, 3) := by decide +kernel
theorem dX4_isFigure_8 : decode cX4_isFigure 8 = .ok (.ireturn, 1) := by decide +kernel
theorem dX5_init_0 : decode cX5_init 0 = .ok (.aload_n 0, 1) := by decide +kernel
theorem dX5_init_1 : decode cX5_init 1 = .ok (.invokespecial 3, 3) := by decide +kernel
theorem dX5_init_4 : decode cX5_init 4 = .ok (.aload_n 0, 1) := by decide +kernel
theorem dX5_init_5 : decode cX5_init 5 = .ok (.bipush 40, 2) := by decide +kernel
theorem dX5_init_7 : decode cX5_init 7 = .ok (.newarray .int, 2) := by decide +kernel
theorem dX5_init_9 : decode cX5_init 9 = .ok (.putfield 9, 3) := by decide +kernel
theorem dX5_init_12 : decode cX5_init 12 = .ok (.aload_n 0, 1) := by decide +kernel
theorem dX5_init_13 : decode cX5_init 13 = .ok (.iconst 1, 1) := by decide +kernel
theorem dX5_init_14 : decode cX5_init 14 = .ok (.putfield 15, 3) := by decide +kernel
theorem dX5_init_17 : decode cX5_init 17 = .ok (.return_, 1) := by decide +kernel
theorem dX5_make_0 : decode cX5_make 0 = .ok (.aload_n 0, 1) := by decide +kernel
theorem dX5_make_1 : decode cX5_make 1 = .ok (.iconst 0, 1) := by decide +kernel
theorem dX5_make_2 : decode cX5_make 2 = .ok (.putfield 15, 3) := by decide +kernel
theorem dX5_make_5 : decode cX5_make 5 = .ok (.aload_n 0, 1) := by decide +kernel
theorem dX5_make_6 : decode cX5_make 6 = .ok (.iload_n 1, 1) := by decide +kernel
theorem dX5_make_7 : decode cX5_make 7 = .ok (.putfield 19, 3) := by decide +kernel
theorem dX5_make_10 : decode cX5_make 10 = .ok (.aload_n 0, 1) := by decide +kernel
theorem dX5_make_11 : decode cX5_make 11 = .ok (.iload_n 2, 1) := by decide +kernel
theorem dX5_make_12 : decode cX5_make 12 = .ok (.putfield 23, 3) := by decide +kernel
theorem dX5_make_15 : decode cX5_make 15 = .ok (.aload_n 0, 1) := by decide +kernel
theorem dX5_make_16 : decode cX5_make 16 = .ok (.getfield 9, 3) := by decide +kernel
theorem dX5_make_19 : decode cX5_make 19 = .ok (.iconst 0, 1) := by decide +kernel
theorem dX5_make_20 : decode cX5_make 20 = .ok (.invokestatic 26, 3) := by decide +kernel
theorem dX5_make_23 : decode cX5_make 23 = .ok (.return_, 1) := by decide +kernel
theorem dX5_holds_0 : decode cX5_holds 0 = .ok (.iload_n 1, 1) := by decide +kernel
theorem dX5_holds_1 : decode cX5_holds 1 = .ok (.ifCond .lt 29, 3) := by decide +kernel
theorem dX5_holds_4 : decode cX5_holds 4 = .ok (.iload_n 1, 1) := by decide +kernel
theorem dX5_holds_5 : decode cX5_holds 5 = .ok (.aload_n 0, 1) := by decide +kernel
theorem dX5_holds_6 : decode cX5_holds 6 = .ok (.getfield 23, 3) := by decide +kernel
theorem dX5_holds_9 : decode cX5_holds 9 = .ok (.if_icmp .gt 21, 3) := by decide +kernel
theorem dX5_holds_12 : decode cX5_holds 12 = .ok (.iload_n 2, 1) := by decide +kernel
theorem dX5_holds_13 : decode cX5_holds 13 = .ok (.ifCond .lt 17, 3) := by decide +kernel
theorem dX5_holds_16 : decode cX5_holds 16 = .ok (.iload_n 2, 1) := by decide +kernel
theorem dX5_holds_17 : decode cX5_holds 17 = .ok (.aload_n 0, 1) := by decide +kernel
theorem dX5_holds_18 : decode cX5_holds 18 = .ok (.getfield 23, 3) := by decide +kernel
theorem dX5_holds_21 : decode cX5_holds 21 = .ok (.iload_n 1, 1) := by decide +kernel
theorem dX5_holds_22 : decode cX5_holds 22 = .ok (.isub, 1) := by decide +kernel
theorem dX5_holds_23 : decode cX5_holds 23 = .ok (.if_icmp .gt 7, 3) := by decide +kernel
theorem dX5_holds_26 : decode cX5_holds 26 = .ok (.iconst 1, 1) := by decide +kernel
theorem dX5_holds_27 : decode cX5_holds 27 = .ok (.goto 4, 3) := by decide +kernel
theorem dX5_holds_30 : decode cX5_holds 30 = .ok (.iconst 0, 1) := by decide +kernel
theorem dX5_holds_31 : decode cX5_holds 31 = .ok (.ireturn, 1) := by decide +kernel
theorem dX5_put_0 : decode cX5_put 0 = .ok (.aload_n 0, 1) := by decide +kernel
theorem dX5_put_1 : decode cX5_put 1 = .ok (.getfield 9, 3) := by decide +kernel
theorem dX5_put_4 : decode cX5_put 4 = .ok (.iload_n 1, 1) := by decide +kernel
theorem dX5_put_5 : decode cX5_put 5 = .ok (.aload_n 0, 1) := by decide +kernel
theorem dX5_put_6 : decode cX5_put 6 = .ok (.iload_n 2, 1) := by decide +kernel
theorem dX5_put_7 : decode cX5_put 7 = .ok (.invokevirtual 32, 3) := by decide +kernel
theorem dX5_put_10 : decode cX5_put 10 = .ok (.iastore, 1) := by decide +kernel
theorem dX5_put_11 : decode cX5_put 11 = .ok (.aload_n 0, 1) := by decide +kernel
theorem dX5_put_12 : decode cX5_put 12 = .ok (.getfield 9, 3) := by decide +kernel
theorem dX5_put_15 : decode cX5_put 15 = .ok (.iload_n 1, 1) := by decide +kernel
theorem dX5_put_16 : decode cX5_put 16 = .ok (.iaload, 1) := by decide +kernel
theorem dX5_put_17 : decode cX5_put 17 = .ok (.ireturn, 1) := by decide +kernel
theorem dX5_lowestBits_0 : decode cX5_lowestBits 0 = .ok (.aload_n 0, 1) := by decide +kernel
theorem dX5_lowestBits_1 : decode cX5_lowestBits 1 = .ok (.getfield 19, 3) := by decide +kernel
theorem dX5_lowestBits_4 : decode cX5_lowestBits 4 = .ok (.ifCond .ne 6, 3) := by decide +kernel
theorem dX5_lowestBits_7 : decode cX5_lowestBits 7 = .ok (.iload_n 1, 1) := by decide +kernel
theorem dX5_lowestBits_8 : decode cX5_lowestBits 8 = .ok (.i2b, 1) := by decide +kernel
theorem dX5_lowestBits_9 : decode cX5_lowestBits 9 = .ok (.ireturn, 1) := by decide +kernel
theorem dX5_lowestBits_10 : decode cX5_lowestBits 10 = .ok (.aload_n 0, 1) := by decide +kernel
theorem dX5_lowestBits_11 : decode cX5_lowestBits 11 = .ok (.getfield 19, 3) := by decide +kernel
theorem dX5_lowestBits_14 : decode cX5_lowestBits 14 = .ok (.iconst 1, 1) := by decide +kernel
theorem dX5_lowestBits_15 : decode cX5_lowestBits 15 = .ok (.if_icmp .ne 8, 3) := by decide +kernel
theorem dX5_lowestBits_18 : decode cX5_lowestBits 18 = .ok (.iload_n 1, 1) := by decide +kernel
theorem dX5_lowestBits_19 : decode cX5_lowestBits 19 = .ok (.i2s, 1) := by decide +kernel
theorem dX5_lowestBits_20 : decode cX5_lowestBits 20 = .ok (.goto 4, 3) := by decide +kernel
theorem dX5_lowestBits_23 : decode cX5_lowestBits 23 = .ok (.iload_n 1, 1) := by decide +kernel
theorem dX5_lowestBits_24 : decode cX5_lowestBits 24 = .ok (.ireturn, 1) := by decide +kernel
theorem dX6_init_0 : decode cX6_init 0 = .ok (.aload_n 0, 1) := by decide +kernel
theorem dX6_init_1 : decode cX6_init 1 = .ok (.invokespecial 1, 3) := by decide +kernel
theorem dX6_init_4 : decode cX6_init 4 = .ok (.aload_n 0, 1) := by decide +kernel
theorem dX6_init_5 : decode cX6_init 5 = .ok (.bipush 8, 2) := by decide +kernel
theorem dX6_init_7 : decode cX6_init 7 = .ok (.anewarray 9, 3) := by decide +kernel
theorem dX6_init_10 : decode cX6_init 10 = .ok (.putfield 11, 3) := by decide +kernel
theorem dX6_init_13 : decode cX6_init 13 = .ok (.aload_n 0, 1) := by decide +kernel
theorem dX6_init_14 : decode cX6_init 14 = .ok (.new 15, 3) := by decide +kernel
theorem dX6_init_17 : decode cX6_init 17 = .ok (.dup, 1) := by decide +kernel
theorem dX6_init_18 : decode cX6_init 18 = .ok (.invokespecial 17, 3) := by decide +kernel
theorem dX6_init_21 : decode cX6_init 21 = .ok (.putfield 18, 3) := by decide +kernel
theorem dX6_init_24 : decode cX6_init 24 = .ok (.aload_n 0, 1) := by decide +kernel
theorem dX6_init_25 : decode cX6_init 25 = .ok (.new 22, 3) := by decide +kernel
theorem dX6_init_28 : decode cX6_init 28 = .ok (.dup, 1) := by decide +kernel
theorem dX6_init_29 : decode cX6_init 29 = .ok (.invokespecial 24, 3) := by decide +kernel
theorem dX6_init_32 : decode cX6_init 32 = .ok (.putfield 25, 3) := by decide +kernel
theorem dX6_init_35 : decode cX6_init 35 = .ok (.aload_n 0, 1) := by decide +kernel
theorem dX6_init_36 : decode cX6_init 36 = .ok (.new 29, 3) := by decide +kernel
theorem dX6_init_39 : decode cX6_init 39 = .ok (.dup, 1) := by decide +kernel
theorem dX6_init_40 : decode cX6_init 40 = .ok (.invokespecial 31, 3) := by decide +kernel
theorem dX6_init_43 : decode cX6_init 43 = .ok (.putfield 32, 3) := by decide +kernel
theorem dX6_init_46 : decode cX6_init 46 = .ok (.aload_n 0, 1) := by decide +kernel
theorem dX6_init_47 : decode cX6_init 47 = .ok (.iconst 2, 1) := by decide +kernel
theorem dX6_init_48 : decode cX6_init 48 = .ok (.anewarray 22, 3) := by decide +kernel
theorem dX6_init_51 : decode cX6_init 51 = .ok (.putfield 36, 3) := by decide +kernel
theorem dX6_init_54 : decode cX6_init 54 = .ok (.aload_n 0, 1) := by decide +kernel
theorem dX6_init_55 : decode cX6_init 55 = .ok (.new 40, 3) := by decide +kernel
theorem dX6_init_58 : decode cX6_init 58 = .ok (.dup, 1) := by decide +kernel
theorem dX6_init_59 : decode cX6_init 59 = .ok (.invokespecial 42, 3) := by decide +kernel
theorem dX6_init_62 : decode cX6_init 62 = .ok (.putfield 43, 3) := by decide +kernel
theorem dX6_init_65 : decode cX6_init 65 = .ok (.aload_n 0, 1) := by decide +kernel
theorem dX6_init_66 : decode cX6_init 66 = .ok (.new 47, 3) := by decide +kernel
theorem dX6_init_69 : decode cX6_init 69 = .ok (.dup, 1) := by decide +kernel
theorem dX6_init_70 : decode cX6_init 70 = .ok (.invokespecial 49, 3) := by decide +kernel
theorem dX6_init_73 : decode cX6_init 73 = .ok (.putfield 50, 3) := by decide +kernel
theorem dX6_init_76 : decode cX6_init 76 = .ok (.iconst 0, 1) := by decide +kernel
theorem dX6_init_77 : decode cX6_init 77 = .ok (.istore_n 1, 1) := by decide +kernel
theorem dX6_init_78 : decode cX6_init 78 = .ok (.iload_n 1, 1) := by decide +kernel
theorem dX6_init_79 : decode cX6_init 79 = .ok (.bipush 8, 2) := by decide +kernel
theorem dX6_init_81 : decode cX6_init 81 = .ok (.if_icmp .ge 22, 3) := by decide +kernel
theorem dX6_init_84 : decode cX6_init 84 = .ok (.aload_n 0, 1) := by decide +kernel
theorem dX6_init_85 : decode cX6_init 85 = .ok (.getfield 11, 3) := by decide +kernel
theorem dX6_init_88 : decode cX6_init 88 = .ok (.iload_n 1, 1) := by decide +kernel
theorem dX6_init_89 : decode cX6_init 89 = .ok (.new 9, 3) := by decide +kernel
theorem dX6_init_92 : decode cX6_init 92 = .ok (.dup, 1) := by decide +kernel
theorem dX6_init_93 : decode cX6_init 93 = .ok (.invokespecial 54, 3) := by decide +kernel
theorem dX6_init_96 : decode cX6_init 96 = .ok (.aastore, 1) := by decide +kernel
theorem dX6_init_97 : decode cX6_init 97 = .ok (.iinc 1 1, 3) := by decide +kernel
theorem dX6_init_100 : decode cX6_init 100 = .ok (.goto (-22), 3) := by decide +kernel
theorem dX6_init_103 : decode cX6_init 103 = .ok (.iconst 0, 1) := by decide +kernel
theorem dX6_init_104 : decode cX6_init 104 = .ok (.istore_n 1, 1) := by decide +kernel
theorem dX6_init_105 : decode cX6_init 105 = .ok (.iload_n 1, 1) := by decide +kernel
theorem dX6_init_106 : decode cX6_init 106 = .ok (.iconst 2, 1) := by decide +kernel
theorem dX6_init_107 : decode cX6_init 107 = .ok (.if_icmp .ge 22, 3) := by decide +kernel
theorem dX6_init_110 : decode cX6_init 110 = .ok (.aload_n 0, 1) := by decide +kernel
theorem dX6_init_111 : decode cX6_init 111 = .ok (.getfield 36, 3) := by decide +kernel
theorem dX6_init_114 : decode cX6_init 114 = .ok (.iload_n 1, 1) := by decide +kernel
theorem dX6_init_115 : decode cX6_init 115 = .ok (.new 22, 3) := by decide +kernel
theorem dX6_init_118 : decode cX6_init 118 = .ok (.dup, 1) := by decide +kernel
theorem dX6_init_119 : decode cX6_init 119 = .ok (.invokespecial 24, 3) := by decide +kernel
theorem dX6_init_122 : decode cX6_init 122 = .ok (.aastore, 1) := by decide +kernel
theorem dX6_init_123 : decode cX6_init 123 = .ok (.iinc 1 1, 3) := by decide +kernel
theorem dX6_init_126 : decode cX6_init 126 = .ok (.goto (-21), 3) := by decide +kernel
theorem dX6_init_129 : decode cX6_init 129 = .ok (.return_, 1) := by decide +kernel
theorem dX6_row_0 : decode cX6_row 0 = .ok (.iload_n 1, 1) := by decide +kernel
theorem dX6_row_1 : decode cX6_row 1 = .ok (.invokestatic 55, 3) := by decide +kernel
theorem dX6_row_4 : decode cX6_row 4 = .ok (.ifCond .eq 18, 3) := by decide +kernel
theorem dX6_row_7 : decode cX6_row 7 = .ok (.iload_n 2, 1) := by decide +kernel
theorem dX6_row_8 : decode cX6_row 8 = .ok (.iconst 0, 1) := by decide +kernel
theorem dX6_row_9 : decode cX6_row 9 = .ok (.iconst 2, 1) := by decide +kernel
theorem dX6_row_10 : decode cX6_row 10 = .ok (.invokestatic 59, 3) := by decide +kernel
theorem dX6_row_13 : decode cX6_row 13 = .ok (.ifCond .eq 9, 3) := by decide +kernel
theorem dX6_row_16 : decode cX6_row 16 = .ok (.iload_n 3, 1) := by decide +kernel
theorem dX6_row_17 : decode cX6_row 17 = .ok (.bipush 40, 2) := by decide +kernel
theorem dX6_row_19 : decode cX6_row 19 = .ok (.if_icmp .le 6, 3) := by decide +kernel
theorem dX6_row_22 : decode cX6_row 22 = .ok (.ldc 63, 2) := by decide +kernel
theorem dX6_row_24 : decode cX6_row 24 = .ok (.ireturn, 1) := by decide +kernel
theorem dX6_row_25 : decode cX6_row 25 = .ok (.iload_n 3, 1) := by decide +kernel
theorem dX6_row_26 : decode cX6_row 26 = .ok (.ifCond .ge 9, 3) := by decide +kernel
theorem dX6_row_29 : decode cX6_row 29 = .ok (.aload_n 0, 1) := by decide +kernel
theorem dX6_row_30 : decode cX6_row 30 = .ok (.iconst 4, 1) := by decide +kernel
theorem dX6_row_31 : decode cX6_row 31 = .ok (.invokevirtual 64, 3) := by decide +kernel
theorem dX6_row_34 : decode cX6_row 34 = .ok (.ireturn, 1) := by decide +kernel
theorem dX6_row_35 : decode cX6_row 35 = .ok (.aload_n 0, 1) := by decide +kernel
theorem dX6_row_36 : decode cX6_row 36 = .ok (.getfield 11, 3) := by decide +kernel
theorem dX6_row_39 : decode cX6_row 39 = .ok (.iload_n 1, 1) := by decide +kernel
theorem dX6_row_40 : decode cX6_row 40 = .ok (.aaload, 1) := by decide +kernel
theorem dX6_row_41 : decode cX6_row 41 = .ok (.iload_n 2, 1) := by decide +kernel
theorem dX6_row_42 : decode cX6_row 42 = .ok (.iload_n 3, 1) := by decide +kernel
theorem dX6_row_43 : decode cX6_row 43 = .ok (.invokevirtual 68, 3) := by decide +kernel
theorem dX6_row_46 : decode cX6_row 46 = .ok (.aload_n 0, 1) := by decide +kernel
theorem dX6_row_47 : decode cX6_row 47 = .ok (.iload_n 3, 1) := by decide +kernel
theorem dX6_row_48 : decode cX6_row 48 = .ok (.invokevirtual 72, 3) := by decide +kernel
theorem dX6_row_51 : decode cX6_row 51 = .ok (.ireturn, 1) := by decide +kernel
theorem dX6_set_0 : decode cX6_set 0 = .ok (.iload_n 1, 1) := by decide +kernel
theorem dX6_set_1 : decode cX6_set 1 = .ok (.invokestatic 55, 3) := by decide +kernel
theorem dX6_set_4 : decode cX6_set 4 = .ok (.ifCond .ne 6, 3) := by decide +kernel
theorem dX6_set_7 : decode cX6_set 7 = .ok (.ldc 63, 2) := by decide +kernel
theorem dX6_set_9 : decode cX6_set 9 = .ok (.ireturn, 1) := by decide +kernel
theorem dX6_set_10 : decode cX6_set 10 = .ok (.aload_n 0, 1) := by decide +kernel
theorem dX6_set_11 : decode cX6_set 11 = .ok (.getfield 11, 3) := by decide +kernel
theorem dX6_set_14 : decode cX6_set 14 = .ok (.iload_n 1, 1) := by decide +kernel
theorem dX6_set_15 : decode cX6_set 15 = .ok (.aaload, 1) := by decide +kernel
theorem dX6_set_16 : decode cX6_set 16 = .ok (.astore 4, 2) := by decide +kernel
theorem dX6_set_18 : decode cX6_set 18 = .ok (.aload 4, 2) := by decide +kernel
theorem dX6_set_20 : decode cX6_set 20 = .ok (.getfield 75, 3) := by decide +kernel
theorem dX6_set_23 : decode cX6_set 23 = .ok (.ifCond .eq 9, 3) := by decide +kernel
theorem dX6_set_26 : decode cX6_set 26 = .ok (.aload_n 0, 1) := by decide +kernel
theorem dX6_set_27 : decode cX6_set 27 = .ok (.iconst 1, 1) := by decide +kernel
theorem dX6_set_28 : decode cX6_set 28 = .ok (.invokevirtual 64, 3) := by decide +kernel
theorem dX6_set_31 : decode cX6_set 31 = .ok (.ireturn, 1) := by decide +kernel
theorem dX6_set_32 : decode cX6_set 32 = .ok (.aload 4, 2) := by decide +kernel
theorem dX6_set_34 : decode cX6_set 34 = .ok (.iload_n 2, 1) := by decide +kernel
theorem dX6_set_35 : decode cX6_set 35 = .ok (.iconst 1, 1) := by decide +kernel
theorem dX6_set_36 : decode cX6_set 36 = .ok (.invokevirtual 79, 3) := by decide +kernel
theorem dX6_set_39 : decode cX6_set 39 = .ok (.ifCond .ne 9, 3) := by decide +kernel
theorem dX6_set_42 : decode cX6_set 42 = .ok (.aload_n 0, 1) := by decide +kernel
theorem dX6_set_43 : decode cX6_set 43 = .ok (.iconst 2, 1) := by decide +kernel
theorem dX6_set_44 : decode cX6_set 44 = .ok (.invokevirtual 64, 3) := by decide +kernel
theorem dX6_set_47 : decode cX6_set 47 = .ok (.ireturn, 1) := by decide +kernel
theorem dX6_set_48 : decode cX6_set 48 = .ok (.aload_n 0, 1) := by decide +kernel
theorem dX6_set_49 : decode cX6_set 49 = .ok (.aload 4, 2) := by decide +kernel
theorem dX6_set_51 : decode cX6_set 51 = .ok (.iload_n 2, 1) := by decide +kernel
theorem dX6_set_52 : decode cX6_set 52 = .ok (.iload_n 3, 1) := by decide +kernel
theorem dX6_set_53 : decode cX6_set 53 = .ok (.invokevirtual 83, 3) := by decide +kernel
theorem dX6_set_56 : decode cX6_set 56 = .ok (.invokevirtual 72, 3) := by decide +kernel
theorem dX6_set_59 : decode cX6_set 59 = .ok (.ireturn, 1) := by decide +kernel
theorem dX6_copy_0 : decode cX6_copy 0 = .ok (.iload_n 1, 1) := by decide +kernel
theorem dX6_copy_1 : decode cX6_copy 1 = .ok (.invokestatic 55, 3) := by decide +kernel
theorem dX6_copy_4 : decode cX6_copy 4 = .ok (.ifCond .eq 10, 3) := by decide +kernel
theorem dX6_copy_7 : decode cX6_copy 7 = .ok (.iload_n 3, 1) := by decide +kernel
theorem dX6_copy_8 : decode cX6_copy 8 = .ok (.invokestatic 55, 3) := by decide +kernel
theorem dX6_copy_11 : decode cX6_copy 11 = .ok (.ifCond .ne 6, 3) := by decide +kernel
theorem dX6_copy_14 : decode cX6_copy 14 = .ok (.ldc 63, 2) := by decide +kernel
theorem dX6_copy_16 : decode cX6_copy 16 = .ok (.ireturn, 1) := by decide +kernel
theorem dX6_copy_17 : decode cX6_copy 17 = .ok (.aload_n 0, 1) := by decide +kernel
theorem dX6_copy_18 : decode cX6_copy 18 = .ok (.getfield 11, 3) := by decide +kernel
theorem dX6_copy_21 : decode cX6_copy 21 = .ok (.iload_n 1, 1) := by decide +kernel
theorem dX6_copy_22 : decode cX6_copy 22 = .ok (.aaload, 1) := by decide +kernel
theorem dX6_copy_23 : decode cX6_copy 23 = .ok (.astore 6, 2) := by decide +kernel
theorem dX6_copy_25 : decode cX6_copy 25 = .ok (.aload_n 0, 1) := by decide +kernel
theorem dX6_copy_26 : decode cX6_copy 26 = .ok (.getfield 11, 3) := by decide +kernel
theorem dX6_copy_29 : decode cX6_copy 29 = .ok (.iload_n 3, 1) := by decide +kernel
theorem dX6_copy_30 : decode cX6_copy 30 = .ok (.aaload, 1) := by decide +kernel
theorem dX6_copy_31 : decode cX6_copy 31 = .ok (.astore 7, 2) := by decide +kernel
theorem dX6_copy_33 : decode cX6_copy 33 = .ok (.aload 6, 2) := by decide +kernel
theorem dX6_copy_35 : decode cX6_copy 35 = .ok (.getfield 75, 3) := by decide +kernel
theorem dX6_copy_38 : decode cX6_copy 38 = .ok (.ifCond .ne 11, 3) := by decide +kernel
theorem dX6_copy_41 : decode cX6_copy 41 = .ok (.aload 7, 2) := by decide +kernel
theorem dX6_copy_43 : decode cX6_copy 43 = .ok (.getfield 75, 3) := by decide +kernel
theorem dX6_copy_46 : decode cX6_copy 46 = .ok (.ifCond .eq 9, 3) := by decide +kernel
theorem dX6_copy_49 : decode cX6_copy 49 = .ok (.aload_n 0, 1) := by decide +kernel
theorem dX6_copy_50 : decode cX6_copy 50 = .ok (.iconst 1, 1) := by decide +kernel
theorem dX6_copy_51 : decode cX6_copy 51 = .ok (.invokevirtual 64, 3) := by decide +kernel
theorem dX6_copy_54 : decode cX6_copy 54 = .ok (.ireturn, 1) := by decide +kernel
theorem dX6_copy_55 : decode cX6_copy 55 = .ok (.aload 6, 2) := by decide +kernel
theorem dX6_copy_57 : decode cX6_copy 57 = .ok (.getfield 87, 3) := by decide +kernel
theorem dX6_copy_60 : decode cX6_copy 60 = .ok (.aload 7, 2) := by decide +kernel
theorem dX6_copy_62 : decode cX6_copy 62 = .ok (.getfield 87, 3) := by decide +kernel
theorem dX6_copy_65 : decode cX6_copy 65 = .ok (.if_icmp .eq 9, 3) := by decide +kernel
theorem dX6_copy_68 : decode cX6_copy 68 = .ok (.aload_n 0, 1) := by decide +kernel
theorem dX6_copy_69 : decode cX6_copy 69 = .ok (.iconst 5, 1) := by decide +kernel
theorem dX6_copy_70 : decode cX6_copy 70 = .ok (.invokevirtual 64, 3) := by decide +kernel
theorem dX6_copy_73 : decode cX6_copy 73 = .ok (.ireturn, 1) := by decide +kernel
theorem dX6_copy_74 : decode cX6_copy 74 = .ok (.aload 6, 2) := by decide +kernel
theorem dX6_copy_76 : decode cX6_copy 76 = .ok (.iload_n 2, 1) := by decide +kernel
theorem dX6_copy_77 : decode cX6_copy 77 = .ok (.iload 5, 2) := by decide +kernel
theorem dX6_copy_79 : decode cX6_copy 79 = .ok (.invokevirtual 79, 3) := by decide +kernel
theorem dX6_copy_82 : decode cX6_copy 82 = .ok (.ifCond .eq 15, 3) := by decide +kernel
theorem dX6_copy_85 : decode cX6_copy 85 = .ok (.aload 7, 2) := by decide +kernel
theorem dX6_copy_87 : decode cX6_copy 87 = .ok (.iload 4, 2) := by decide +kernel
theorem dX6_copy_89 : decode cX6_copy 89 = .ok (.iload 5, 2) := by decide +kernel
theorem dX6_copy_91 : decode cX6_copy 91 = .ok (.invokevirtual 79, 3) := by decide +kernel
theorem dX6_copy_94 : decode cX6_copy 94 = .ok (.ifCond .ne 9, 3) := by decide +kernel
theorem dX6_copy_97 : decode cX6_copy 97 = .ok (.aload_n 0, 1) := by decide +kernel
theorem dX6_copy_98 : decode cX6_copy 98 = .ok (.iconst 2, 1) := by decide +kernel
theorem dX6_copy_99 : decode cX6_copy 99 = .ok (.invokevirtual 64, 3) := by decide +kernel
theorem dX6_copy_102 : decode cX6_copy 102 = .ok (.ireturn, 1) := by decide +kernel
theorem dX6_copy_103 : decode cX6_copy 103 = .ok (.aload 6, 2) := by decide +kernel
theorem dX6_copy_105 : decode cX6_copy 105 = .ok (.getfield 91, 3) := by decide +kernel
theorem dX6_copy_108 : decode cX6_copy 108 = .ok (.iload_n 2, 1) := by decide +kernel
theorem dX6_copy_109 : decode cX6_copy 109 = .ok (.aload 7, 2) := by decide +kernel
theorem dX6_copy_111 : decode cX6_copy 111 = .ok (.getfield 91, 3) := by decide +kernel
theorem dX6_copy_114 : decode cX6_copy 114 = .ok (.iload 4, 2) := by decide +kernel
theorem dX6_copy_116 : decode cX6_copy 116 = .ok (.iload 5, 2) := by decide +kernel
theorem dX6_copy_118 : decode cX6_copy 118 = .ok (.invokestatic 95, 3) := by decide +kernel
theorem dX6_copy_121 : decode cX6_copy 121 = .ok (.aload_n 0, 1) := by decide +kernel
theorem dX6_copy_122 : decode cX6_copy 122 = .ok (.iload 5, 2) := by decide +kernel
theorem dX6_copy_124 : decode cX6_copy 124 = .ok (.invokevirtual 72, 3) := by decide +kernel
theorem dX6_copy_127 : decode cX6_copy 127 = .ok (.ireturn, 1) := by decide +kernel
theorem dX6_drop_0 : decode cX6_drop 0 = .ok (.iload_n 1, 1) := by decide +kernel
theorem dX6_drop_1 : decode cX6_drop 1 = .ok (.invokestatic 55, 3) := by decide +kernel
theorem dX6_drop_4 : decode cX6_drop 4 = .ok (.ifCond .ne 6, 3) := by decide +kernel
theorem dX6_drop_7 : decode cX6_drop 7 = .ok (.ldc 63, 2) := by decide +kernel
theorem dX6_drop_9 : decode cX6_drop 9 = .ok (.ireturn, 1) := by decide +kernel
theorem dX6_drop_10 : decode cX6_drop 10 = .ok (.aload_n 0, 1) := by decide +kernel
theorem dX6_drop_11 : decode cX6_drop 11 = .ok (.getfield 11, 3) := by decide +kernel
theorem dX6_drop_14 : decode cX6_drop 14 = .ok (.iload_n 1, 1) := by decide +kernel
theorem dX6_drop_15 : decode cX6_drop 15 = .ok (.aaload, 1) := by decide +kernel
theorem dX6_drop_16 : decode cX6_drop 16 = .ok (.astore_n 2, 1) := by decide +kernel
theorem dX6_drop_17 : decode cX6_drop 17 = .ok (.aload_n 2, 1) := by decide +kernel
theorem dX6_drop_18 : decode cX6_drop 18 = .ok (.getfield 75, 3) := by decide +kernel
theorem dX6_drop_21 : decode cX6_drop 21 = .ok (.ifCond .eq 9, 3) := by decide +kernel
theorem dX6_drop_24 : decode cX6_drop 24 = .ok (.aload_n 0, 1) := by decide +kernel
theorem dX6_drop_25 : decode cX6_drop 25 = .ok (.iconst 1, 1) := by decide +kernel
theorem dX6_drop_26 : decode cX6_drop 26 = .ok (.invokevirtual 64, 3) := by decide +kernel
theorem dX6_drop_29 : decode cX6_drop 29 = .ok (.ireturn, 1) := by decide +kernel
theorem dX6_drop_30 : decode cX6_drop 30 = .ok (.aload_n 2, 1) := by decide +kernel
theorem dX6_drop_31 : decode cX6_drop 31 = .ok (.iconst 1, 1) := by decide +kernel
theorem dX6_drop_32 : decode cX6_drop 32 = .ok (.putfield 75, 3) := by decide +kernel
theorem dX6_drop_35 : decode cX6_drop 35 = .ok (.aload_n 0, 1) := by decide +kernel
theorem dX6_drop_36 : decode cX6_drop 36 = .ok (.aload_n 2, 1) := by decide +kernel
theorem dX6_drop_37 : decode cX6_drop 37 = .ok (.getfield 101, 3) := by decide +kernel
theorem dX6_drop_40 : decode cX6_drop 40 = .ok (.invokevirtual 72, 3) := by decide +kernel
theorem dX6_drop_43 : decode cX6_drop 43 = .ok (.ireturn, 1) := by decide +kernel
theorem dX6_feed_0 : decode cX6_feed 0 = .ok (.iload_n 1, 1) := by decide +kernel
theorem dX6_feed_1 : decode cX6_feed 1 = .ok (.iconst 0, 1) := by decide +kernel
theorem dX6_feed_2 : decode cX6_feed 2 = .ok (.sipush 255, 3) := by decide +kernel
theorem dX6_feed_5 : decode cX6_feed 5 = .ok (.invokestatic 59, 3) := by decide +kernel
theorem dX6_feed_8 : decode cX6_feed 8 = .ok (.ifCond .ne 6, 3) := by decide +kernel
theorem dX6_feed_11 : decode cX6_feed 11 = .ok (.ldc 63, 2) := by decide +kernel
theorem dX6_feed_13 : decode cX6_feed 13 = .ok (.ireturn, 1) := by decide +kernel
theorem dX6_feed_14 : decode cX6_feed 14 = .ok (.aload_n 0, 1) := by decide +kernel
theorem dX6_feed_15 : decode cX6_feed 15 = .ok (.getfield 18, 3) := by decide +kernel
theorem dX6_feed_18 : decode cX6_feed 18 = .ok (.getfield 104, 3) := by decide +kernel
theorem dX6_feed_21 : decode cX6_feed 21 = .ok (.bipush 120, 2) := by decide +kernel
theorem dX6_feed_23 : decode cX6_feed 23 = .ok (.if_icmp .lt 6, 3) := by decide +kernel
theorem dX6_feed_26 : decode cX6_feed 26 = .ok (.ldc 107, 2) := by decide +kernel
theorem dX6_feed_28 : decode cX6_feed 28 = .ok (.ireturn, 1) := by decide +kernel
theorem dX6_feed_29 : decode cX6_feed 29 = .ok (.aload_n 0, 1) := by decide +kernel
theorem dX6_feed_30 : decode cX6_feed 30 = .ok (.getfield 18, 3) := by decide +kernel
theorem dX6_feed_33 : decode cX6_feed 33 = .ok (.iload_n 1, 1) := by decide +kernel
theorem dX6_feed_34 : decode cX6_feed 34 = .ok (.invokevirtual 108, 3) := by decide +kernel
theorem dX6_feed_37 : decode cX6_feed 37 = .ok (.aload_n 0, 1) := by decide +kernel
theorem dX6_feed_38 : decode cX6_feed 38 = .ok (.getfield 18, 3) := by decide +kernel
theorem dX6_feed_41 : decode cX6_feed 41 = .ok (.getfield 104, 3) := by decide +kernel
theorem dX6_feed_44 : decode cX6_feed 44 = .ok (.ireturn, 1) := by decide +kernel
theorem dX6_estuary_0 : decode cX6_estuary 0 = .ok (.aload_n 0, 1) := by decide +kernel
theorem dX6_estuary_1 : decode cX6_estuary 1 = .ok (.getfield 18, 3) := by decide +kernel
theorem dX6_estuary_4 : decode cX6_estuary 4 = .ok (.invokevirtual 112, 3) := by decide +kernel
theorem dX6_estuary_7 : decode cX6_estuary 7 = .ok (.aload_n 0, 1) := by decide +kernel
theorem dX6_estuary_8 : decode cX6_estuary 8 = .ok (.getfield 18, 3) := by decide +kernel
theorem dX6_estuary_11 : decode cX6_estuary 11 = .ok (.getfield 115, 3) := by decide +kernel
theorem dX6_estuary_14 : decode cX6_estuary 14 = .ok (.ifCond .eq 25, 3) := by decide +kernel
theorem dX6_estuary_17 : decode cX6_estuary 17 = .ok (.aload_n 0, 1) := by decide +kernel
theorem dX6_estuary_18 : decode cX6_estuary 18 = .ok (.aload_n 0, 1) := by decide +kernel
theorem dX6_estuary_19 : decode cX6_estuary 19 = .ok (.getfield 18, 3) := by decide +kernel
theorem dX6_estuary_22 : decode cX6_estuary 22 = .ok (.getfield 115, 3) := by decide +kernel
theorem dX6_estuary_25 : decode cX6_estuary 25 = .ok (.putfield 118, 3) := by decide +kernel
theorem dX6_estuary_28 : decode cX6_estuary 28 = .ok (.ldc 121, 2) := by decide +kernel
theorem dX6_estuary_30 : decode cX6_estuary 30 = .ok (.aload_n 0, 1) := by decide +kernel
theorem dX6_estuary_31 : decode cX6_estuary 31 = .ok (.getfield 18, 3) := by decide +kernel
theorem dX6_estuary_34 : decode cX6_estuary 34 = .ok (.getfield 122, 3) := by decide +kernel
theorem dX6_estuary_37 : decode cX6_estuary 37 = .ok (.isub, 1) := by decide +kernel
theorem dX6_estuary_38 : decode cX6_estuary 38 = .ok (.ireturn, 1) := by decide +kernel
theorem dX6_estuary_39 : decode cX6_estuary 39 = .ok (.aload_n 0, 1) := by decide +kernel
theorem dX6_estuary_40 : decode cX6_estuary 40 = .ok (.getfield 25, 3) := by decide +kernel
theorem dX6_estuary_43 : decode cX6_estuary 43 = .ok (.aload_n 0, 1) := by decide +kernel
theorem dX6_estuary_44 : decode cX6_estuary 44 = .ok (.getfield 18, 3) := by decide +kernel
theorem dX6_estuary_47 : decode cX6_estuary 47 = .ok (.getfield 125, 3) := by decide +kernel
theorem dX6_estuary_50 : decode cX6_estuary 50 = .ok (.invokevirtual 128, 3) := by decide +kernel
theorem dX6_estuary_53 : decode cX6_estuary 53 = .ok (.aload_n 0, 1) := by decide +kernel
theorem dX6_estuary_54 : decode cX6_estuary 54 = .ok (.getfield 32, 3) := by decide +kernel
theorem dX6_estuary_57 : decode cX6_estuary 57 = .ok (.invokevirtual 132, 3) := by decide +kernel
theorem dX6_estuary_60 : decode cX6_estuary 60 = .ok (.aload_n 0, 1) := by decide +kernel
theorem dX6_estuary_61 : decode cX6_estuary 61 = .ok (.getfield 25, 3) := by decide +kernel
theorem dX6_estuary_64 : decode cX6_estuary 64 = .ok (.getfield 135, 3) := by decide +kernel
theorem dX6_estuary_67 : decode cX6_estuary 67 = .ok (.ireturn, 1) := by decide +kernel
theorem dX6_fault_0 : decode cX6_fault 0 = .ok (.aload_n 0, 1) := by decide +kernel
theorem dX6_fault_1 : decode cX6_fault 1 = .ok (.getfield 118, 3) := by decide +kernel
theorem dX6_fault_4 : decode cX6_fault 4 = .ok (.ireturn, 1) := by decide +kernel
theorem dX6_undo_0 : decode cX6_undo 0 = .ok (.aload_n 0, 1) := by decide +kernel
theorem dX6_undo_1 : decode cX6_undo 1 = .ok (.getfield 32, 3) := by decide +kernel
theorem dX6_undo_4 : decode cX6_undo 4 = .ok (.getfield 138, 3) := by decide +kernel
theorem dX6_undo_7 : decode cX6_undo 7 = .ok (.ifCond .ne 6, 3) := by decide +kernel
theorem dX6_undo_10 : decode cX6_undo 10 = .ok (.ldc 141, 2) := by decide +kernel
theorem dX6_undo_12 : decode cX6_undo 12 = .ok (.ireturn, 1) := by decide +kernel
theorem dX6_undo_13 : decode cX6_undo 13 = .ok (.aload_n 0, 1) := by decide +kernel
theorem dX6_undo_14 : decode cX6_undo 14 = .ok (.getfield 32, 3) := by decide +kernel
theorem dX6_undo_17 : decode cX6_undo 17 = .ok (.aload_n 0, 1) := by decide +kernel
theorem dX6_undo_18 : decode cX6_undo 18 = .ok (.getfield 25, 3) := by decide +kernel
theorem dX6_undo_21 : decode cX6_undo 21 = .ok (.invokevirtual 142, 3) := by decide +kernel
theorem dX6_undo_24 : decode cX6_undo 24 = .ok (.aload_n 0, 1) := by decide +kernel
theorem dX6_undo_25 : decode cX6_undo 25 = .ok (.getfield 32, 3) := by decide +kernel
theorem dX6_undo_28 : decode cX6_undo 28 = .ok (.getfield 138, 3) := by decide +kernel
theorem dX6_undo_31 : decode cX6_undo 31 = .ok (.ireturn, 1) := by decide +kernel
theorem dX6_hours_0 : decode cX6_hours 0 = .ok (.aload_n 0, 1) := by decide +kernel
theorem dX6_hours_1 : decode cX6_hours 1 = .ok (.getfield 25, 3) := by decide +kernel
theorem dX6_hours_4 : decode cX6_hours 4 = .ok (.getfield 145, 3) := by decide +kernel
theorem dX6_hours_7 : decode cX6_hours 7 = .ok (.ifCond .ne 6, 3) := by decide +kernel
theorem dX6_hours_10 : decode cX6_hours 10 = .ok (.ldc 141, 2) := by decide +kernel
theorem dX6_hours_12 : decode cX6_hours 12 = .ok (.ireturn, 1) := by decide +kernel
theorem dX6_hours_13 : decode cX6_hours 13 = .ok (.iload_n 1, 1) := by decide +kernel
theorem dX6_hours_14 : decode cX6_hours 14 = .ok (.iconst 1, 1) := by decide +kernel
theorem dX6_hours_15 : decode cX6_hours 15 = .ok (.bipush 24, 2) := by decide +kernel
theorem dX6_hours_17 : decode cX6_hours 17 = .ok (.invokestatic 59, 3) := by decide +kernel
theorem dX6_hours_20 : decode cX6_hours 20 = .ok (.ifCond .ne 6, 3) := by decide +kernel
theorem dX6_hours_23 : decode cX6_hours 23 = .ok (.ldc 63, 2) := by decide +kernel
theorem dX6_hours_25 : decode cX6_hours 25 = .ok (.ireturn, 1) := by decide +kernel
theorem dX6_hours_26 : decode cX6_hours 26 = .ok (.aload_n 0, 1) := by decide +kernel
theorem dX6_hours_27 : decode cX6_hours 27 = .ok (.getfield 25, 3) := by decide +kernel
theorem dX6_hours_30 : decode cX6_hours 30 = .ok (.getfield 148, 3) := by decide +kernel
theorem dX6_hours_33 : decode cX6_hours 33 = .ok (.iload_n 1, 1) := by decide +kernel
theorem dX6_hours_34 : decode cX6_hours 34 = .ok (.iadd, 1) := by decide +kernel
theorem dX6_hours_35 : decode cX6_hours 35 = .ok (.sipush 999, 3) := by decide +kernel
theorem dX6_hours_38 : decode cX6_hours 38 = .ok (.if_icmp .le 6, 3) := by decide +kernel
theorem dX6_hours_41 : decode cX6_hours 41 = .ok (.ldc 107, 2) := by decide +kernel
theorem dX6_hours_43 : decode cX6_hours 43 = .ok (.ireturn, 1) := by decide +kernel
theorem dX6_hours_44 : decode cX6_hours 44 = .ok (.iconst 0, 1) := by decide +kernel
theorem dX6_hours_45 : decode cX6_hours 45 = .ok (.istore_n 2, 1) := by decide +kernel
theorem dX6_hours_46 : decode cX6_hours 46 = .ok (.iload_n 2, 1) := by decide +kernel
theorem dX6_hours_47 : decode cX6_hours 47 = .ok (.iload_n 1, 1) := by decide +kernel
theorem dX6_hours_48 : decode cX6_hours 48 = .ok (.if_icmp .ge 27, 3) := by decide +kernel
theorem dX6_hours_51 : decode cX6_hours 51 = .ok (.aload_n 0, 1) := by decide +kernel
theorem dX6_hours_52 : decode cX6_hours 52 = .ok (.getfield 32, 3) := by decide +kernel
theorem dX6_hours_55 : decode cX6_hours 55 = .ok (.aload_n 0, 1) := by decide +kernel
theorem dX6_hours_56 : decode cX6_hours 56 = .ok (.getfield 25, 3) := by decide +kernel
theorem dX6_hours_59 : decode cX6_hours 59 = .ok (.invokevirtual 151, 3) := by decide +kernel
theorem dX6_hours_62 : decode cX6_hours 62 = .ok (.aload_n 0, 1) := by decide +kernel
theorem dX6_hours_63 : decode cX6_hours 63 = .ok (.getfield 25, 3) := by decide +kernel
theorem dX6_hours_66 : decode cX6_hours 66 = .ok (.invokevirtual 154, 3) := by decide +kernel
theorem dX6_hours_69 : decode cX6_hours 69 = .ok (.iinc 2 1, 3) := by decide +kernel
theorem dX6_hours_72 : decode cX6_hours 72 = .ok (.goto (-26), 3) := by decide +kernel
theorem dX6_hours_75 : decode cX6_hours 75 = .ok (.aload_n 0, 1) := by decide +kernel
theorem dX6_hours_76 : decode cX6_hours 76 = .ok (.getfield 25, 3) := by decide +kernel
theorem dX6_hours_79 : decode cX6_hours 79 = .ok (.getfield 157, 3) := by decide +kernel
theorem dX6_hours_82 : decode cX6_hours 82 = .ok (.ireturn, 1) := by decide +kernel
theorem dX6_step_0 : decode cX6_step 0 = .ok (.aload_n 0, 1) := by decide +kernel
theorem dX6_step_1 : decode cX6_step 1 = .ok (.getfield 25, 3) := by decide +kernel
theorem dX6_step_4 : decode cX6_step 4 = .ok (.getfield 145, 3) := by decide +kernel
theorem dX6_step_7 : decode cX6_step 7 = .ok (.ifCond .ne 6, 3) := by decide +kernel
theorem dX6_step_10 : decode cX6_step 10 = .ok (.ldc 141, 2) := by decide +kernel
theorem dX6_step_12 : decode cX6_step 12 = .ok (.ireturn, 1) := by decide +kernel
theorem dX6_step_13 : decode cX6_step 13 = .ok (.iload_n 1, 1) := by decide +kernel
theorem dX6_step_14 : decode cX6_step 14 = .ok (.iconst 0, 1) := by decide +kernel
theorem dX6_step_15 : decode cX6_step 15 = .ok (.iconst 1, 1) := by decide +kernel
theorem dX6_step_16 : decode cX6_step 16 = .ok (.invokestatic 59, 3) := by decide +kernel
theorem dX6_step_19 : decode cX6_step 19 = .ok (.ifCond .ne 6, 3) := by decide +kernel
theorem dX6_step_22 : decode cX6_step 22 = .ok (.ldc 63, 2) := by decide +kernel
theorem dX6_step_24 : decode cX6_step 24 = .ok (.ireturn, 1) := by decide +kernel
theorem dX6_step_25 : decode cX6_step 25 = .ok (.iload_n 1, 1) := by decide +kernel
theorem dX6_step_26 : decode cX6_step 26 = .ok (.ifCond .ne 15, 3) := by decide +kernel
theorem dX6_step_29 : decode cX6_step 29 = .ok (.aload_n 0, 1) := by decide +kernel
theorem dX6_step_30 : decode cX6_step 30 = .ok (.getfield 25, 3) := by decide +kernel
theorem dX6_step_33 : decode cX6_step 33 = .ok (.getfield 160, 3) := by decide +kernel
theorem dX6_step_36 : decode cX6_step 36 = .ok (.iconst 1, 1) := by decide +kernel
theorem dX6_step_37 : decode cX6_step 37 = .ok (.isub, 1) := by decide +kernel
theorem dX6_step_38 : decode cX6_step 38 = .ok (.goto 12, 3) := by decide +kernel
theorem dX6_step_41 : decode cX6_step 41 = .ok (.aload_n 0, 1) := by decide +kernel
theorem dX6_step_42 : decode cX6_step 42 = .ok (.getfield 25, 3) := by decide +kernel
theorem dX6_step_45 : decode cX6_step 45 = .ok (.getfield 160, 3) := by decide +kernel
theorem dX6_step_48 : decode cX6_step 48 = .ok (.iconst 1, 1) := by decide +kernel
theorem dX6_step_49 : decode cX6_step 49 = .ok (.iadd, 1) := by decide +kernel
theorem dX6_step_50 : decode cX6_step 50 = .ok (.istore_n 2, 1) := by decide +kernel
theorem dX6_step_51 : decode cX6_step 51 = .ok (.aload_n 0, 1) := by decide +kernel
theorem dX6_step_52 : decode cX6_step 52 = .ok (.getfield 25, 3) := by decide +kernel
theorem dX6_step_55 : decode cX6_step 55 = .ok (.iload_n 2, 1) := by decide +kernel
theorem dX6_step_56 : decode cX6_step 56 = .ok (.invokevirtual 163, 3) := by decide +kernel
theorem dX6_step_59 : decode cX6_step 59 = .ok (.ifCond .ne 6, 3) := by decide +kernel
theorem dX6_step_62 : decode cX6_step 62 = .ok (.ldc 141, 2) := by decide +kernel
theorem dX6_step_64 : decode cX6_step 64 = .ok (.ireturn, 1) := by decide +kernel
theorem dX6_step_65 : decode cX6_step 65 = .ok (.aload_n 0, 1) := by decide +kernel
theorem dX6_step_66 : decode cX6_step 66 = .ok (.getfield 32, 3) := by decide +kernel
theorem dX6_step_69 : decode cX6_step 69 = .ok (.aload_n 0, 1) := by decide +kernel
theorem dX6_step_70 : decode cX6_step 70 = .ok (.getfield 25, 3) := by decide +kernel
theorem dX6_step_73 : decode cX6_step 73 = .ok (.invokevirtual 151, 3) := by decide +kernel
theorem dX6_step_76 : decode cX6_step 76 = .ok (.aload_n 0, 1) := by decide +kernel
theorem dX6_step_77 : decode cX6_step 77 = .ok (.getfield 25, 3) := by decide +kernel
theorem dX6_step_80 : decode cX6_step 80 = .ok (.iload_n 2, 1) := by decide +kernel
theorem dX6_step_81 : decode cX6_step 81 = .ok (.putfield 160, 3) := by decide +kernel
theorem dX6_step_84 : decode cX6_step 84 = .ok (.iload_n 2, 1) := by decide +kernel
theorem dX6_step_85 : decode cX6_step 85 = .ok (.ireturn, 1) := by decide +kernel
theorem dX6_wind_0 : decode cX6_wind 0 = .ok (.aload_n 0, 1) := by decide +kernel
theorem dX6_wind_1 : decode cX6_wind 1 = .ok (.getfield 25, 3) := by decide +kernel
theorem dX6_wind_4 : decode cX6_wind 4 = .ok (.iload_n 1, 1) := by decide +kernel
theorem dX6_wind_5 : decode cX6_wind 5 = .ok (.invokevirtual 166, 3) := by decide +kernel
theorem dX6_wind_8 : decode cX6_wind 8 = .ok (.ifCond .eq 12, 3) := by decide +kernel
theorem dX6_wind_11 : decode cX6_wind 11 = .ok (.iload_n 2, 1) := by decide +kernel
theorem dX6_wind_12 : decode cX6_wind 12 = .ok (.iconst 0, 1) := by decide +kernel
theorem dX6_wind_13 : decode cX6_wind 13 = .ok (.iconst 4, 1) := by decide +kernel
theorem dX6_wind_14 : decode cX6_wind 14 = .ok (.invokestatic 59, 3) := by decide +kernel
theorem dX6_wind_17 : decode cX6_wind 17 = .ok (.ifCond .ne 6, 3) := by decide +kernel
theorem dX6_wind_20 : decode cX6_wind 20 = .ok (.ldc 63, 2) := by decide +kernel
theorem dX6_wind_22 : decode cX6_wind 22 = .ok (.ireturn, 1) := by decide +kernel
theorem dX6_wind_23 : decode cX6_wind 23 = .ok (.aload_n 0, 1) := by decide +kernel
theorem dX6_wind_24 : decode cX6_wind 24 = .ok (.getfield 25, 3) := by decide +kernel
theorem dX6_wind_27 : decode cX6_wind 27 = .ok (.getfield 169, 3) := by decide +kernel
theorem dX6_wind_30 : decode cX6_wind 30 = .ok (.iload_n 1, 1) := by decide +kernel
theorem dX6_wind_31 : decode cX6_wind 31 = .ok (.iaload, 1) := by decide +kernel
theorem dX6_wind_32 : decode cX6_wind 32 = .ok (.istore_n 3, 1) := by decide +kernel
theorem dX6_wind_33 : decode cX6_wind 33 = .ok (.aload_n 0, 1) := by decide +kernel
theorem dX6_wind_34 : decode cX6_wind 34 = .ok (.getfield 32, 3) := by decide +kernel
theorem dX6_wind_37 : decode cX6_wind 37 = .ok (.aload_n 0, 1) := by decide +kernel
theorem dX6_wind_38 : decode cX6_wind 38 = .ok (.getfield 25, 3) := by decide +kernel
theorem dX6_wind_41 : decode cX6_wind 41 = .ok (.invokevirtual 151, 3) := by decide +kernel
theorem dX6_wind_44 : decode cX6_wind 44 = .ok (.aload_n 0, 1) := by decide +kernel
theorem dX6_wind_45 : decode cX6_wind 45 = .ok (.getfield 25, 3) := by decide +kernel
theorem dX6_wind_48 : decode cX6_wind 48 = .ok (.getfield 169, 3) := by decide +kernel
theorem dX6_wind_51 : decode cX6_wind 51 = .ok (.iload_n 1, 1) := by decide +kernel
theorem dX6_wind_52 : decode cX6_wind 52 = .ok (.iload_n 2, 1) := by decide +kernel
theorem dX6_wind_53 : decode cX6_wind 53 = .ok (.iastore, 1) := by decide +kernel
theorem dX6_wind_54 : decode cX6_wind 54 = .ok (.iload_n 3, 1) := by decide +kernel
theorem dX6_wind_55 : decode cX6_wind 55 = .ok (.ireturn, 1) := by decide +kernel
theorem dX6_wake_0 : decode cX6_wake 0 = .ok (.aload_n 0, 1) := by decide +kernel
theorem dX6_wake_1 : decode cX6_wake 1 = .ok (.getfield 25, 3) := by decide +kernel
theorem dX6_wake_4 : decode cX6_wake 4 = .ok (.getfield 145, 3) := by decide +kernel
theorem dX6_wake_7 : decode cX6_wake 7 = .ok (.ifCond .ne 6, 3) := by decide +kernel
theorem dX6_wake_10 : decode cX6_wake 10 = .ok (.ldc 141, 2) := by decide +kernel
theorem dX6_wake_12 : decode cX6_wake 12 = .ok (.ireturn, 1) := by decide +kernel
theorem dX6_wake_13 : decode cX6_wake 13 = .ok (.iload_n 1, 1) := by decide +kernel
theorem dX6_wake_14 : decode cX6_wake 14 = .ok (.iconst 0, 1) := by decide +kernel
theorem dX6_wake_15 : decode cX6_wake 15 = .ok (.bipush 15, 2) := by decide +kernel
theorem dX6_wake_17 : decode cX6_wake 17 = .ok (.invokestatic 59, 3) := by decide +kernel
theorem dX6_wake_20 : decode cX6_wake 20 = .ok (.ifCond .ne 6, 3) := by decide +kernel
theorem dX6_wake_23 : decode cX6_wake 23 = .ok (.ldc 63, 2) := by decide +kernel
theorem dX6_wake_25 : decode cX6_wake 25 = .ok (.ireturn, 1) := by decide +kernel
theorem dX6_wake_26 : decode cX6_wake 26 = .ok (.aload_n 0, 1) := by decide +kernel
theorem dX6_wake_27 : decode cX6_wake 27 = .ok (.getfield 25, 3) := by decide +kernel
theorem dX6_wake_30 : decode cX6_wake 30 = .ok (.getfield 172, 3) := by decide +kernel
theorem dX6_wake_33 : decode cX6_wake 33 = .ok (.istore_n 2, 1) := by decide +kernel
theorem dX6_wake_34 : decode cX6_wake 34 = .ok (.aload_n 0, 1) := by decide +kernel
theorem dX6_wake_35 : decode cX6_wake 35 = .ok (.getfield 32, 3) := by decide +kernel
theorem dX6_wake_38 : decode cX6_wake 38 = .ok (.aload_n 0, 1) := by decide +kernel
theorem dX6_wake_39 : decode cX6_wake 39 = .ok (.getfield 25, 3) := by decide +kernel
theorem dX6_wake_42 : decode cX6_wake 42 = .ok (.invokevirtual 151, 3) := by decide +kernel
theorem dX6_wake_45 : decode cX6_wake 45 = .ok (.aload_n 0, 1) := by decide +kernel
theorem dX6_wake_46 : decode cX6_wake 46 = .ok (.getfield 25, 3) := by decide +kernel
theorem dX6_wake_49 : decode cX6_wake 49 = .ok (.iload_n 1, 1) := by decide +kernel
theorem dX6_wake_50 : decode cX6_wake 50 = .ok (.putfield 172, 3) := by decide +kernel
theorem dX6_wake_53 : decode cX6_wake 53 = .ok (.iload_n 2, 1) := by decide +kernel
theorem dX6_wake_54 : decode cX6_wake 54 = .ok (.ireturn, 1) := by decide +kernel
theorem dX6_let_0 : decode cX6_let 0 = .ok (.aload_n 0, 1) := by decide +kernel
theorem dX6_let_1 : decode cX6_let 1 = .ok (.getfield 25, 3) := by decide +kernel
theorem dX6_let_4 : decode cX6_let 4 = .ok (.iload_n 1, 1) := by decide +kernel
theorem dX6_let_5 : decode cX6_let 5 = .ok (.invokevirtual 175, 3) := by decide +kernel
theorem dX6_let_8 : decode cX6_let 8 = .ok (.ifCond .eq 24, 3) := by decide +kernel
theorem dX6_let_11 : decode cX6_let 11 = .ok (.aload_n 0, 1) := by decide +kernel
theorem dX6_let_12 : decode cX6_let 12 = .ok (.getfield 25, 3) := by decide +kernel
theorem dX6_let_15 : decode cX6_let 15 = .ok (.iload_n 2, 1) := by decide +kernel
theorem dX6_let_16 : decode cX6_let 16 = .ok (.invokevirtual 163, 3) := by decide +kernel
theorem dX6_let_19 : decode cX6_let 19 = .ok (.ifCond .eq 13, 3) := by decide +kernel
theorem dX6_let_22 : decode cX6_let 22 = .ok (.iload_n 3, 1) := by decide +kernel
theorem dX6_let_23 : decode cX6_let 23 = .ok (.iconst 1, 1) := by decide +kernel
theorem dX6_let_24 : decode cX6_let 24 = .ok (.bipush 9, 2) := by decide +kernel
theorem dX6_let_26 : decode cX6_let 26 = .ok (.invokestatic 59, 3) := by decide +kernel
theorem dX6_let_29 : decode cX6_let 29 = .ok (.ifCond .ne 6, 3) := by decide +kernel
theorem dX6_let_32 : decode cX6_let 32 = .ok (.ldc 63, 2) := by decide +kernel
theorem dX6_let_34 : decode cX6_let 34 = .ok (.ireturn, 1) := by decide +kernel
theorem dX6_let_35 : decode cX6_let 35 = .ok (.aload_n 0, 1) := by decide +kernel
theorem dX6_let_36 : decode cX6_let 36 = .ok (.getfield 25, 3) := by decide +kernel
theorem dX6_let_39 : decode cX6_let 39 = .ok (.iload_n 1, 1) := by decide +kernel
theorem dX6_let_40 : decode cX6_let 40 = .ok (.invokevirtual 178, 3) := by decide +kernel
theorem dX6_let_43 : decode cX6_let 43 = .ok (.ifCond .eq 6, 3) := by decide +kernel
theorem dX6_let_46 : decode cX6_let 46 = .ok (.ldc 141, 2) := by decide +kernel
theorem dX6_let_48 : decode cX6_let 48 = .ok (.ireturn, 1) := by decide +kernel
theorem dX6_let_49 : decode cX6_let 49 = .ok (.aload_n 0, 1) := by decide +kernel
theorem dX6_let_50 : decode cX6_let 50 = .ok (.getfield 32, 3) := by decide +kernel
theorem dX6_let_53 : decode cX6_let 53 = .ok (.aload_n 0, 1) := by decide +kernel
theorem dX6_let_54 : decode cX6_let 54 = .ok (.getfield 25, 3) := by decide +kernel
theorem dX6_let_57 : decode cX6_let 57 = .ok (.invokevirtual 151, 3) := by decide +kernel
theorem dX6_let_60 : decode cX6_let 60 = .ok (.aload_n 0, 1) := by decide +kernel
theorem dX6_let_61 : decode cX6_let 61 = .ok (.getfield 25, 3) := by decide +kernel
theorem dX6_let_64 : decode cX6_let 64 = .ok (.iload_n 1, 1) := by decide +kernel
theorem dX6_let_65 : decode cX6_let 65 = .ok (.iload_n 2, 1) := by decide +kernel
theorem dX6_let_66 : decode cX6_let 66 = .ok (.iload_n 3, 1) := by decide +kernel
theorem dX6_let_67 : decode cX6_let 67 = .ok (.invokevirtual 181, 3) := by decide +kernel
theorem dX6_let_70 : decode cX6_let 70 = .ok (.aload_n 0, 1) := by decide +kernel
theorem dX6_let_71 : decode cX6_let 71 = .ok (.getfield 25, 3) := by decide +kernel
theorem dX6_let_74 : decode cX6_let 74 = .ok (.getfield 185, 3) := by decide +kernel
theorem dX6_let_77 : decode cX6_let 77 = .ok (.ireturn, 1) := by decide +kernel
theorem dX6_sheet_0 : decode cX6_sheet 0 = .ok (.aload_n 0, 1) := by decide +kernel
theorem dX6_sheet_1 : decode cX6_sheet 1 = .ok (.getfield 25, 3) := by decide +kernel
theorem dX6_sheet_4 : decode cX6_sheet 4 = .ok (.iload_n 1, 1) := by decide +kernel
theorem dX6_sheet_5 : decode cX6_sheet 5 = .ok (.invokevirtual 175, 3) := by decide +kernel
theorem dX6_sheet_8 : decode cX6_sheet 8 = .ok (.ifCond .ne 6, 3) := by decide +kernel
theorem dX6_sheet_11 : decode cX6_sheet 11 = .ok (.ldc 63, 2) := by decide +kernel
theorem dX6_sheet_13 : decode cX6_sheet 13 = .ok (.ireturn, 1) := by decide +kernel
theorem dX6_sheet_14 : decode cX6_sheet 14 = .ok (.iload_n 2, 1) := by decide +kernel
theorem dX6_sheet_15 : decode cX6_sheet 15 = .ok (.tableswitch 80 0 4 #[33, 42, 52, 61, 71], 33) := by decide +kernel
theorem dX6_sheet_48 : decode cX6_sheet 48 = .ok (.aload_n 0, 1) := by decide +kernel
theorem dX6_sheet_49 : decode cX6_sheet 49 = .ok (.getfield 25, 3) := by decide +kernel
theorem dX6_sheet_52 : decode cX6_sheet 52 = .ok (.iload_n 1, 1) := by decide +kernel
theorem dX6_sheet_53 : decode cX6_sheet 53 = .ok (.invokevirtual 188, 3) := by decide +kernel
theorem dX6_sheet_56 : decode cX6_sheet 56 = .ok (.ireturn, 1) := by decide +kernel
theorem dX6_sheet_57 : decode cX6_sheet 57 = .ok (.aload_n 0, 1) := by decide +kernel
theorem dX6_sheet_58 : decode cX6_sheet 58 = .ok (.getfield 25, 3) := by decide +kernel
theorem dX6_sheet_61 : decode cX6_sheet 61 = .ok (.getfield 191, 3) := by decide +kernel
theorem dX6_sheet_64 : decode cX6_sheet 64 = .ok (.iload_n 1, 1) := by decide +kernel
theorem dX6_sheet_65 : decode cX6_sheet 65 = .ok (.iaload, 1) := by decide +kernel
theorem dX6_sheet_66 : decode cX6_sheet 66 = .ok (.ireturn, 1) := by decide +kernel
theorem dX6_sheet_67 : decode cX6_sheet 67 = .ok (.aload_n 0, 1) := by decide +kernel
theorem dX6_sheet_68 : decode cX6_sheet 68 = .ok (.getfield 25, 3) := by decide +kernel
theorem dX6_sheet_71 : decode cX6_sheet 71 = .ok (.iload_n 1, 1) := by decide +kernel
theorem dX6_sheet_72 : decode cX6_sheet 72 = .ok (.invokevirtual 194, 3) := by decide +kernel
theorem dX6_sheet_75 : decode cX6_sheet 75 = .ok (.ireturn, 1) := by decide +kernel
theorem dX6_sheet_76 : decode cX6_sheet 76 = .ok (.aload_n 0, 1) := by decide +kernel
theorem dX6_sheet_77 : decode cX6_sheet 77 = .ok (.getfield 25, 3) := by decide +kernel
theorem dX6_sheet_80 : decode cX6_sheet 80 = .ok (.getfield 197, 3) := by decide +kernel
theorem dX6_sheet_83 : decode cX6_sheet 83 = .ok (.iload_n 1, 1) := by decide +kernel
theorem dX6_sheet_84 : decode cX6_sheet 84 = .ok (.iaload, 1) := by decide +kernel
theorem dX6_sheet_85 : decode cX6_sheet 85 = .ok (.ireturn, 1) := by decide +kernel
theorem dX6_sheet_86 : decode cX6_sheet 86 = .ok (.aload_n 0, 1) := by decide +kernel
theorem dX6_sheet_87 : decode cX6_sheet 87 = .ok (.getfield 25, 3) := by decide +kernel
theorem dX6_sheet_90 : decode cX6_sheet 90 = .ok (.iload_n 1, 1) := by decide +kernel
theorem dX6_sheet_91 : decode cX6_sheet 91 = .ok (.invokevirtual 200, 3) := by decide +kernel
theorem dX6_sheet_94 : decode cX6_sheet 94 = .ok (.ireturn, 1) := by decide +kernel
theorem dX6_sheet_95 : decode cX6_sheet 95 = .ok (.ldc 63, 2) := by decide +kernel
theorem dX6_sheet_97 : decode cX6_sheet 97 = .ok (.ireturn, 1) := by decide +kernel
theorem dX6_cell_0 : decode cX6_cell 0 = .ok (.aload_n 0, 1) := by decide +kernel
theorem dX6_cell_1 : decode cX6_cell 1 = .ok (.getfield 25, 3) := by decide +kernel
theorem dX6_cell_4 : decode cX6_cell 4 = .ok (.iload_n 1, 1) := by decide +kernel
theorem dX6_cell_5 : decode cX6_cell 5 = .ok (.invokevirtual 163, 3) := by decide +kernel
theorem dX6_cell_8 : decode cX6_cell 8 = .ok (.ifCond .ne 6, 3) := by decide +kernel
theorem dX6_cell_11 : decode cX6_cell 11 = .ok (.ldc 63, 2) := by decide +kernel
theorem dX6_cell_13 : decode cX6_cell 13 = .ok (.ireturn, 1) := by decide +kernel
theorem dX6_cell_14 : decode cX6_cell 14 = .ok (.iload_n 2, 1) := by decide +kernel
theorem dX6_cell_15 : decode cX6_cell 15 = .ok (.tableswitch 60 0 2 #[25, 34, 43], 25) := by decide +kernel
theorem dX6_cell_40 : decode cX6_cell 40 = .ok (.aload_n 0, 1) := by decide +kernel
theorem dX6_cell_41 : decode cX6_cell 41 = .ok (.getfield 25, 3) := by decide +kernel
theorem dX6_cell_44 : decode cX6_cell 44 = .ok (.iload_n 1, 1) := by decide +kernel
theorem dX6_cell_45 : decode cX6_cell 45 = .ok (.invokevirtual 203, 3) := by decide +kernel
theorem dX6_cell_48 : decode cX6_cell 48 = .ok (.ireturn, 1) := by decide +kernel
theorem dX6_cell_49 : decode cX6_cell 49 = .ok (.aload_n 0, 1) := by decide +kernel
theorem dX6_cell_50 : decode cX6_cell 50 = .ok (.getfield 25, 3) := by decide +kernel
theorem dX6_cell_53 : decode cX6_cell 53 = .ok (.iload_n 1, 1) := by decide +kernel
theorem dX6_cell_54 : decode cX6_cell 54 = .ok (.invokevirtual 206, 3) := by decide +kernel
theorem dX6_cell_57 : decode cX6_cell 57 = .ok (.ireturn, 1) := by decide +kernel
theorem dX6_cell_58 : decode cX6_cell 58 = .ok (.aload_n 0, 1) := by decide +kernel
theorem dX6_cell_59 : decode cX6_cell 59 = .ok (.getfield 25, 3) := by decide +kernel
theorem dX6_cell_62 : decode cX6_cell 62 = .ok (.getfield 160, 3) := by decide +kernel
theorem dX6_cell_65 : decode cX6_cell 65 = .ok (.iload_n 1, 1) := by decide +kernel
theorem dX6_cell_66 : decode cX6_cell 66 = .ok (.if_icmp .ne 7, 3) := by decide +kernel
theorem dX6_cell_69 : decode cX6_cell 69 = .ok (.iconst 1, 1) := by decide +kernel
theorem dX6_cell_70 : decode cX6_cell 70 = .ok (.goto 4, 3) := by decide +kernel
theorem dX6_cell_73 : decode cX6_cell 73 = .ok (.iconst 0, 1) := by decide +kernel
theorem dX6_cell_74 : decode cX6_cell 74 = .ok (.ireturn, 1) := by decide +kernel
theorem dX6_cell_75 : decode cX6_cell 75 = .ok (.ldc 63, 2) := by decide +kernel
theorem dX6_cell_77 : decode cX6_cell 77 = .ok (.ireturn, 1) := by decide +kernel
theorem dX6_stand_0 : decode cX6_stand 0 = .ok (.aload_n 0, 1) := by decide +kernel
theorem dX6_stand_1 : decode cX6_stand 1 = .ok (.getfield 25, 3) := by decide +kernel
theorem dX6_stand_4 : decode cX6_stand 4 = .ok (.getfield 145, 3) := by decide +kernel
theorem dX6_stand_7 : decode cX6_stand 7 = .ok (.ifCond .ne 6, 3) := by decide +kernel
theorem dX6_stand_10 : decode cX6_stand 10 = .ok (.ldc 141, 2) := by decide +kernel
theorem dX6_stand_12 : decode cX6_stand 12 = .ok (.ireturn, 1) := by decide +kernel
theorem dX6_stand_13 : decode cX6_stand 13 = .ok (.iload_n 1, 1) := by decide +kernel
theorem dX6_stand_14 : decode cX6_stand 14 = .ok (.tableswitch 112 0 7 #[46, 54, 62, 70, 78, 86, 94, 104], 46) := by decide +kernel
theorem dX6_stand_60 : decode cX6_stand 60 = .ok (.aload_n 0, 1) := by decide +kernel
theorem dX6_stand_61 : decode cX6_stand 61 = .ok (.getfield 25, 3) := by decide +kernel
theorem dX6_stand_64 : decode cX6_stand 64 = .ok (.getfield 209, 3) := by decide +kernel
theorem dX6_stand_67 : decode cX6_stand 67 = .ok (.ireturn, 1) := by decide +kernel
theorem dX6_stand_68 : decode cX6_stand 68 = .ok (.aload_n 0, 1) := by decide +kernel
theorem dX6_stand_69 : decode cX6_stand 69 = .ok (.getfield 25, 3) := by decide +kernel
theorem dX6_stand_72 : decode cX6_stand 72 = .ok (.getfield 212, 3) := by decide +kernel
theorem dX6_stand_75 : decode cX6_stand 75 = .ok (.ireturn, 1) := by decide +kernel
theorem dX6_stand_76 : decode cX6_stand 76 = .ok (.aload_n 0, 1) := by decide +kernel
theorem dX6_stand_77 : decode cX6_stand 77 = .ok (.getfield 25, 3) := by decide +kernel
theorem dX6_stand_80 : decode cX6_stand 80 = .ok (.getfield 160, 3) := by decide +kernel
theorem dX6_stand_83 : decode cX6_stand 83 = .ok (.ireturn, 1) := by decide +kernel
theorem dX6_stand_84 : decode cX6_stand 84 = .ok (.aload_n 0, 1) := by decide +kernel
theorem dX6_stand_85 : decode cX6_stand 85 = .ok (.getfield 25, 3) := by decide +kernel
theorem dX6_stand_88 : decode cX6_stand 88 = .ok (.getfield 172, 3) := by decide +kernel
theorem dX6_stand_91 : decode cX6_stand 91 = .ok (.ireturn, 1) := by decide +kernel
theorem dX6_stand_92 : decode cX6_stand 92 = .ok (.aload_n 0, 1) := by decide +kernel
theorem dX6_stand_93 : decode cX6_stand 93 = .ok (.getfield 25, 3) := by decide +kernel
theorem dX6_stand_96 : decode cX6_stand 96 = .ok (.getfield 185, 3) := by decide +kernel
theorem dX6_stand_99 : decode cX6_stand 99 = .ok (.ireturn, 1) := by decide +kernel
theorem dX6_stand_100 : decode cX6_stand 100 = .ok (.aload_n 0, 1) := by decide +kernel
theorem dX6_stand_101 : decode cX6_stand 101 = .ok (.getfield 25, 3) := by decide +kernel
theorem dX6_stand_104 : decode cX6_stand 104 = .ok (.invokevirtual 215, 3) := by decide +kernel
theorem dX6_stand_107 : decode cX6_stand 107 = .ok (.ireturn, 1) := by decide +kernel
theorem dX6_stand_108 : decode cX6_stand 108 = .ok (.aload_n 0, 1) := by decide +kernel
theorem dX6_stand_109 : decode cX6_stand 109 = .ok (.getfield 25, 3) := by decide +kernel
theorem dX6_stand_112 : decode cX6_stand 112 = .ok (.getfield 157, 3) := by decide +kernel
theorem dX6_stand_115 : decode cX6_stand 115 = .ok (.iconst 1, 1) := by decide +kernel
theorem dX6_stand_116 : decode cX6_stand 116 = .ok (.iadd, 1) := by decide +kernel
theorem dX6_stand_117 : decode cX6_stand 117 = .ok (.ireturn, 1) := by decide +kernel
theorem dX6_stand_118 : decode cX6_stand 118 = .ok (.aload_n 0, 1) := by decide +kernel
theorem dX6_stand_119 : decode cX6_stand 119 = .ok (.getfield 25, 3) := by decide +kernel
theorem dX6_stand_122 : decode cX6_stand 122 = .ok (.invokevirtual 219, 3) := by decide +kernel
theorem dX6_stand_125 : decode cX6_stand 125 = .ok (.ireturn, 1) := by decide +kernel
theorem dX6_stand_126 : decode cX6_stand 126 = .ok (.ldc 63, 2) := by decide +kernel
theorem dX6_stand_128 : decode cX6_stand 128 = .ok (.ireturn, 1) := by decide +kernel
theorem dX6_ahead_0 : decode cX6_ahead 0 = .ok (.aload_n 0, 1) := by decide +kernel
theorem dX6_ahead_1 : decode cX6_ahead 1 = .ok (.getfield 25, 3) := by decide +kernel
theorem dX6_ahead_4 : decode cX6_ahead 4 = .ok (.iload_n 1, 1) := by decide +kernel
theorem dX6_ahead_5 : decode cX6_ahead 5 = .ok (.invokevirtual 175, 3) := by decide +kernel
theorem dX6_ahead_8 : decode cX6_ahead 8 = .ok (.ifCond .eq 19, 3) := by decide +kernel
theorem dX6_ahead_11 : decode cX6_ahead 11 = .ok (.iload_n 2, 1) := by decide +kernel
theorem dX6_ahead_12 : decode cX6_ahead 12 = .ok (.invokestatic 222, 3) := by decide +kernel
theorem dX6_ahead_15 : decode cX6_ahead 15 = .ok (.ifCond .eq 12, 3) := by decide +kernel
theorem dX6_ahead_18 : decode cX6_ahead 18 = .ok (.iload_n 3, 1) := by decide +kernel
theorem dX6_ahead_19 : decode cX6_ahead 19 = .ok (.iconst 0, 1) := by decide +kernel
theorem dX6_ahead_20 : decode cX6_ahead 20 = .ok (.iconst 2, 1) := by decide +kernel
theorem dX6_ahead_21 : decode cX6_ahead 21 = .ok (.invokestatic 59, 3) := by decide +kernel
theorem dX6_ahead_24 : decode cX6_ahead 24 = .ok (.ifCond .ne 6, 3) := by decide +kernel
theorem dX6_ahead_27 : decode cX6_ahead 27 = .ok (.ldc 63, 2) := by decide +kernel
theorem dX6_ahead_29 : decode cX6_ahead 29 = .ok (.ireturn, 1) := by decide +kernel
theorem dX6_ahead_30 : decode cX6_ahead 30 = .ok (.aload_n 0, 1) := by decide +kernel
theorem dX6_ahead_31 : decode cX6_ahead 31 = .ok (.getfield 43, 3) := by decide +kernel
theorem dX6_ahead_34 : decode cX6_ahead 34 = .ok (.aload_n 0, 1) := by decide +kernel
theorem dX6_ahead_35 : decode cX6_ahead 35 = .ok (.getfield 25, 3) := by decide +kernel
theorem dX6_ahead_38 : decode cX6_ahead 38 = .ok (.iload_n 2, 1) := by decide +kernel
theorem dX6_ahead_39 : decode cX6_ahead 39 = .ok (.invokevirtual 225, 3) := by decide +kernel
theorem dX6_ahead_42 : decode cX6_ahead 42 = .ok (.astore 4, 2) := by decide +kernel
theorem dX6_ahead_44 : decode cX6_ahead 44 = .ok (.iload_n 3, 1) := by decide +kernel
theorem dX6_ahead_45 : decode cX6_ahead 45 = .ok (.ifCond .ne 10, 3) := by decide +kernel
theorem dX6_ahead_48 : decode cX6_ahead 48 = .ok (.aload 4, 2) := by decide +kernel
theorem dX6_ahead_50 : decode cX6_ahead 50 = .ok (.iload_n 1, 1) := by decide +kernel
theorem dX6_ahead_51 : decode cX6_ahead 51 = .ok (.invokevirtual 188, 3) := by decide +kernel
theorem dX6_ahead_54 : decode cX6_ahead 54 = .ok (.ireturn, 1) := by decide +kernel
theorem dX6_ahead_55 : decode cX6_ahead 55 = .ok (.iload_n 3, 1) := by decide +kernel
theorem dX6_ahead_56 : decode cX6_ahead 56 = .ok (.iconst 1, 1) := by decide +kernel
theorem dX6_ahead_57 : decode cX6_ahead 57 = .ok (.if_icmp .ne 12, 3) := by decide +kernel
theorem dX6_ahead_60 : decode cX6_ahead 60 = .ok (.aload 4, 2) := by decide +kernel
theorem dX6_ahead_62 : decode cX6_ahead 62 = .ok (.iload_n 1, 1) := by decide +kernel
theorem dX6_ahead_63 : decode cX6_ahead 63 = .ok (.invokevirtual 194, 3) := by decide +kernel
theorem dX6_ahead_66 : decode cX6_ahead 66 = .ok (.goto 10, 3) := by decide +kernel
theorem dX6_ahead_69 : decode cX6_ahead 69 = .ok (.aload 4, 2) := by decide +kernel
theorem dX6_ahead_71 : decode cX6_ahead 71 = .ok (.getfield 197, 3) := by decide +kernel
theorem dX6_ahead_74 : decode cX6_ahead 74 = .ok (.iload_n 1, 1) := by decide +kernel
theorem dX6_ahead_75 : decode cX6_ahead 75 = .ok (.iaload, 1) := by decide +kernel
theorem dX6_ahead_76 : decode cX6_ahead 76 = .ok (.ireturn, 1) := by decide +kernel
theorem dX6_over_0 : decode cX6_over 0 = .ok (.aload_n 0, 1) := by decide +kernel
theorem dX6_over_1 : decode cX6_over 1 = .ok (.getfield 25, 3) := by decide +kernel
theorem dX6_over_4 : decode cX6_over 4 = .ok (.iload_n 1, 1) := by decide +kernel
theorem dX6_over_5 : decode cX6_over 5 = .ok (.invokevirtual 163, 3) := by decide +kernel
theorem dX6_over_8 : decode cX6_over 8 = .ok (.ifCond .eq 10, 3) := by decide +kernel
theorem dX6_over_11 : decode cX6_over 11 = .ok (.iload_n 2, 1) := by decide +kernel
theorem dX6_over_12 : decode cX6_over 12 = .ok (.invokestatic 222, 3) := by decide +kernel
theorem dX6_over_15 : decode cX6_over 15 = .ok (.ifCond .ne 6, 3) := by decide +kernel
theorem dX6_over_18 : decode cX6_over 18 = .ok (.ldc 63, 2) := by decide +kernel
theorem dX6_over_20 : decode cX6_over 20 = .ok (.ireturn, 1) := by decide +kernel
theorem dX6_over_21 : decode cX6_over 21 = .ok (.aload_n 0, 1) := by decide +kernel
theorem dX6_over_22 : decode cX6_over 22 = .ok (.getfield 43, 3) := by decide +kernel
theorem dX6_over_25 : decode cX6_over 25 = .ok (.aload_n 0, 1) := by decide +kernel
theorem dX6_over_26 : decode cX6_over 26 = .ok (.getfield 25, 3) := by decide +kernel
theorem dX6_over_29 : decode cX6_over 29 = .ok (.iload_n 2, 1) := by decide +kernel
theorem dX6_over_30 : decode cX6_over 30 = .ok (.invokevirtual 225, 3) := by decide +kernel
theorem dX6_over_33 : decode cX6_over 33 = .ok (.iload_n 1, 1) := by decide +kernel
theorem dX6_over_34 : decode cX6_over 34 = .ok (.invokevirtual 203, 3) := by decide +kernel
theorem dX6_over_37 : decode cX6_over 37 = .ok (.ireturn, 1) := by decide +kernel
theorem dX6_when_0 : decode cX6_when 0 = .ok (.aload_n 0, 1) := by decide +kernel
theorem dX6_when_1 : decode cX6_when 1 = .ok (.getfield 25, 3) := by decide +kernel
theorem dX6_when_4 : decode cX6_when 4 = .ok (.iload_n 1, 1) := by decide +kernel
theorem dX6_when_5 : decode cX6_when 5 = .ok (.invokevirtual 175, 3) := by decide +kernel
theorem dX6_when_8 : decode cX6_when 8 = .ok (.ifCond .eq 12, 3) := by decide +kernel
theorem dX6_when_11 : decode cX6_when 11 = .ok (.iload_n 2, 1) := by decide +kernel
theorem dX6_when_12 : decode cX6_when 12 = .ok (.iconst 0, 1) := by decide +kernel
theorem dX6_when_13 : decode cX6_when 13 = .ok (.iconst 1, 1) := by decide +kernel
theorem dX6_when_14 : decode cX6_when 14 = .ok (.invokestatic 59, 3) := by decide +kernel
theorem dX6_when_17 : decode cX6_when 17 = .ok (.ifCond .ne 6, 3) := by decide +kernel
theorem dX6_when_20 : decode cX6_when 20 = .ok (.ldc 63, 2) := by decide +kernel
theorem dX6_when_22 : decode cX6_when 22 = .ok (.ireturn, 1) := by decide +kernel
theorem dX6_when_23 : decode cX6_when 23 = .ok (.iload_n 2, 1) := by decide +kernel
theorem dX6_when_24 : decode cX6_when 24 = .ok (.ifCond .ne 18, 3) := by decide +kernel
theorem dX6_when_27 : decode cX6_when 27 = .ok (.aload_n 0, 1) := by decide +kernel
theorem dX6_when_28 : decode cX6_when 28 = .ok (.getfield 43, 3) := by decide +kernel
theorem dX6_when_31 : decode cX6_when 31 = .ok (.aload_n 0, 1) := by decide +kernel
theorem dX6_when_32 : decode cX6_when 32 = .ok (.getfield 25, 3) := by decide +kernel
theorem dX6_when_35 : decode cX6_when 35 = .ok (.iload_n 1, 1) := by decide +kernel
theorem dX6_when_36 : decode cX6_when 36 = .ok (.invokevirtual 229, 3) := by decide +kernel
theorem dX6_when_39 : decode cX6_when 39 = .ok (.goto 15, 3) := by decide +kernel
theorem dX6_when_42 : decode cX6_when 42 = .ok (.aload_n 0, 1) := by decide +kernel
theorem dX6_when_43 : decode cX6_when 43 = .ok (.getfield 43, 3) := by decide +kernel
theorem dX6_when_46 : decode cX6_when 46 = .ok (.aload_n 0, 1) := by decide +kernel
theorem dX6_when_47 : decode cX6_when 47 = .ok (.getfield 25, 3) := by decide +kernel
theorem dX6_when_50 : decode cX6_when 50 = .ok (.iload_n 1, 1) := by decide +kernel
theorem dX6_when_51 : decode cX6_when 51 = .ok (.invokevirtual 233, 3) := by decide +kernel
theorem dX6_when_54 : decode cX6_when 54 = .ok (.ireturn, 1) := by decide +kernel
theorem dX6_overlap_0 : decode cX6_overlap 0 = .ok (.aload_n 0, 1) := by decide +kernel
theorem dX6_overlap_1 : decode cX6_overlap 1 = .ok (.getfield 25, 3) := by decide +kernel
theorem dX6_overlap_4 : decode cX6_overlap 4 = .ok (.getfield 145, 3) := by decide +kernel
theorem dX6_overlap_7 : decode cX6_overlap 7 = .ok (.ifCond .ne 6, 3) := by decide +kernel
theorem dX6_overlap_10 : decode cX6_overlap 10 = .ok (.ldc 141, 2) := by decide +kernel
theorem dX6_overlap_12 : decode cX6_overlap 12 = .ok (.ireturn, 1) := by decide +kernel
theorem dX6_overlap_13 : decode cX6_overlap 13 = .ok (.iload_n 1, 1) := by decide +kernel
theorem dX6_overlap_14 : decode cX6_overlap 14 = .ok (.iconst 0, 1) := by decide +kernel
theorem dX6_overlap_15 : decode cX6_overlap 15 = .ok (.iconst 1, 1) := by decide +kernel
theorem dX6_overlap_16 : decode cX6_overlap 16 = .ok (.invokestatic 59, 3) := by decide +kernel
theorem dX6_overlap_19 : decode cX6_overlap 19 = .ok (.ifCond .ne 6, 3) := by decide +kernel
theorem dX6_overlap_22 : decode cX6_overlap 22 = .ok (.ldc 63, 2) := by decide +kernel
theorem dX6_overlap_24 : decode cX6_overlap 24 = .ok (.ireturn, 1) := by decide +kernel
theorem dX6_overlap_25 : decode cX6_overlap 25 = .ok (.aload_n 0, 1) := by decide +kernel
theorem dX6_overlap_26 : decode cX6_overlap 26 = .ok (.getfield 43, 3) := by decide +kernel
theorem dX6_overlap_29 : decode cX6_overlap 29 = .ok (.aload_n 0, 1) := by decide +kernel
theorem dX6_overlap_30 : decode cX6_overlap 30 = .ok (.getfield 25, 3) := by decide +kernel
theorem dX6_overlap_33 : decode cX6_overlap 33 = .ok (.iload_n 1, 1) := by decide +kernel
theorem dX6_overlap_34 : decode cX6_overlap 34 = .ok (.invokevirtual 236, 3) := by decide +kernel
theorem dX6_overlap_37 : decode cX6_overlap 37 = .ok (.ireturn, 1) := by decide +kernel
theorem dX6_walk_0 : decode cX6_walk 0 = .ok (.aload_n 0, 1) := by decide +kernel
theorem dX6_walk_1 : decode cX6_walk 1 = .ok (.getfield 25, 3) := by decide +kernel
theorem dX6_walk_4 : decode cX6_walk 4 = .ok (.getfield 145, 3) := by decide +kernel
theorem dX6_walk_7 : decode cX6_walk 7 = .ok (.ifCond .ne 6, 3) := by decide +kernel
theorem dX6_walk_10 : decode cX6_walk 10 = .ok (.ldc 141, 2) := by decide +kernel
theorem dX6_walk_12 : decode cX6_walk 12 = .ok (.ireturn, 1) := by decide +kernel
theorem dX6_walk_13 : decode cX6_walk 13 = .ok (.iload_n 1, 1) := by decide +kernel
theorem dX6_walk_14 : decode cX6_walk 14 = .ok (.iconst 1, 1) := by decide +kernel
theorem dX6_walk_15 : decode cX6_walk 15 = .ok (.bipush 6, 2) := by decide +kernel
theorem dX6_walk_17 : decode cX6_walk 17 = .ok (.invokestatic 59, 3) := by decide +kernel
theorem dX6_walk_20 : decode cX6_walk 20 = .ok (.ifCond .eq 8, 3) := by decide +kernel
theorem dX6_walk_23 : decode cX6_walk 23 = .ok (.iload_n 2, 1) := by decide +kernel
theorem dX6_walk_24 : decode cX6_walk 24 = .ok (.iconst (-1), 1) := by decide +kernel
theorem dX6_walk_25 : decode cX6_walk 25 = .ok (.if_icmp .ge 6, 3) := by decide +kernel
theorem dX6_walk_28 : decode cX6_walk 28 = .ok (.ldc 63, 2) := by decide +kernel
theorem dX6_walk_30 : decode cX6_walk 30 = .ok (.ireturn, 1) := by decide +kernel
theorem dX6_walk_31 : decode cX6_walk 31 = .ok (.iload_n 2, 1) := by decide +kernel
theorem dX6_walk_32 : decode cX6_walk 32 = .ok (.iload_n 1, 1) := by decide +kernel
theorem dX6_walk_33 : decode cX6_walk 33 = .ok (.if_icmp .lt 6, 3) := by decide +kernel
theorem dX6_walk_36 : decode cX6_walk 36 = .ok (.ldc 239, 2) := by decide +kernel
theorem dX6_walk_38 : decode cX6_walk 38 = .ok (.ireturn, 1) := by decide +kernel
theorem dX6_walk_39 : decode cX6_walk 39 = .ok (.iload_n 2, 1) := by decide +kernel
theorem dX6_walk_40 : decode cX6_walk 40 = .ok (.iconst (-1), 1) := by decide +kernel
theorem dX6_walk_41 : decode cX6_walk 41 = .ok (.if_icmp .ne 18, 3) := by decide +kernel
theorem dX6_walk_44 : decode cX6_walk 44 = .ok (.aload_n 0, 1) := by decide +kernel
theorem dX6_walk_45 : decode cX6_walk 45 = .ok (.getfield 43, 3) := by decide +kernel
theorem dX6_walk_48 : decode cX6_walk 48 = .ok (.aload_n 0, 1) := by decide +kernel
theorem dX6_walk_49 : decode cX6_walk 49 = .ok (.getfield 25, 3) := by decide +kernel
theorem dX6_walk_52 : decode cX6_walk 52 = .ok (.iload_n 1, 1) := by decide +kernel
theorem dX6_walk_53 : decode cX6_walk 53 = .ok (.invokevirtual 240, 3) := by decide +kernel
theorem dX6_walk_56 : decode cX6_walk 56 = .ok (.goto 16, 3) := by decide +kernel
theorem dX6_walk_59 : decode cX6_walk 59 = .ok (.aload_n 0, 1) := by decide +kernel
theorem dX6_walk_60 : decode cX6_walk 60 = .ok (.getfield 43, 3) := by decide +kernel
theorem dX6_walk_63 : decode cX6_walk 63 = .ok (.aload_n 0, 1) := by decide +kernel
theorem dX6_walk_64 : decode cX6_walk 64 = .ok (.getfield 25, 3) := by decide +kernel
theorem dX6_walk_67 : decode cX6_walk 67 = .ok (.iload_n 1, 1) := by decide +kernel
theorem dX6_walk_68 : decode cX6_walk 68 = .ok (.iload_n 2, 1) := by decide +kernel
theorem dX6_walk_69 : decode cX6_walk 69 = .ok (.invokevirtual 243, 3) := by decide +kernel
theorem dX6_walk_72 : decode cX6_walk 72 = .ok (.ireturn, 1) := by decide +kernel
theorem dX6_meet_0 : decode cX6_meet 0 = .ok (.aload_n 0, 1) := by decide +kernel
theorem dX6_meet_1 : decode cX6_meet 1 = .ok (.getfield 25, 3) := by decide +kernel
theorem dX6_meet_4 : decode cX6_meet 4 = .ok (.iload_n 1, 1) := by decide +kernel
theorem dX6_meet_5 : decode cX6_meet 5 = .ok (.invokevirtual 175, 3) := by decide +kernel
theorem dX6_meet_8 : decode cX6_meet 8 = .ok (.ifCond .ne 6, 3) := by decide +kernel
theorem dX6_meet_11 : decode cX6_meet 11 = .ok (.ldc 63, 2) := by decide +kernel
theorem dX6_meet_13 : decode cX6_meet 13 = .ok (.ireturn, 1) := by decide +kernel
theorem dX6_meet_14 : decode cX6_meet 14 = .ok (.aload_n 0, 1) := by decide +kernel
theorem dX6_meet_15 : decode cX6_meet 15 = .ok (.getfield 43, 3) := by decide +kernel
theorem dX6_meet_18 : decode cX6_meet 18 = .ok (.aload_n 0, 1) := by decide +kernel
theorem dX6_meet_19 : decode cX6_meet 19 = .ok (.getfield 25, 3) := by decide +kernel
theorem dX6_meet_22 : decode cX6_meet 22 = .ok (.iload_n 1, 1) := by decide +kernel
theorem dX6_meet_23 : decode cX6_meet 23 = .ok (.invokevirtual 247, 3) := by decide +kernel
theorem dX6_meet_26 : decode cX6_meet 26 = .ok (.ireturn, 1) := by decide +kernel
theorem dX6_site_0 : decode cX6_site 0 = .ok (.aload_n 0, 1) := by decide +kernel
theorem dX6_site_1 : decode cX6_site 1 = .ok (.getfield 25, 3) := by decide +kernel
theorem dX6_site_4 : decode cX6_site 4 = .ok (.getfield 145, 3) := by decide +kernel
theorem dX6_site_7 : decode cX6_site 7 = .ok (.ifCond .ne 6, 3) := by decide +kernel
theorem dX6_site_10 : decode cX6_site 10 = .ok (.ldc 141, 2) := by decide +kernel
theorem dX6_site_12 : decode cX6_site 12 = .ok (.ireturn, 1) := by decide +kernel
theorem dX6_site_13 : decode cX6_site 13 = .ok (.iload_n 1, 1) := by decide +kernel
theorem dX6_site_14 : decode cX6_site 14 = .ok (.iconst 1, 1) := by decide +kernel
theorem dX6_site_15 : decode cX6_site 15 = .ok (.bipush 30, 2) := by decide +kernel
theorem dX6_site_17 : decode cX6_site 17 = .ok (.invokestatic 59, 3) := by decide +kernel
theorem dX6_site_20 : decode cX6_site 20 = .ok (.ifCond .eq 12, 3) := by decide +kernel
theorem dX6_site_23 : decode cX6_site 23 = .ok (.iload_n 2, 1) := by decide +kernel
theorem dX6_site_24 : decode cX6_site 24 = .ok (.iconst 0, 1) := by decide +kernel
theorem dX6_site_25 : decode cX6_site 25 = .ok (.iconst 1, 1) := by decide +kernel
theorem dX6_site_26 : decode cX6_site 26 = .ok (.invokestatic 59, 3) := by decide +kernel
theorem dX6_site_29 : decode cX6_site 29 = .ok (.ifCond .ne 6, 3) := by decide +kernel
theorem dX6_site_32 : decode cX6_site 32 = .ok (.ldc 63, 2) := by decide +kernel
theorem dX6_site_34 : decode cX6_site 34 = .ok (.ireturn, 1) := by decide +kernel
theorem dX6_site_35 : decode cX6_site 35 = .ok (.aload_n 0, 1) := by decide +kernel
theorem dX6_site_36 : decode cX6_site 36 = .ok (.getfield 43, 3) := by decide +kernel
theorem dX6_site_39 : decode cX6_site 39 = .ok (.aload_n 0, 1) := by decide +kernel
theorem dX6_site_40 : decode cX6_site 40 = .ok (.getfield 25, 3) := by decide +kernel
theorem dX6_site_43 : decode cX6_site 43 = .ok (.iload_n 1, 1) := by decide +kernel
theorem dX6_site_44 : decode cX6_site 44 = .ok (.iload_n 2, 1) := by decide +kernel
theorem dX6_site_45 : decode cX6_site 45 = .ok (.invokevirtual 250, 3) := by decide +kernel
theorem dX6_site_48 : decode cX6_site 48 = .ok (.ireturn, 1) := by decide +kernel
theorem dX6_waking_0 : decode cX6_waking 0 = .ok (.aload_n 0, 1) := by decide +kernel
theorem dX6_waking_1 : decode cX6_waking 1 = .ok (.getfield 25, 3) := by decide +kernel
theorem dX6_waking_4 : decode cX6_waking 4 = .ok (.getfield 145, 3) := by decide +kernel
theorem dX6_waking_7 : decode cX6_waking 7 = .ok (.ifCond .ne 6, 3) := by decide +kernel
theorem dX6_waking_10 : decode cX6_waking 10 = .ok (.ldc 141, 2) := by decide +kernel
theorem dX6_waking_12 : decode cX6_waking 12 = .ok (.ireturn, 1) := by decide +kernel
theorem dX6_waking_13 : decode cX6_waking 13 = .ok (.iload_n 1, 1) := by decide +kernel
theorem dX6_waking_14 : decode cX6_waking 14 = .ok (.iconst 1, 1) := by decide +kernel
theorem dX6_waking_15 : decode cX6_waking 15 = .ok (.bipush 30, 2) := by decide +kernel
theorem dX6_waking_17 : decode cX6_waking 17 = .ok (.invokestatic 59, 3) := by decide +kernel
theorem dX6_waking_20 : decode cX6_waking 20 = .ok (.ifCond .eq 12, 3) := by decide +kernel
theorem dX6_waking_23 : decode cX6_waking 23 = .ok (.iload_n 2, 1) := by decide +kernel
theorem dX6_waking_24 : decode cX6_waking 24 = .ok (.iconst 0, 1) := by decide +kernel
theorem dX6_waking_25 : decode cX6_waking 25 = .ok (.iconst 1, 1) := by decide +kernel
theorem dX6_waking_26 : decode cX6_waking 26 = .ok (.invokestatic 59, 3) := by decide +kernel
theorem dX6_waking_29 : decode cX6_waking 29 = .ok (.ifCond .ne 6, 3) := by decide +kernel
theorem dX6_waking_32 : decode cX6_waking 32 = .ok (.ldc 63, 2) := by decide +kernel
theorem dX6_waking_34 : decode cX6_waking 34 = .ok (.ireturn, 1) := by decide +kernel
theorem dX6_waking_35 : decode cX6_waking 35 = .ok (.aload_n 0, 1) := by decide +kernel
theorem dX6_waking_36 : decode cX6_waking 36 = .ok (.getfield 43, 3) := by decide +kernel
theorem dX6_waking_39 : decode cX6_waking 39 = .ok (.aload_n 0, 1) := by decide +kernel
theorem dX6_waking_40 : decode cX6_waking 40 = .ok (.getfield 25, 3) := by decide +kernel
theorem dX6_waking_43 : decode cX6_waking 43 = .ok (.iload_n 1, 1) := by decide +kernel
theorem dX6_waking_44 : decode cX6_waking 44 = .ok (.invokevirtual 253, 3) := by decide +kernel
theorem dX6_waking_47 : decode cX6_waking 47 = .ok (.istore_n 3, 1) := by decide +kernel
theorem dX6_waking_48 : decode cX6_waking 48 = .ok (.iload_n 2, 1) := by decide +kernel
theorem dX6_waking_49 : decode cX6_waking 49 = .ok (.ifCond .ne 7, 3) := by decide +kernel
theorem dX6_waking_52 : decode cX6_waking 52 = .ok (.iload_n 3, 1) := by decide +kernel
theorem dX6_waking_53 : decode cX6_waking 53 = .ok (.goto 7, 3) := by decide +kernel
theorem dX6_waking_56 : decode cX6_waking 56 = .ok (.iload_n 3, 1) := by decide +kernel
theorem dX6_waking_57 : decode cX6_waking 57 = .ok (.invokestatic 256, 3) := by decide +kernel
theorem dX6_waking_60 : decode cX6_waking 60 = .ok (.ireturn, 1) := by decide +kernel
theorem dX6_meant_0 : decode cX6_meant 0 = .ok (.aload_n 0, 1) := by decide +kernel
theorem dX6_meant_1 : decode cX6_meant 1 = .ok (.getfield 25, 3) := by decide +kernel
theorem dX6_meant_4 : decode cX6_meant 4 = .ok (.getfield 145, 3) := by decide +kernel
theorem dX6_meant_7 : decode cX6_meant 7 = .ok (.ifCond .ne 6, 3) := by decide +kernel
theorem dX6_meant_10 : decode cX6_meant 10 = .ok (.ldc 141, 2) := by decide +kernel
theorem dX6_meant_12 : decode cX6_meant 12 = .ok (.ireturn, 1) := by decide +kernel
theorem dX6_meant_13 : decode cX6_meant 13 = .ok (.iload_n 1, 1) := by decide +kernel
theorem dX6_meant_14 : decode cX6_meant 14 = .ok (.iconst 0, 1) := by decide +kernel
theorem dX6_meant_15 : decode cX6_meant 15 = .ok (.bipush 54, 2) := by decide +kernel
theorem dX6_meant_17 : decode cX6_meant 17 = .ok (.invokestatic 59, 3) := by decide +kernel
theorem dX6_meant_20 : decode cX6_meant 20 = .ok (.ifCond .eq 12, 3) := by decide +kernel
theorem dX6_meant_23 : decode cX6_meant 23 = .ok (.iload_n 2, 1) := by decide +kernel
theorem dX6_meant_24 : decode cX6_meant 24 = .ok (.iconst 0, 1) := by decide +kernel
theorem dX6_meant_25 : decode cX6_meant 25 = .ok (.iconst 2, 1) := by decide +kernel
theorem dX6_meant_26 : decode cX6_meant 26 = .ok (.invokestatic 59, 3) := by decide +kernel
theorem dX6_meant_29 : decode cX6_meant 29 = .ok (.ifCond .ne 6, 3) := by decide +kernel
theorem dX6_meant_32 : decode cX6_meant 32 = .ok (.ldc 63, 2) := by decide +kernel
theorem dX6_meant_34 : decode cX6_meant 34 = .ok (.ireturn, 1) := by decide +kernel
theorem dX6_meant_35 : decode cX6_meant 35 = .ok (.aload_n 0, 1) := by decide +kernel
theorem dX6_meant_36 : decode cX6_meant 36 = .ok (.getfield 25, 3) := by decide +kernel
theorem dX6_meant_39 : decode cX6_meant 39 = .ok (.iload_n 1, 1) := by decide +kernel
theorem dX6_meant_40 : decode cX6_meant 40 = .ok (.iload_n 2, 1) := by decide +kernel
theorem dX6_meant_41 : decode cX6_meant 41 = .ok (.invokevirtual 261, 3) := by decide +kernel
theorem dX6_meant_44 : decode cX6_meant 44 = .ok (.ireturn, 1) := by decide +kernel
theorem dX6_share_0 : decode cX6_share 0 = .ok (.aload_n 0, 1) := by decide +kernel
theorem dX6_share_1 : decode cX6_share 1 = .ok (.getfield 25, 3) := by decide +kernel
theorem dX6_share_4 : decode cX6_share 4 = .ok (.iload_n 1, 1) := by decide +kernel
theorem dX6_share_5 : decode cX6_share 5 = .ok (.invokevirtual 175, 3) := by decide +kernel
theorem dX6_share_8 : decode cX6_share 8 = .ok (.ifCond .eq 14, 3) := by decide +kernel
theorem dX6_share_11 : decode cX6_share 11 = .ok (.iload_n 2, 1) := by decide +kernel
theorem dX6_share_12 : decode cX6_share 12 = .ok (.iconst 0, 1) := by decide +kernel
theorem dX6_share_13 : decode cX6_share 13 = .ok (.sipush 999, 3) := by decide +kernel
theorem dX6_share_16 : decode cX6_share 16 = .ok (.invokestatic 59, 3) := by decide +kernel
theorem dX6_share_19 : decode cX6_share 19 = .ok (.ifCond .ne 6, 3) := by decide +kernel
theorem dX6_share_22 : decode cX6_share 22 = .ok (.ldc 63, 2) := by decide +kernel
theorem dX6_share_24 : decode cX6_share 24 = .ok (.ireturn, 1) := by decide +kernel
theorem dX6_share_25 : decode cX6_share 25 = .ok (.aload_n 0, 1) := by decide +kernel
theorem dX6_share_26 : decode cX6_share 26 = .ok (.getfield 25, 3) := by decide +kernel
theorem dX6_share_29 : decode cX6_share 29 = .ok (.iload_n 1, 1) := by decide +kernel
theorem dX6_share_30 : decode cX6_share 30 = .ok (.iload_n 2, 1) := by decide +kernel
theorem dX6_share_31 : decode cX6_share 31 = .ok (.invokevirtual 264, 3) := by decide +kernel
theorem dX6_share_34 : decode cX6_share 34 = .ok (.ireturn, 1) := by decide +kernel
theorem dX6_byTurns_0 : decode cX6_byTurns 0 = .ok (.aload_n 0, 1) := by decide +kernel
theorem dX6_byTurns_1 : decode cX6_byTurns 1 = .ok (.getfield 25, 3) := by decide +kernel
theorem dX6_byTurns_4 : decode cX6_byTurns 4 = .ok (.getfield 145, 3) := by decide +kernel
theorem dX6_byTurns_7 : decode cX6_byTurns 7 = .ok (.ifCond .ne 6, 3) := by decide +kernel
theorem dX6_byTurns_10 : decode cX6_byTurns 10 = .ok (.ldc 141, 2) := by decide +kernel
theorem dX6_byTurns_12 : decode cX6_byTurns 12 = .ok (.ireturn, 1) := by decide +kernel
theorem dX6_byTurns_13 : decode cX6_byTurns 13 = .ok (.iload_n 1, 1) := by decide +kernel
theorem dX6_byTurns_14 : decode cX6_byTurns 14 = .ok (.iconst 0, 1) := by decide +kernel
theorem dX6_byTurns_15 : decode cX6_byTurns 15 = .ok (.iconst 4, 1) := by decide +kernel
theorem dX6_byTurns_16 : decode cX6_byTurns 16 = .ok (.invokestatic 59, 3) := by decide +kernel
theorem dX6_byTurns_19 : decode cX6_byTurns 19 = .ok (.ifCond .eq 13, 3) := by decide +kernel
theorem dX6_byTurns_22 : decode cX6_byTurns 22 = .ok (.iload_n 2, 1) := by decide +kernel
theorem dX6_byTurns_23 : decode cX6_byTurns 23 = .ok (.iconst 1, 1) := by decide +kernel
theorem dX6_byTurns_24 : decode cX6_byTurns 24 = .ok (.bipush 20, 2) := by decide +kernel
theorem dX6_byTurns_26 : decode cX6_byTurns 26 = .ok (.invokestatic 59, 3) := by decide +kernel
theorem dX6_byTurns_29 : decode cX6_byTurns 29 = .ok (.ifCond .ne 6, 3) := by decide +kernel
theorem dX6_byTurns_32 : decode cX6_byTurns 32 = .ok (.ldc 63, 2) := by decide +kernel
theorem dX6_byTurns_34 : decode cX6_byTurns 34 = .ok (.ireturn, 1) := by decide +kernel
theorem dX6_byTurns_35 : decode cX6_byTurns 35 = .ok (.aload_n 0, 1) := by decide +kernel
theorem dX6_byTurns_36 : decode cX6_byTurns 36 = .ok (.getfield 43, 3) := by decide +kernel
theorem dX6_byTurns_39 : decode cX6_byTurns 39 = .ok (.aload_n 0, 1) := by decide +kernel
theorem dX6_byTurns_40 : decode cX6_byTurns 40 = .ok (.getfield 25, 3) := by decide +kernel
theorem dX6_byTurns_43 : decode cX6_byTurns 43 = .ok (.iload_n 1, 1) := by decide +kernel
theorem dX6_byTurns_44 : decode cX6_byTurns 44 = .ok (.iload_n 2, 1) := by decide +kernel
theorem dX6_byTurns_45 : decode cX6_byTurns 45 = .ok (.invokevirtual 267, 3) := by decide +kernel
theorem dX6_byTurns_48 : decode cX6_byTurns 48 = .ok (.ireturn, 1) := by decide +kernel
theorem dX6_who_0 : decode cX6_who 0 = .ok (.aload_n 0, 1) := by decide +kernel
theorem dX6_who_1 : decode cX6_who 1 = .ok (.getfield 25, 3) := by decide +kernel
theorem dX6_who_4 : decode cX6_who 4 = .ok (.iload_n 1, 1) := by decide +kernel
theorem dX6_who_5 : decode cX6_who 5 = .ok (.invokevirtual 175, 3) := by decide +kernel
theorem dX6_who_8 : decode cX6_who 8 = .ok (.ifCond .eq 30, 3) := by decide +kernel
theorem dX6_who_11 : decode cX6_who 11 = .ok (.iload_n 2, 1) := by decide +kernel
theorem dX6_who_12 : decode cX6_who 12 = .ok (.iconst 0, 1) := by decide +kernel
theorem dX6_who_13 : decode cX6_who 13 = .ok (.iconst 2, 1) := by decide +kernel
theorem dX6_who_14 : decode cX6_who 14 = .ok (.invokestatic 59, 3) := by decide +kernel
theorem dX6_who_17 : decode cX6_who 17 = .ok (.ifCond .eq 21, 3) := by decide +kernel
theorem dX6_who_20 : decode cX6_who 20 = .ok (.iload_n 3, 1) := by decide +kernel
theorem dX6_who_21 : decode cX6_who 21 = .ok (.invokestatic 55, 3) := by decide +kernel
theorem dX6_who_24 : decode cX6_who 24 = .ok (.ifCond .eq 14, 3) := by decide +kernel
theorem dX6_who_27 : decode cX6_who 27 = .ok (.iload 5, 2) := by decide +kernel
theorem dX6_who_29 : decode cX6_who 29 = .ok (.iconst 1, 1) := by decide +kernel
theorem dX6_who_30 : decode cX6_who 30 = .ok (.bipush 12, 2) := by decide +kernel
theorem dX6_who_32 : decode cX6_who 32 = .ok (.invokestatic 59, 3) := by decide +kernel
theorem dX6_who_35 : decode cX6_who 35 = .ok (.ifCond .ne 6, 3) := by decide +kernel
theorem dX6_who_38 : decode cX6_who 38 = .ok (.ldc 63, 2) := by decide +kernel
theorem dX6_who_40 : decode cX6_who 40 = .ok (.ireturn, 1) := by decide +kernel
theorem dX6_who_41 : decode cX6_who 41 = .ok (.aload_n 0, 1) := by decide +kernel
theorem dX6_who_42 : decode cX6_who 42 = .ok (.getfield 25, 3) := by decide +kernel
theorem dX6_who_45 : decode cX6_who 45 = .ok (.iload_n 1, 1) := by decide +kernel
theorem dX6_who_46 : decode cX6_who 46 = .ok (.invokevirtual 178, 3) := by decide +kernel
theorem dX6_who_49 : decode cX6_who 49 = .ok (.ifCond .ne 6, 3) := by decide +kernel
theorem dX6_who_52 : decode cX6_who 52 = .ok (.ldc 141, 2) := by decide +kernel
theorem dX6_who_54 : decode cX6_who 54 = .ok (.ireturn, 1) := by decide +kernel
theorem dX6_who_55 : decode cX6_who 55 = .ok (.aload_n 0, 1) := by decide +kernel
theorem dX6_who_56 : decode cX6_who 56 = .ok (.iload_n 2, 1) := by decide +kernel
theorem dX6_who_57 : decode cX6_who 57 = .ok (.iload_n 1, 1) := by decide +kernel
theorem dX6_who_58 : decode cX6_who 58 = .ok (.iload_n 3, 1) := by decide +kernel
theorem dX6_who_59 : decode cX6_who 59 = .ok (.iload 4, 2) := by decide +kernel
theorem dX6_who_61 : decode cX6_who 61 = .ok (.iload 5, 2) := by decide +kernel
theorem dX6_who_63 : decode cX6_who 63 = .ok (.invokevirtual 270, 3) := by decide +kernel
theorem dX6_who_66 : decode cX6_who 66 = .ok (.ireturn, 1) := by decide +kernel
theorem dX6_gusts_0 : decode cX6_gusts 0 = .ok (.aload_n 0, 1) := by decide +kernel
theorem dX6_gusts_1 : decode cX6_gusts 1 = .ok (.getfield 25, 3) := by decide +kernel
theorem dX6_gusts_4 : decode cX6_gusts 4 = .ok (.iload_n 1, 1) := by decide +kernel
theorem dX6_gusts_5 : decode cX6_gusts 5 = .ok (.invokevirtual 166, 3) := by decide +kernel
theorem dX6_gusts_8 : decode cX6_gusts 8 = .ok (.ifCond .eq 21, 3) := by decide +kernel
theorem dX6_gusts_11 : decode cX6_gusts 11 = .ok (.iload_n 2, 1) := by decide +kernel
theorem dX6_gusts_12 : decode cX6_gusts 12 = .ok (.invokestatic 55, 3) := by decide +kernel
theorem dX6_gusts_15 : decode cX6_gusts 15 = .ok (.ifCond .eq 14, 3) := by decide +kernel
theorem dX6_gusts_18 : decode cX6_gusts 18 = .ok (.iload 4, 2) := by decide +kernel
theorem dX6_gusts_20 : decode cX6_gusts 20 = .ok (.iconst 1, 1) := by decide +kernel
theorem dX6_gusts_21 : decode cX6_gusts 21 = .ok (.bipush 12, 2) := by decide +kernel
theorem dX6_gusts_23 : decode cX6_gusts 23 = .ok (.invokestatic 59, 3) := by decide +kernel
theorem dX6_gusts_26 : decode cX6_gusts 26 = .ok (.ifCond .ne 6, 3) := by decide +kernel
theorem dX6_gusts_29 : decode cX6_gusts 29 = .ok (.ldc 63, 2) := by decide +kernel
theorem dX6_gusts_31 : decode cX6_gusts 31 = .ok (.ireturn, 1) := by decide +kernel
theorem dX6_gusts_32 : decode cX6_gusts 32 = .ok (.aload_n 0, 1) := by decide +kernel
theorem dX6_gusts_33 : decode cX6_gusts 33 = .ok (.iconst 3, 1) := by decide +kernel
theorem dX6_gusts_34 : decode cX6_gusts 34 = .ok (.iload_n 1, 1) := by decide +kernel
theorem dX6_gusts_35 : decode cX6_gusts 35 = .ok (.iload_n 2, 1) := by decide +kernel
theorem dX6_gusts_36 : decode cX6_gusts 36 = .ok (.iload_n 3, 1) := by decide +kernel
theorem dX6_gusts_37 : decode cX6_gusts 37 = .ok (.iload 4, 2) := by decide +kernel
theorem dX6_gusts_39 : decode cX6_gusts 39 = .ok (.invokevirtual 270, 3) := by decide +kernel
theorem dX6_gusts_42 : decode cX6_gusts 42 = .ok (.ireturn, 1) := by decide +kernel
theorem dX6_lift_0 : decode cX6_lift 0 = .ok (.aload_n 0, 1) := by decide +kernel
theorem dX6_lift_1 : decode cX6_lift 1 = .ok (.getfield 25, 3) := by decide +kernel
theorem dX6_lift_4 : decode cX6_lift 4 = .ok (.iload_n 1, 1) := by decide +kernel
theorem dX6_lift_5 : decode cX6_lift 5 = .ok (.invokevirtual 163, 3) := by decide +kernel
theorem dX6_lift_8 : decode cX6_lift 8 = .ok (.ifCond .eq 30, 3) := by decide +kernel
theorem dX6_lift_11 : decode cX6_lift 11 = .ok (.iload_n 2, 1) := by decide +kernel
theorem dX6_lift_12 : decode cX6_lift 12 = .ok (.invokestatic 222, 3) := by decide +kernel
theorem dX6_lift_15 : decode cX6_lift 15 = .ok (.ifCond .eq 23, 3) := by decide +kernel
theorem dX6_lift_18 : decode cX6_lift 18 = .ok (.iload_n 3, 1) := by decide +kernel
theorem dX6_lift_19 : decode cX6_lift 19 = .ok (.iconst 0, 1) := by decide +kernel
theorem dX6_lift_20 : decode cX6_lift 20 = .ok (.bipush 10, 2) := by decide +kernel
theorem dX6_lift_22 : decode cX6_lift 22 = .ok (.invokestatic 59, 3) := by decide +kernel
theorem dX6_lift_25 : decode cX6_lift 25 = .ok (.ifCond .eq 13, 3) := by decide +kernel
theorem dX6_lift_28 : decode cX6_lift 28 = .ok (.iload 4, 2) := by decide +kernel
theorem dX6_lift_30 : decode cX6_lift 30 = .ok (.iconst 0, 1) := by decide +kernel
theorem dX6_lift_31 : decode cX6_lift 31 = .ok (.iconst 1, 1) := by decide +kernel
theorem dX6_lift_32 : decode cX6_lift 32 = .ok (.invokestatic 59, 3) := by decide +kernel
theorem dX6_lift_35 : decode cX6_lift 35 = .ok (.ifCond .ne 7, 3) := by decide +kernel
theorem dX6_lift_38 : decode cX6_lift 38 = .ok (.ldc2_w 274, 3) := by decide +kernel
theorem dX6_lift_41 : decode cX6_lift 41 = .ok (.lreturn, 1) := by decide +kernel
theorem dX6_lift_42 : decode cX6_lift 42 = .ok (.aload_n 0, 1) := by decide +kernel
theorem dX6_lift_43 : decode cX6_lift 43 = .ok (.getfield 43, 3) := by decide +kernel
theorem dX6_lift_46 : decode cX6_lift 46 = .ok (.aload_n 0, 1) := by decide +kernel
theorem dX6_lift_47 : decode cX6_lift 47 = .ok (.getfield 25, 3) := by decide +kernel
theorem dX6_lift_50 : decode cX6_lift 50 = .ok (.iload_n 2, 1) := by decide +kernel
theorem dX6_lift_51 : decode cX6_lift 51 = .ok (.invokevirtual 225, 3) := by decide +kernel
theorem dX6_lift_54 : decode cX6_lift 54 = .ok (.iload_n 1, 1) := by decide +kernel
theorem dX6_lift_55 : decode cX6_lift 55 = .ok (.invokevirtual 206, 3) := by decide +kernel
theorem dX6_lift_58 : decode cX6_lift 58 = .ok (.invokestatic 256, 3) := by decide +kernel
theorem dX6_lift_61 : decode cX6_lift 61 = .ok (.istore 5, 2) := by decide +kernel
theorem dX6_lift_63 : decode cX6_lift 63 = .ok (.iload_n 3, 1) := by decide +kernel
theorem dX6_lift_64 : decode cX6_lift 64 = .ok (.bipush 10, 2) := by decide +kernel
theorem dX6_lift_66 : decode cX6_lift 66 = .ok (.invokestatic 276, 3) := by decide +kernel
theorem dX6_lift_69 : decode cX6_lift 69 = .ok (.istore 6, 2) := by decide +kernel
theorem dX6_lift_71 : decode cX6_lift 71 = .ok (.iload 4, 2) := by decide +kernel
theorem dX6_lift_73 : decode cX6_lift 73 = .ok (.ifCond .ne 7, 3) := by decide +kernel
theorem dX6_lift_76 : decode cX6_lift 76 = .ok (.iload_n 3, 1) := by decide +kernel
theorem dX6_lift_77 : decode cX6_lift 77 = .ok (.goto 5, 3) := by decide +kernel
theorem dX6_lift_80 : decode cX6_lift 80 = .ok (.bipush 10, 2) := by decide +kernel
theorem dX6_lift_82 : decode cX6_lift 82 = .ok (.iload 6, 2) := by decide +kernel
theorem dX6_lift_84 : decode cX6_lift 84 = .ok (.idiv, 1) := by decide +kernel
theorem dX6_lift_85 : decode cX6_lift 85 = .ok (.iload 5, 2) := by decide +kernel
theorem dX6_lift_87 : decode cX6_lift 87 = .ok (.invokestatic 279, 3) := by decide +kernel
theorem dX6_lift_90 : decode cX6_lift 90 = .ok (.lreturn, 1) := by decide +kernel
theorem dX6_drawn_0 : decode cX6_drawn 0 = .ok (.aload_n 0, 1) := by decide +kernel
theorem dX6_drawn_1 : decode cX6_drawn 1 = .ok (.getfield 25, 3) := by decide +kernel
theorem dX6_drawn_4 : decode cX6_drawn 4 = .ok (.getfield 145, 3) := by decide +kernel
theorem dX6_drawn_7 : decode cX6_drawn 7 = .ok (.ifCond .ne 6, 3) := by decide +kernel
theorem dX6_drawn_10 : decode cX6_drawn 10 = .ok (.ldc 141, 2) := by decide +kernel
theorem dX6_drawn_12 : decode cX6_drawn 12 = .ok (.ireturn, 1) := by decide +kernel
theorem dX6_drawn_13 : decode cX6_drawn 13 = .ok (.iload_n 1, 1) := by decide +kernel
theorem dX6_drawn_14 : decode cX6_drawn 14 = .ok (.invokestatic 222, 3) := by decide +kernel
theorem dX6_drawn_17 : decode cX6_drawn 17 = .ok (.ifCond .eq 23, 3) := by decide +kernel
theorem dX6_drawn_20 : decode cX6_drawn 20 = .ok (.iload_n 2, 1) := by decide +kernel
theorem dX6_drawn_21 : decode cX6_drawn 21 = .ok (.iconst 1, 1) := by decide +kernel
theorem dX6_drawn_22 : decode cX6_drawn 22 = .ok (.ldc_w 283, 3) := by decide +kernel
theorem dX6_drawn_25 : decode cX6_drawn 25 = .ok (.invokestatic 59, 3) := by decide +kernel
theorem dX6_drawn_28 : decode cX6_drawn 28 = .ok (.ifCond .eq 12, 3) := by decide +kernel
theorem dX6_drawn_31 : decode cX6_drawn 31 = .ok (.iload_n 3, 1) := by decide +kernel
theorem dX6_drawn_32 : decode cX6_drawn 32 = .ok (.iconst 0, 1) := by decide +kernel
theorem dX6_drawn_33 : decode cX6_drawn 33 = .ok (.iconst 1, 1) := by decide +kernel
theorem dX6_drawn_34 : decode cX6_drawn 34 = .ok (.invokestatic 59, 3) := by decide +kernel
theorem dX6_drawn_37 : decode cX6_drawn 37 = .ok (.ifCond .ne 6, 3) := by decide +kernel
theorem dX6_drawn_40 : decode cX6_drawn 40 = .ok (.ldc 63, 2) := by decide +kernel
theorem dX6_drawn_42 : decode cX6_drawn 42 = .ok (.ireturn, 1) := by decide +kernel
theorem dX6_drawn_43 : decode cX6_drawn 43 = .ok (.aload_n 0, 1) := by decide +kernel
theorem dX6_drawn_44 : decode cX6_drawn 44 = .ok (.getfield 43, 3) := by decide +kernel
theorem dX6_drawn_47 : decode cX6_drawn 47 = .ok (.aload_n 0, 1) := by decide +kernel
theorem dX6_drawn_48 : decode cX6_drawn 48 = .ok (.getfield 25, 3) := by decide +kernel
theorem dX6_drawn_51 : decode cX6_drawn 51 = .ok (.iload_n 1, 1) := by decide +kernel
theorem dX6_drawn_52 : decode cX6_drawn 52 = .ok (.iload_n 2, 1) := by decide +kernel
theorem dX6_drawn_53 : decode cX6_drawn 53 = .ok (.iload_n 3, 1) := by decide +kernel
theorem dX6_drawn_54 : decode cX6_drawn 54 = .ok (.invokevirtual 284, 3) := by decide +kernel
theorem dX6_drawn_57 : decode cX6_drawn 57 = .ok (.ireturn, 1) := by decide +kernel
theorem dX6_image_0 : decode cX6_image 0 = .ok (.iload_n 1, 1) := by decide +kernel
theorem dX6_image_1 : decode cX6_image 1 = .ok (.iconst 0, 1) := by decide +kernel
theorem dX6_image_2 : decode cX6_image 2 = .ok (.iconst 1, 1) := by decide +kernel
theorem dX6_image_3 : decode cX6_image 3 = .ok (.invokestatic 59, 3) := by decide +kernel
theorem dX6_image_6 : decode cX6_image 6 = .ok (.ifCond .ne 6, 3) := by decide +kernel
theorem dX6_image_9 : decode cX6_image 9 = .ok (.ldc 63, 2) := by decide +kernel
theorem dX6_image_11 : decode cX6_image 11 = .ok (.ireturn, 1) := by decide +kernel
theorem dX6_image_12 : decode cX6_image 12 = .ok (.aload_n 0, 1) := by decide +kernel
theorem dX6_image_13 : decode cX6_image 13 = .ok (.getfield 25, 3) := by decide +kernel
theorem dX6_image_16 : decode cX6_image 16 = .ok (.getfield 145, 3) := by decide +kernel
theorem dX6_image_19 : decode cX6_image 19 = .ok (.ifCond .ne 6, 3) := by decide +kernel
theorem dX6_image_22 : decode cX6_image 22 = .ok (.ldc 141, 2) := by decide +kernel
theorem dX6_image_24 : decode cX6_image 24 = .ok (.ireturn, 1) := by decide +kernel
