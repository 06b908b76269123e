theorem dX6_image_25 : decode cX6_image 25 = .ok (.aload_n 0, 1) := by decide +kernel
theorem dX6_image_26 : decode cX6_image 26 = .ok (.getfield 36, 3) := by decide +kernel
theorem dX6_image_29 : decode cX6_image 29 = .ok (.iload_n 1, 1) := by decide +kernel
theorem dX6_image_30 : decode cX6_image 30 = .ok (.aaload, 1) := by decide +kernel
theorem dX6_image_31 : decode cX6_image 31 = .ok (.aload_n 0, 1) := by decide +kernel
theorem dX6_image_32 : decode cX6_image 32 = .ok (.getfield 25, 3) := by decide +kernel
theorem dX6_image_35 : decode cX6_image 35 = .ok (.invokevirtual 128, 3) := by decide +kernel
theorem dX6_image_38 : decode cX6_image 38 = .ok (.iconst 1, 1) := by decide +kernel
theorem dX6_image_39 : decode cX6_image 39 = .ok (.ireturn, 1) := by decide +kernel
theorem dX6_restore_0 : decode cX6_restore 0 = .ok (.iload_n 1, 1) := by decide +kernel
theorem dX6_restore_1 : decode cX6_restore 1 = .ok (.iconst 0, 1) := by decide +kernel
theorem dX6_restore_2 : decode cX6_restore 2 = .ok (.iconst 1, 1) := by decide +kernel
theorem dX6_restore_3 : decode cX6_restore 3 = .ok (.invokestatic 59, 3) := by decide +kernel
theorem dX6_restore_6 : decode cX6_restore 6 = .ok (.ifCond .ne 6, 3) := by decide +kernel
theorem dX6_restore_9 : decode cX6_restore 9 = .ok (.ldc 63, 2) := by decide +kernel
theorem dX6_restore_11 : decode cX6_restore 11 = .ok (.ireturn, 1) := by decide +kernel
theorem dX6_restore_12 : decode cX6_restore 12 = .ok (.aload_n 0, 1) := by decide +kernel
theorem dX6_restore_13 : decode cX6_restore 13 = .ok (.getfield 36, 3) := by decide +kernel
theorem dX6_restore_16 : decode cX6_restore 16 = .ok (.iload_n 1, 1) := by decide +kernel
theorem dX6_restore_17 : decode cX6_restore 17 = .ok (.aaload, 1) := by decide +kernel
theorem dX6_restore_18 : decode cX6_restore 18 = .ok (.getfield 145, 3) := by decide +kernel
theorem dX6_restore_21 : decode cX6_restore 21 = .ok (.ifCond .ne 6, 3) := by decide +kernel
theorem dX6_restore_24 : decode cX6_restore 24 = .ok (.ldc 141, 2) := by decide +kernel
theorem dX6_restore_26 : decode cX6_restore 26 = .ok (.ireturn, 1) := by decide +kernel
theorem dX6_restore_27 : decode cX6_restore 27 = .ok (.aload_n 0, 1) := by decide +kernel
theorem dX6_restore_28 : decode cX6_restore 28 = .ok (.getfield 25, 3) := by decide +kernel
theorem dX6_restore_31 : decode cX6_restore 31 = .ok (.aload_n 0, 1) := by decide +kernel
theorem dX6_restore_32 : decode cX6_restore 32 = .ok (.getfield 36, 3) := by decide +kernel
theorem dX6_restore_35 : decode cX6_restore 35 = .ok (.iload_n 1, 1) := by decide +kernel
theorem dX6_restore_36 : decode cX6_restore 36 = .ok (.aaload, 1) := by decide +kernel
theorem dX6_restore_37 : decode cX6_restore 37 = .ok (.invokevirtual 128, 3) := by decide +kernel
theorem dX6_restore_40 : decode cX6_restore 40 = .ok (.aload_n 0, 1) := by decide +kernel
theorem dX6_restore_41 : decode cX6_restore 41 = .ok (.getfield 32, 3) := by decide +kernel
theorem dX6_restore_44 : decode cX6_restore 44 = .ok (.invokevirtual 132, 3) := by decide +kernel
theorem dX6_restore_47 : decode cX6_restore 47 = .ok (.iconst 1, 1) := by decide +kernel
theorem dX6_restore_48 : decode cX6_restore 48 = .ok (.ireturn, 1) := by decide +kernel
theorem dX6_kind_0 : decode cX6_kind 0 = .ok (.aload_n 0, 1) := by decide +kernel
theorem dX6_kind_1 : decode cX6_kind 1 = .ok (.getfield 25, 3) := by decide +kernel
theorem dX6_kind_4 : decode cX6_kind 4 = .ok (.iload_n 1, 1) := by decide +kernel
theorem dX6_kind_5 : decode cX6_kind 5 = .ok (.invokevirtual 175, 3) := by decide +kernel
theorem dX6_kind_8 : decode cX6_kind 8 = .ok (.ifCond .eq 15, 3) := by decide +kernel
theorem dX6_kind_11 : decode cX6_kind 11 = .ok (.aload_n 0, 1) := by decide +kernel
theorem dX6_kind_12 : decode cX6_kind 12 = .ok (.getfield 25, 3) := by decide +kernel
theorem dX6_kind_15 : decode cX6_kind 15 = .ok (.getfield 288, 3) := by decide +kernel
theorem dX6_kind_18 : decode cX6_kind 18 = .ok (.iload_n 1, 1) := by decide +kernel
theorem dX6_kind_19 : decode cX6_kind 19 = .ok (.iaload, 1) := by decide +kernel
theorem dX6_kind_20 : decode cX6_kind 20 = .ok (.goto 5, 3) := by decide +kernel
theorem dX6_kind_23 : decode cX6_kind 23 = .ok (.ldc 63, 2) := by decide +kernel
theorem dX6_kind_25 : decode cX6_kind 25 = .ok (.ireturn, 1) := by decide +kernel
theorem dX6_as_0 : decode cX6_as 0 = .ok (.aload_n 0, 1) := by decide +kernel
theorem dX6_as_1 : decode cX6_as 1 = .ok (.getfield 25, 3) := by decide +kernel
theorem dX6_as_4 : decode cX6_as 4 = .ok (.iload_n 1, 1) := by decide +kernel
theorem dX6_as_5 : decode cX6_as 5 = .ok (.invokevirtual 175, 3) := by decide +kernel
theorem dX6_as_8 : decode cX6_as 8 = .ok (.ifCond .eq 12, 3) := by decide +kernel
theorem dX6_as_11 : decode cX6_as 11 = .ok (.iload_n 2, 1) := by decide +kernel
theorem dX6_as_12 : decode cX6_as 12 = .ok (.iconst 0, 1) := by decide +kernel
theorem dX6_as_13 : decode cX6_as 13 = .ok (.iconst 5, 1) := by decide +kernel
theorem dX6_as_14 : decode cX6_as 14 = .ok (.invokestatic 59, 3) := by decide +kernel
theorem dX6_as_17 : decode cX6_as 17 = .ok (.ifCond .ne 6, 3) := by decide +kernel
theorem dX6_as_20 : decode cX6_as 20 = .ok (.ldc 63, 2) := by decide +kernel
theorem dX6_as_22 : decode cX6_as 22 = .ok (.ireturn, 1) := by decide +kernel
theorem dX6_as_23 : decode cX6_as 23 = .ok (.aload_n 0, 1) := by decide +kernel
theorem dX6_as_24 : decode cX6_as 24 = .ok (.getfield 25, 3) := by decide +kernel
theorem dX6_as_27 : decode cX6_as 27 = .ok (.getfield 288, 3) := by decide +kernel
theorem dX6_as_30 : decode cX6_as 30 = .ok (.iload_n 1, 1) := by decide +kernel
theorem dX6_as_31 : decode cX6_as 31 = .ok (.iaload, 1) := by decide +kernel
theorem dX6_as_32 : decode cX6_as 32 = .ok (.iload_n 2, 1) := by decide +kernel
theorem dX6_as_33 : decode cX6_as 33 = .ok (.invokestatic 291, 3) := by decide +kernel
theorem dX6_as_36 : decode cX6_as 36 = .ok (.ifCond .ne 9, 3) := by decide +kernel
theorem dX6_as_39 : decode cX6_as 39 = .ok (.aload_n 0, 1) := by decide +kernel
theorem dX6_as_40 : decode cX6_as 40 = .ok (.iconst 3, 1) := by decide +kernel
theorem dX6_as_41 : decode cX6_as 41 = .ok (.invokevirtual 64, 3) := by decide +kernel
theorem dX6_as_44 : decode cX6_as 44 = .ok (.ireturn, 1) := by decide +kernel
theorem dX6_as_45 : decode cX6_as 45 = .ok (.aload_n 0, 1) := by decide +kernel
theorem dX6_as_46 : decode cX6_as 46 = .ok (.iload_n 1, 1) := by decide +kernel
theorem dX6_as_47 : decode cX6_as 47 = .ok (.invokevirtual 72, 3) := by decide +kernel
theorem dX6_as_50 : decode cX6_as 50 = .ok (.ireturn, 1) := by decide +kernel
theorem dX6_ask_0 : decode cX6_ask 0 = .ok (.aload_n 0, 1) := by decide +kernel
theorem dX6_ask_1 : decode cX6_ask 1 = .ok (.getfield 25, 3) := by decide +kernel
theorem dX6_ask_4 : decode cX6_ask 4 = .ok (.iload_n 1, 1) := by decide +kernel
theorem dX6_ask_5 : decode cX6_ask 5 = .ok (.invokevirtual 175, 3) := by decide +kernel
theorem dX6_ask_8 : decode cX6_ask 8 = .ok (.ifCond .eq 12, 3) := by decide +kernel
theorem dX6_ask_11 : decode cX6_ask 11 = .ok (.iload_n 2, 1) := by decide +kernel
theorem dX6_ask_12 : decode cX6_ask 12 = .ok (.iconst 0, 1) := by decide +kernel
theorem dX6_ask_13 : decode cX6_ask 13 = .ok (.iconst 1, 1) := by decide +kernel
theorem dX6_ask_14 : decode cX6_ask 14 = .ok (.invokestatic 59, 3) := by decide +kernel
theorem dX6_ask_17 : decode cX6_ask 17 = .ok (.ifCond .ne 6, 3) := by decide +kernel
theorem dX6_ask_20 : decode cX6_ask 20 = .ok (.ldc 63, 2) := by decide +kernel
theorem dX6_ask_22 : decode cX6_ask 22 = .ok (.ireturn, 1) := by decide +kernel
theorem dX6_ask_23 : decode cX6_ask 23 = .ok (.aload_n 0, 1) := by decide +kernel
theorem dX6_ask_24 : decode cX6_ask 24 = .ok (.getfield 50, 3) := by decide +kernel
theorem dX6_ask_27 : decode cX6_ask 27 = .ok (.aload_n 0, 1) := by decide +kernel
theorem dX6_ask_28 : decode cX6_ask 28 = .ok (.getfield 25, 3) := by decide +kernel
theorem dX6_ask_31 : decode cX6_ask 31 = .ok (.iload_n 1, 1) := by decide +kernel
theorem dX6_ask_32 : decode cX6_ask 32 = .ok (.iload_n 2, 1) := by decide +kernel
theorem dX6_ask_33 : decode cX6_ask 33 = .ok (.invokevirtual 294, 3) := by decide +kernel
theorem dX6_ask_36 : decode cX6_ask 36 = .ok (.ireturn, 1) := by decide +kernel
theorem dX6_trace_0 : decode cX6_trace 0 = .ok (.iload_n 1, 1) := by decide +kernel
theorem dX6_trace_1 : decode cX6_trace 1 = .ok (.iconst 0, 1) := by decide +kernel
theorem dX6_trace_2 : decode cX6_trace 2 = .ok (.aload_n 0, 1) := by decide +kernel
theorem dX6_trace_3 : decode cX6_trace 3 = .ok (.getfield 50, 3) := by decide +kernel
theorem dX6_trace_6 : decode cX6_trace 6 = .ok (.getfield 297, 3) := by decide +kernel
theorem dX6_trace_9 : decode cX6_trace 9 = .ok (.iconst 1, 1) := by decide +kernel
theorem dX6_trace_10 : decode cX6_trace 10 = .ok (.isub, 1) := by decide +kernel
theorem dX6_trace_11 : decode cX6_trace 11 = .ok (.invokestatic 59, 3) := by decide +kernel
theorem dX6_trace_14 : decode cX6_trace 14 = .ok (.ifCond .eq 15, 3) := by decide +kernel
theorem dX6_trace_17 : decode cX6_trace 17 = .ok (.aload_n 0, 1) := by decide +kernel
theorem dX6_trace_18 : decode cX6_trace 18 = .ok (.getfield 50, 3) := by decide +kernel
theorem dX6_trace_21 : decode cX6_trace 21 = .ok (.getfield 300, 3) := by decide +kernel
theorem dX6_trace_24 : decode cX6_trace 24 = .ok (.iload_n 1, 1) := by decide +kernel
theorem dX6_trace_25 : decode cX6_trace 25 = .ok (.iaload, 1) := by decide +kernel
theorem dX6_trace_26 : decode cX6_trace 26 = .ok (.goto 5, 3) := by decide +kernel
theorem dX6_trace_29 : decode cX6_trace 29 = .ok (.ldc 239, 2) := by decide +kernel
theorem dX6_trace_31 : decode cX6_trace 31 = .ok (.ireturn, 1) := by decide +kernel
theorem dX6_count_0 : decode cX6_count 0 = .ok (.iload_n 1, 1) := by decide +kernel
theorem dX6_count_1 : decode cX6_count 1 = .ok (.tableswitch 111 0 7 #[47, 52, 60, 68, 76, 84, 95, 103], 47) := by decide +kernel
theorem dX6_count_48 : decode cX6_count 48 = .ok (.aload_n 0, 1) := by decide +kernel
theorem dX6_count_49 : decode cX6_count 49 = .ok (.invokevirtual 303, 3) := by decide +kernel
theorem dX6_count_52 : decode cX6_count 52 = .ok (.ireturn, 1) := by decide +kernel
theorem dX6_count_53 : decode cX6_count 53 = .ok (.aload_n 0, 1) := by decide +kernel
theorem dX6_count_54 : decode cX6_count 54 = .ok (.getfield 25, 3) := by decide +kernel
theorem dX6_count_57 : decode cX6_count 57 = .ok (.getfield 135, 3) := by decide +kernel
theorem dX6_count_60 : decode cX6_count 60 = .ok (.ireturn, 1) := by decide +kernel
theorem dX6_count_61 : decode cX6_count 61 = .ok (.aload_n 0, 1) := by decide +kernel
theorem dX6_count_62 : decode cX6_count 62 = .ok (.getfield 25, 3) := by decide +kernel
theorem dX6_count_65 : decode cX6_count 65 = .ok (.getfield 306, 3) := by decide +kernel
theorem dX6_count_68 : decode cX6_count 68 = .ok (.ireturn, 1) := by decide +kernel
theorem dX6_count_69 : decode cX6_count 69 = .ok (.aload_n 0, 1) := by decide +kernel
theorem dX6_count_70 : decode cX6_count 70 = .ok (.getfield 25, 3) := by decide +kernel
theorem dX6_count_73 : decode cX6_count 73 = .ok (.getfield 148, 3) := by decide +kernel
theorem dX6_count_76 : decode cX6_count 76 = .ok (.ireturn, 1) := by decide +kernel
theorem dX6_count_77 : decode cX6_count 77 = .ok (.aload_n 0, 1) := by decide +kernel
theorem dX6_count_78 : decode cX6_count 78 = .ok (.getfield 25, 3) := by decide +kernel
theorem dX6_count_81 : decode cX6_count 81 = .ok (.getfield 157, 3) := by decide +kernel
theorem dX6_count_84 : decode cX6_count 84 = .ok (.ireturn, 1) := by decide +kernel
theorem dX6_count_85 : decode cX6_count 85 = .ok (.aload_n 0, 1) := by decide +kernel
theorem dX6_count_86 : decode cX6_count 86 = .ok (.getfield 25, 3) := by decide +kernel
theorem dX6_count_89 : decode cX6_count 89 = .ok (.getfield 185, 3) := by decide +kernel
theorem dX6_count_92 : decode cX6_count 92 = .ok (.invokestatic 256, 3) := by decide +kernel
theorem dX6_count_95 : decode cX6_count 95 = .ok (.ireturn, 1) := by decide +kernel
theorem dX6_count_96 : decode cX6_count 96 = .ok (.aload_n 0, 1) := by decide +kernel
theorem dX6_count_97 : decode cX6_count 97 = .ok (.getfield 32, 3) := by decide +kernel
theorem dX6_count_100 : decode cX6_count 100 = .ok (.getfield 138, 3) := by decide +kernel
theorem dX6_count_103 : decode cX6_count 103 = .ok (.ireturn, 1) := by decide +kernel
theorem dX6_count_104 : decode cX6_count 104 = .ok (.aload_n 0, 1) := by decide +kernel
theorem dX6_count_105 : decode cX6_count 105 = .ok (.getfield 18, 3) := by decide +kernel
theorem dX6_count_108 : decode cX6_count 108 = .ok (.getfield 104, 3) := by decide +kernel
theorem dX6_count_111 : decode cX6_count 111 = .ok (.ireturn, 1) := by decide +kernel
theorem dX6_count_112 : decode cX6_count 112 = .ok (.ldc 63, 2) := by decide +kernel
theorem dX6_count_114 : decode cX6_count 114 = .ok (.ireturn, 1) := by decide +kernel
theorem dX6_status_0 : decode cX6_status 0 = .ok (.aload_n 0, 1) := by decide +kernel
theorem dX6_status_1 : decode cX6_status 1 = .ok (.getfield 309, 3) := by decide +kernel
theorem dX6_status_4 : decode cX6_status 4 = .ok (.ireturn, 1) := by decide +kernel
theorem dX6_found_0 : decode cX6_found 0 = .ok (.aload_n 0, 1) := by decide +kernel
theorem dX6_found_1 : decode cX6_found 1 = .ok (.iload_n 1, 1) := by decide +kernel
theorem dX6_found_2 : decode cX6_found 2 = .ok (.putfield 309, 3) := by decide +kernel
theorem dX6_found_5 : decode cX6_found 5 = .ok (.ldc_w 312, 3) := by decide +kernel
theorem dX6_found_8 : decode cX6_found 8 = .ok (.iload_n 1, 1) := by decide +kernel
theorem dX6_found_9 : decode cX6_found 9 = .ok (.isub, 1) := by decide +kernel
theorem dX6_found_10 : decode cX6_found 10 = .ok (.ireturn, 1) := by decide +kernel
theorem dX6_well_0 : decode cX6_well 0 = .ok (.aload_n 0, 1) := by decide +kernel
theorem dX6_well_1 : decode cX6_well 1 = .ok (.iconst 0, 1) := by decide +kernel
theorem dX6_well_2 : decode cX6_well 2 = .ok (.putfield 309, 3) := by decide +kernel
theorem dX6_well_5 : decode cX6_well 5 = .ok (.iload_n 1, 1) := by decide +kernel
theorem dX6_well_6 : decode cX6_well 6 = .ok (.ireturn, 1) := by decide +kernel
theorem dX6_allThatFits_0 : decode cX6_allThatFits 0 = .ok (.aload_n 0, 1) := by decide +kernel
theorem dX6_allThatFits_1 : decode cX6_allThatFits 1 = .ok (.getfield 11, 3) := by decide +kernel
theorem dX6_allThatFits_4 : decode cX6_allThatFits 4 = .ok (.iload_n 3, 1) := by decide +kernel
theorem dX6_allThatFits_5 : decode cX6_allThatFits 5 = .ok (.aaload, 1) := by decide +kernel
theorem dX6_allThatFits_6 : decode cX6_allThatFits 6 = .ok (.astore 6, 2) := by decide +kernel
theorem dX6_allThatFits_8 : decode cX6_allThatFits 8 = .ok (.aload 6, 2) := by decide +kernel
theorem dX6_allThatFits_10 : decode cX6_allThatFits 10 = .ok (.getfield 75, 3) := by decide +kernel
theorem dX6_allThatFits_13 : decode cX6_allThatFits 13 = .ok (.ifCond .eq 9, 3) := by decide +kernel
theorem dX6_allThatFits_16 : decode cX6_allThatFits 16 = .ok (.aload_n 0, 1) := by decide +kernel
theorem dX6_allThatFits_17 : decode cX6_allThatFits 17 = .ok (.iconst 1, 1) := by decide +kernel
theorem dX6_allThatFits_18 : decode cX6_allThatFits 18 = .ok (.invokevirtual 64, 3) := by decide +kernel
theorem dX6_allThatFits_21 : decode cX6_allThatFits 21 = .ok (.ireturn, 1) := by decide +kernel
theorem dX6_allThatFits_22 : decode cX6_allThatFits 22 = .ok (.aload 6, 2) := by decide +kernel
theorem dX6_allThatFits_24 : decode cX6_allThatFits 24 = .ok (.iload 4, 2) := by decide +kernel
theorem dX6_allThatFits_26 : decode cX6_allThatFits 26 = .ok (.iload 5, 2) := by decide +kernel
theorem dX6_allThatFits_28 : decode cX6_allThatFits 28 = .ok (.invokevirtual 79, 3) := by decide +kernel
theorem dX6_allThatFits_31 : decode cX6_allThatFits 31 = .ok (.ifCond .ne 9, 3) := by decide +kernel
theorem dX6_allThatFits_34 : decode cX6_allThatFits 34 = .ok (.aload_n 0, 1) := by decide +kernel
theorem dX6_allThatFits_35 : decode cX6_allThatFits 35 = .ok (.iconst 2, 1) := by decide +kernel
theorem dX6_allThatFits_36 : decode cX6_allThatFits 36 = .ok (.invokevirtual 64, 3) := by decide +kernel
theorem dX6_allThatFits_39 : decode cX6_allThatFits 39 = .ok (.ireturn, 1) := by decide +kernel
theorem dX6_allThatFits_40 : decode cX6_allThatFits 40 = .ok (.aload_n 0, 1) := by decide +kernel
theorem dX6_allThatFits_41 : decode cX6_allThatFits 41 = .ok (.getfield 43, 3) := by decide +kernel
theorem dX6_allThatFits_44 : decode cX6_allThatFits 44 = .ok (.aload 6, 2) := by decide +kernel
theorem dX6_allThatFits_46 : decode cX6_allThatFits 46 = .ok (.iload 4, 2) := by decide +kernel
theorem dX6_allThatFits_48 : decode cX6_allThatFits 48 = .ok (.iload 5, 2) := by decide +kernel
theorem dX6_allThatFits_50 : decode cX6_allThatFits 50 = .ok (.invokevirtual 313, 3) := by decide +kernel
theorem dX6_allThatFits_53 : decode cX6_allThatFits 53 = .ok (.aload_n 0, 1) := by decide +kernel
theorem dX6_allThatFits_54 : decode cX6_allThatFits 54 = .ok (.aload_n 0, 1) := by decide +kernel
theorem dX6_allThatFits_55 : decode cX6_allThatFits 55 = .ok (.getfield 43, 3) := by decide +kernel
theorem dX6_allThatFits_58 : decode cX6_allThatFits 58 = .ok (.aload_n 0, 1) := by decide +kernel
theorem dX6_allThatFits_59 : decode cX6_allThatFits 59 = .ok (.getfield 25, 3) := by decide +kernel
theorem dX6_allThatFits_62 : decode cX6_allThatFits 62 = .ok (.iload_n 1, 1) := by decide +kernel
theorem dX6_allThatFits_63 : decode cX6_allThatFits 63 = .ok (.iload_n 2, 1) := by decide +kernel
theorem dX6_allThatFits_64 : decode cX6_allThatFits 64 = .ok (.invokevirtual 317, 3) := by decide +kernel
theorem dX6_allThatFits_67 : decode cX6_allThatFits 67 = .ok (.invokevirtual 72, 3) := by decide +kernel
theorem dX6_allThatFits_70 : decode cX6_allThatFits 70 = .ok (.ireturn, 1) := by decide +kernel
theorem dX6_rowsThere_0 : decode cX6_rowsThere 0 = .ok (.iconst 0, 1) := by decide +kernel
theorem dX6_rowsThere_1 : decode cX6_rowsThere 1 = .ok (.istore_n 1, 1) := by decide +kernel
theorem dX6_rowsThere_2 : decode cX6_rowsThere 2 = .ok (.iconst 0, 1) := by decide +kernel
theorem dX6_rowsThere_3 : decode cX6_rowsThere 3 = .ok (.istore_n 2, 1) := by decide +kernel
theorem dX6_rowsThere_4 : decode cX6_rowsThere 4 = .ok (.iload_n 2, 1) := by decide +kernel
theorem dX6_rowsThere_5 : decode cX6_rowsThere 5 = .ok (.bipush 8, 2) := by decide +kernel
theorem dX6_rowsThere_7 : decode cX6_rowsThere 7 = .ok (.if_icmp .ge 29, 3) := by decide +kernel
theorem dX6_rowsThere_10 : decode cX6_rowsThere 10 = .ok (.iload_n 1, 1) := by decide +kernel
theorem dX6_rowsThere_11 : decode cX6_rowsThere 11 = .ok (.aload_n 0, 1) := by decide +kernel
theorem dX6_rowsThere_12 : decode cX6_rowsThere 12 = .ok (.getfield 11, 3) := by decide +kernel
theorem dX6_rowsThere_15 : decode cX6_rowsThere 15 = .ok (.iload_n 2, 1) := by decide +kernel
theorem dX6_rowsThere_16 : decode cX6_rowsThere 16 = .ok (.aaload, 1) := by decide +kernel
theorem dX6_rowsThere_17 : decode cX6_rowsThere 17 = .ok (.getfield 75, 3) := by decide +kernel
theorem dX6_rowsThere_20 : decode cX6_rowsThere 20 = .ok (.ifCond .eq 7, 3) := by decide +kernel
theorem dX6_rowsThere_23 : decode cX6_rowsThere 23 = .ok (.iconst 0, 1) := by decide +kernel
theorem dX6_rowsThere_24 : decode cX6_rowsThere 24 = .ok (.goto 4, 3) := by decide +kernel
theorem dX6_rowsThere_27 : decode cX6_rowsThere 27 = .ok (.iconst 1, 1) := by decide +kernel
theorem dX6_rowsThere_28 : decode cX6_rowsThere 28 = .ok (.iadd, 1) := by decide +kernel
theorem dX6_rowsThere_29 : decode cX6_rowsThere 29 = .ok (.istore_n 1, 1) := by decide +kernel
theorem dX6_rowsThere_30 : decode cX6_rowsThere 30 = .ok (.iinc 2 1, 3) := by decide +kernel
theorem dX6_rowsThere_33 : decode cX6_rowsThere 33 = .ok (.goto (-29), 3) := by decide +kernel
theorem dX6_rowsThere_36 : decode cX6_rowsThere 36 = .ok (.iload_n 1, 1) := by decide +kernel
theorem dX6_rowsThere_37 : decode cX6_rowsThere 37 = .ok (.ireturn, 1) := by decide +kernel
theorem dX6_isRow_0 : decode cX6_isRow 0 = .ok (.iload_n 0, 1) := by decide +kernel
theorem dX6_isRow_1 : decode cX6_isRow 1 = .ok (.iconst 0, 1) := by decide +kernel
theorem dX6_isRow_2 : decode cX6_isRow 2 = .ok (.bipush 7, 2) := by decide +kernel
theorem dX6_isRow_4 : decode cX6_isRow 4 = .ok (.invokestatic 59, 3) := by decide +kernel
theorem dX6_isRow_7 : decode cX6_isRow 7 = .ok (.ireturn, 1) := by decide +kernel
theorem dX6_isFar_0 : decode cX6_isFar 0 = .ok (.iload_n 0, 1) := by decide +kernel
theorem dX6_isFar_1 : decode cX6_isFar 1 = .ok (.iconst 0, 1) := by decide +kernel
theorem dX6_isFar_2 : decode cX6_isFar 2 = .ok (.bipush 60, 2) := by decide +kernel
theorem dX6_isFar_4 : decode cX6_isFar 4 = .ok (.invokestatic 59, 3) := by decide +kernel
theorem dX6_isFar_7 : decode cX6_isFar 7 = .ok (.ireturn, 1) := by decide +kernel
theorem dX6_isWithin_0 : decode cX6_isWithin 0 = .ok (.iload_n 0, 1) := by decide +kernel
theorem dX6_isWithin_1 : decode cX6_isWithin 1 = .ok (.iload_n 1, 1) := by decide +kernel
theorem dX6_isWithin_2 : decode cX6_isWithin 2 = .ok (.if_icmp .lt 12, 3) := by decide +kernel
theorem dX6_isWithin_5 : decode cX6_isWithin 5 = .ok (.iload_n 0, 1) := by decide +kernel
theorem dX6_isWithin_6 : decode cX6_isWithin 6 = .ok (.iload_n 2, 1) := by decide +kernel
theorem dX6_isWithin_7 : decode cX6_isWithin 7 = .ok (.if_icmp .gt 7, 3) := by decide +kernel
theorem dX6_isWithin_10 : decode cX6_isWithin 10 = .ok (.iconst 1, 1) := by decide +kernel
theorem dX6_isWithin_11 : decode cX6_isWithin 11 = .ok (.goto 4, 3) := by decide +kernel
theorem dX6_isWithin_14 : decode cX6_isWithin 14 = .ok (.iconst 0, 1) := by decide +kernel
theorem dX6_isWithin_15 : decode cX6_isWithin 15 = .ok (.ireturn, 1) := by decide +kernel
theorem dX6_isA_0 : decode cX6_isA 0 = .ok (.iload_n 1, 1) := by decide +kernel
theorem dX6_isA_1 : decode cX6_isA 1 = .ok (.iload_n 0, 1) := by decide +kernel
theorem dX6_isA_2 : decode cX6_isA 2 = .ok (.if_icmp .eq 15, 3) := by decide +kernel
theorem dX6_isA_5 : decode cX6_isA 5 = .ok (.iload_n 1, 1) := by decide +kernel
theorem dX6_isA_6 : decode cX6_isA 6 = .ok (.iload_n 0, 1) := by decide +kernel
theorem dX6_isA_7 : decode cX6_isA 7 = .ok (.invokestatic 320, 3) := by decide +kernel
theorem dX6_isA_10 : decode cX6_isA 10 = .ok (.if_icmp .eq 7, 3) := by decide +kernel
theorem dX6_isA_13 : decode cX6_isA 13 = .ok (.iload_n 1, 1) := by decide +kernel
theorem dX6_isA_14 : decode cX6_isA 14 = .ok (.ifCond .ne 7, 3) := by decide +kernel
theorem dX6_isA_17 : decode cX6_isA 17 = .ok (.iconst 1, 1) := by decide +kernel
theorem dX6_isA_18 : decode cX6_isA 18 = .ok (.goto 4, 3) := by decide +kernel
theorem dX6_isA_21 : decode cX6_isA 21 = .ok (.iconst 0, 1) := by decide +kernel
theorem dX6_isA_22 : decode cX6_isA 22 = .ok (.ireturn, 1) := by decide +kernel
theorem dX6_widerKind_0 : decode cX6_widerKind 0 = .ok (.iload_n 0, 1) := by decide +kernel
theorem dX6_widerKind_1 : decode cX6_widerKind 1 = .ok (.tableswitch 35 2 5 #[31, 31, 35, 33], 31) := by decide +kernel
theorem dX6_widerKind_32 : decode cX6_widerKind 32 = .ok (.iconst 1, 1) := by decide +kernel
theorem dX6_widerKind_33 : decode cX6_widerKind 33 = .ok (.ireturn, 1) := by decide +kernel
theorem dX6_widerKind_34 : decode cX6_widerKind 34 = .ok (.iconst 4, 1) := by decide +kernel
theorem dX6_widerKind_35 : decode cX6_widerKind 35 = .ok (.ireturn, 1) := by decide +kernel
theorem dX6_widerKind_36 : decode cX6_widerKind 36 = .ok (.iconst 0, 1) := by decide +kernel
theorem dX6_widerKind_37 : decode cX6_widerKind 37 = .ok (.ireturn, 1) := by decide +kernel
theorem dX6_commonDivisor_0 : decode cX6_commonDivisor 0 = .ok (.iconst 1, 1) := by decide +kernel
theorem dX6_commonDivisor_1 : decode cX6_commonDivisor 1 = .ok (.istore_n 2, 1) := by decide +kernel
theorem dX6_commonDivisor_2 : decode cX6_commonDivisor 2 = .ok (.iconst 2, 1) := by decide +kernel
theorem dX6_commonDivisor_3 : decode cX6_commonDivisor 3 = .ok (.istore_n 3, 1) := by decide +kernel
theorem dX6_commonDivisor_4 : decode cX6_commonDivisor 4 = .ok (.iload_n 3, 1) := by decide +kernel
theorem dX6_commonDivisor_5 : decode cX6_commonDivisor 5 = .ok (.iload_n 1, 1) := by decide +kernel
theorem dX6_commonDivisor_6 : decode cX6_commonDivisor 6 = .ok (.if_icmp .gt 23, 3) := by decide +kernel
theorem dX6_commonDivisor_9 : decode cX6_commonDivisor 9 = .ok (.iload_n 0, 1) := by decide +kernel
theorem dX6_commonDivisor_10 : decode cX6_commonDivisor 10 = .ok (.iload_n 3, 1) := by decide +kernel
theorem dX6_commonDivisor_11 : decode cX6_commonDivisor 11 = .ok (.irem, 1) := by decide +kernel
theorem dX6_commonDivisor_12 : decode cX6_commonDivisor 12 = .ok (.ifCond .ne 11, 3) := by decide +kernel
theorem dX6_commonDivisor_15 : decode cX6_commonDivisor 15 = .ok (.iload_n 1, 1) := by decide +kernel
theorem dX6_commonDivisor_16 : decode cX6_commonDivisor 16 = .ok (.iload_n 3, 1) := by decide +kernel
theorem dX6_commonDivisor_17 : decode cX6_commonDivisor 17 = .ok (.irem, 1) := by decide +kernel
theorem dX6_commonDivisor_18 : decode cX6_commonDivisor 18 = .ok (.ifCond .ne 5, 3) := by decide +kernel
theorem dX6_commonDivisor_21 : decode cX6_commonDivisor 21 = .ok (.iload_n 3, 1) := by decide +kernel
theorem dX6_commonDivisor_22 : decode cX6_commonDivisor 22 = .ok (.istore_n 2, 1) := by decide +kernel
theorem dX6_commonDivisor_23 : decode cX6_commonDivisor 23 = .ok (.iinc 3 1, 3) := by decide +kernel
theorem dX6_commonDivisor_26 : decode cX6_commonDivisor 26 = .ok (.goto (-22), 3) := by decide +kernel
theorem dX6_commonDivisor_29 : decode cX6_commonDivisor 29 = .ok (.iload_n 2, 1) := by decide +kernel
theorem dX6_commonDivisor_30 : decode cX6_commonDivisor 30 = .ok (.ireturn, 1) := by decide +kernel
theorem dX6_power_0 : decode cX6_power 0 = .ok (.lconst 1, 1) := by decide +kernel
theorem dX6_power_1 : decode cX6_power 1 = .ok (.lstore_n 2, 1) := by decide +kernel
theorem dX6_power_2 : decode cX6_power 2 = .ok (.iconst 0, 1) := by decide +kernel
theorem dX6_power_3 : decode cX6_power 3 = .ok (.istore 4, 2) := by decide +kernel
theorem dX6_power_5 : decode cX6_power 5 = .ok (.iload 4, 2) := by decide +kernel
theorem dX6_power_7 : decode cX6_power 7 = .ok (.iload_n 1, 1) := by decide +kernel
theorem dX6_power_8 : decode cX6_power 8 = .ok (.if_icmp .ge 14, 3) := by decide +kernel
theorem dX6_power_11 : decode cX6_power 11 = .ok (.lload_n 2, 1) := by decide +kernel
theorem dX6_power_12 : decode cX6_power 12 = .ok (.iload_n 0, 1) := by decide +kernel
theorem dX6_power_13 : decode cX6_power 13 = .ok (.i2l, 1) := by decide +kernel
theorem dX6_power_14 : decode cX6_power 14 = .ok (.lmul, 1) := by decide +kernel
theorem dX6_power_15 : decode cX6_power 15 = .ok (.lstore_n 2, 1) := by decide +kernel
theorem dX6_power_16 : decode cX6_power 16 = .ok (.iinc 4 1, 3) := by decide +kernel
theorem dX6_power_19 : decode cX6_power 19 = .ok (.goto (-14), 3) := by decide +kernel
theorem dX6_power_22 : decode cX6_power 22 = .ok (.lload_n 2, 1) := by decide +kernel
theorem dX6_power_23 : decode cX6_power 23 = .ok (.lreturn, 1) := by decide +kernel
theorem dX7_init_0 : decode cX7_init 0 = .ok (.aload_n 0, 1) := by decide +kernel
theorem dX7_init_1 : decode cX7_init 1 = .ok (.invokespecial 1, 3) := by decide +kernel
theorem dX7_init_4 : decode cX7_init 4 = .ok (.aload_n 0, 1) := by decide +kernel
theorem dX7_init_5 : decode cX7_init 5 = .ok (.bipush 8, 2) := by decide +kernel
theorem dX7_init_7 : decode cX7_init 7 = .ok (.newarray .int, 2) := by decide +kernel
theorem dX7_init_9 : decode cX7_init 9 = .ok (.dup, 1) := by decide +kernel
theorem dX7_init_10 : decode cX7_init 10 = .ok (.iconst 0, 1) := by decide +kernel
theorem dX7_init_11 : decode cX7_init 11 = .ok (.iconst (-1), 1) := by decide +kernel
theorem dX7_init_12 : decode cX7_init 12 = .ok (.iastore, 1) := by decide +kernel
theorem dX7_init_13 : decode cX7_init 13 = .ok (.dup, 1) := by decide +kernel
theorem dX7_init_14 : decode cX7_init 14 = .ok (.iconst 1, 1) := by decide +kernel
theorem dX7_init_15 : decode cX7_init 15 = .ok (.iconst (-1), 1) := by decide +kernel
theorem dX7_init_16 : decode cX7_init 16 = .ok (.iastore, 1) := by decide +kernel
theorem dX7_init_17 : decode cX7_init 17 = .ok (.dup, 1) := by decide +kernel
theorem dX7_init_18 : decode cX7_init 18 = .ok (.iconst 2, 1) := by decide +kernel
theorem dX7_init_19 : decode cX7_init 19 = .ok (.iconst (-1), 1) := by decide +kernel
theorem dX7_init_20 : decode cX7_init 20 = .ok (.iastore, 1) := by decide +kernel
theorem dX7_init_21 : decode cX7_init 21 = .ok (.dup, 1) := by decide +kernel
theorem dX7_init_22 : decode cX7_init 22 = .ok (.iconst 3, 1) := by decide +kernel
theorem dX7_init_23 : decode cX7_init 23 = .ok (.iconst (-1), 1) := by decide +kernel
theorem dX7_init_24 : decode cX7_init 24 = .ok (.iastore, 1) := by decide +kernel
theorem dX7_init_25 : decode cX7_init 25 = .ok (.dup, 1) := by decide +kernel
theorem dX7_init_26 : decode cX7_init 26 = .ok (.iconst 4, 1) := by decide +kernel
theorem dX7_init_27 : decode cX7_init 27 = .ok (.iconst (-1), 1) := by decide +kernel
theorem dX7_init_28 : decode cX7_init 28 = .ok (.iastore, 1) := by decide +kernel
theorem dX7_init_29 : decode cX7_init 29 = .ok (.dup, 1) := by decide +kernel
theorem dX7_init_30 : decode cX7_init 30 = .ok (.iconst 5, 1) := by decide +kernel
theorem dX7_init_31 : decode cX7_init 31 = .ok (.iconst (-1), 1) := by decide +kernel
theorem dX7_init_32 : decode cX7_init 32 = .ok (.iastore, 1) := by decide +kernel
theorem dX7_init_33 : decode cX7_init 33 = .ok (.dup, 1) := by decide +kernel
theorem dX7_init_34 : decode cX7_init 34 = .ok (.bipush 6, 2) := by decide +kernel
theorem dX7_init_36 : decode cX7_init 36 = .ok (.iconst (-1), 1) := by decide +kernel
theorem dX7_init_37 : decode cX7_init 37 = .ok (.iastore, 1) := by decide +kernel
theorem dX7_init_38 : decode cX7_init 38 = .ok (.dup, 1) := by decide +kernel
theorem dX7_init_39 : decode cX7_init 39 = .ok (.bipush 7, 2) := by decide +kernel
theorem dX7_init_41 : decode cX7_init 41 = .ok (.iconst (-1), 1) := by decide +kernel
theorem dX7_init_42 : decode cX7_init 42 = .ok (.iastore, 1) := by decide +kernel
theorem dX7_init_43 : decode cX7_init 43 = .ok (.putfield 7, 3) := by decide +kernel
theorem dX7_init_46 : decode cX7_init 46 = .ok (.aload_n 0, 1) := by decide +kernel
theorem dX7_init_47 : decode cX7_init 47 = .ok (.bipush 8, 2) := by decide +kernel
theorem dX7_init_49 : decode cX7_init 49 = .ok (.newarray .int, 2) := by decide +kernel
theorem dX7_init_51 : decode cX7_init 51 = .ok (.putfield 13, 3) := by decide +kernel
theorem dX7_init_54 : decode cX7_init 54 = .ok (.aload_n 0, 1) := by decide +kernel
theorem dX7_init_55 : decode cX7_init 55 = .ok (.sipush 320, 3) := by decide +kernel
theorem dX7_init_58 : decode cX7_init 58 = .ok (.newarray .int, 2) := by decide +kernel
theorem dX7_init_60 : decode cX7_init 60 = .ok (.putfield 16, 3) := by decide +kernel
theorem dX7_init_63 : decode cX7_init 63 = .ok (.aload_n 0, 1) := by decide +kernel
theorem dX7_init_64 : decode cX7_init 64 = .ok (.bipush 50, 2) := by decide +kernel
theorem dX7_init_66 : decode cX7_init 66 = .ok (.newarray .int, 2) := by decide +kernel
theorem dX7_init_68 : decode cX7_init 68 = .ok (.putfield 19, 3) := by decide +kernel
theorem dX7_init_71 : decode cX7_init 71 = .ok (.aload_n 0, 1) := by decide +kernel
theorem dX7_init_72 : decode cX7_init 72 = .ok (.bipush 50, 2) := by decide +kernel
theorem dX7_init_74 : decode cX7_init 74 = .ok (.newarray .int, 2) := by decide +kernel
theorem dX7_init_76 : decode cX7_init 76 = .ok (.putfield 22, 3) := by decide +kernel
theorem dX7_init_79 : decode cX7_init 79 = .ok (.aload_n 0, 1) := by decide +kernel
theorem dX7_init_80 : decode cX7_init 80 = .ok (.bipush 50, 2) := by decide +kernel
theorem dX7_init_82 : decode cX7_init 82 = .ok (.newarray .int, 2) := by decide +kernel
theorem dX7_init_84 : decode cX7_init 84 = .ok (.putfield 25, 3) := by decide +kernel
theorem dX7_init_87 : decode cX7_init 87 = .ok (.aload_n 0, 1) := by decide +kernel
theorem dX7_init_88 : decode cX7_init 88 = .ok (.sipush 1200, 3) := by decide +kernel
theorem dX7_init_91 : decode cX7_init 91 = .ok (.newarray .int, 2) := by decide +kernel
theorem dX7_init_93 : decode cX7_init 93 = .ok (.putfield 28, 3) := by decide +kernel
theorem dX7_init_96 : decode cX7_init 96 = .ok (.aload_n 0, 1) := by decide +kernel
theorem dX7_init_97 : decode cX7_init 97 = .ok (.bipush 120, 2) := by decide +kernel
theorem dX7_init_99 : decode cX7_init 99 = .ok (.newarray .int, 2) := by decide +kernel
theorem dX7_init_101 : decode cX7_init 101 = .ok (.putfield 31, 3) := by decide +kernel
theorem dX7_init_104 : decode cX7_init 104 = .ok (.aload_n 0, 1) := by decide +kernel
theorem dX7_init_105 : decode cX7_init 105 = .ok (.bipush 96, 2) := by decide +kernel
theorem dX7_init_107 : decode cX7_init 107 = .ok (.newarray .int, 2) := by decide +kernel
theorem dX7_init_109 : decode cX7_init 109 = .ok (.putfield 34, 3) := by decide +kernel
theorem dX7_init_112 : decode cX7_init 112 = .ok (.aload_n 0, 1) := by decide +kernel
theorem dX7_init_113 : decode cX7_init 113 = .ok (.iconst 2, 1) := by decide +kernel
theorem dX7_init_114 : decode cX7_init 114 = .ok (.newarray .boolean, 2) := by decide +kernel
theorem dX7_init_116 : decode cX7_init 116 = .ok (.putfield 37, 3) := by decide +kernel
theorem dX7_init_119 : decode cX7_init 119 = .ok (.aload_n 0, 1) := by decide +kernel
theorem dX7_init_120 : decode cX7_init 120 = .ok (.bipush 100, 2) := by decide +kernel
theorem dX7_init_122 : decode cX7_init 122 = .ok (.newarray .int, 2) := by decide +kernel
theorem dX7_init_124 : decode cX7_init 124 = .ok (.putfield 41, 3) := by decide +kernel
theorem dX7_init_127 : decode cX7_init 127 = .ok (.aload_n 0, 1) := by decide +kernel
theorem dX7_init_128 : decode cX7_init 128 = .ok (.bipush 16, 2) := by decide +kernel
theorem dX7_init_130 : decode cX7_init 130 = .ok (.newarray .int, 2) := by decide +kernel
theorem dX7_init_132 : decode cX7_init 132 = .ok (.putfield 44, 3) := by decide +kernel
theorem dX7_init_135 : decode cX7_init 135 = .ok (.return_, 1) := by decide +kernel
theorem dX7_in_0 : decode cX7_in 0 = .ok (.lload_n 0, 1) := by decide +kernel
theorem dX7_in_1 : decode cX7_in 1 = .ok (.lload_n 2, 1) := by decide +kernel
theorem dX7_in_2 : decode cX7_in 2 = .ok (.lcmp, 1) := by decide +kernel
theorem dX7_in_3 : decode cX7_in 3 = .ok (.ifCond .lt 14, 3) := by decide +kernel
theorem dX7_in_6 : decode cX7_in 6 = .ok (.lload_n 0, 1) := by decide +kernel
theorem dX7_in_7 : decode cX7_in 7 = .ok (.lload 4, 2) := by decide +kernel
theorem dX7_in_9 : decode cX7_in 9 = .ok (.lcmp, 1) := by decide +kernel
theorem dX7_in_10 : decode cX7_in 10 = .ok (.ifCond .gt 7, 3) := by decide +kernel
theorem dX7_in_13 : decode cX7_in 13 = .ok (.iconst 1, 1) := by decide +kernel
theorem dX7_in_14 : decode cX7_in 14 = .ok (.goto 4, 3) := by decide +kernel
theorem dX7_in_17 : decode cX7_in 17 = .ok (.iconst 0, 1) := by decide +kernel
theorem dX7_in_18 : decode cX7_in 18 = .ok (.ireturn, 1) := by decide +kernel
theorem dX7_finding_0 : decode cX7_finding 0 = .ok (.aload_n 0, 1) := by decide +kernel
theorem dX7_finding_1 : decode cX7_finding 1 = .ok (.iload_n 1, 1) := by decide +kernel
theorem dX7_finding_2 : decode cX7_finding 2 = .ok (.putfield 51, 3) := by decide +kernel
theorem dX7_finding_5 : decode cX7_finding 5 = .ok (.ldc 54, 2) := by decide +kernel
theorem dX7_finding_7 : decode cX7_finding 7 = .ok (.iload_n 1, 1) := by decide +kernel
theorem dX7_finding_8 : decode cX7_finding 8 = .ok (.isub, 1) := by decide +kernel
theorem dX7_finding_9 : decode cX7_finding 9 = .ok (.ireturn, 1) := by decide +kernel
theorem dX7_isRow_0 : decode cX7_isRow 0 = .ok (.iload_n 0, 1) := by decide +kernel
theorem dX7_isRow_1 : decode cX7_isRow 1 = .ok (.i2l, 1) := by decide +kernel
theorem dX7_isRow_2 : decode cX7_isRow 2 = .ok (.lconst 0, 1) := by decide +kernel
theorem dX7_isRow_3 : decode cX7_isRow 3 = .ok (.ldc2_w 55, 3) := by decide +kernel
theorem dX7_isRow_6 : decode cX7_isRow 6 = .ok (.invokestatic 57, 3) := by decide +kernel
theorem dX7_isRow_9 : decode cX7_isRow 9 = .ok (.ireturn, 1) := by decide +kernel
theorem dX7_row_0 : decode cX7_row 0 = .ok (.aload_n 0, 1) := by decide +kernel
theorem dX7_row_1 : decode cX7_row 1 = .ok (.iconst 0, 1) := by decide +kernel
theorem dX7_row_2 : decode cX7_row 2 = .ok (.putfield 47, 3) := by decide +kernel
theorem dX7_row_5 : decode cX7_row 5 = .ok (.iload_n 1, 1) := by decide +kernel
theorem dX7_row_6 : decode cX7_row 6 = .ok (.invokestatic 61, 3) := by decide +kernel
theorem dX7_row_9 : decode cX7_row 9 = .ok (.ifCond .eq 21, 3) := by decide +kernel
theorem dX7_row_12 : decode cX7_row 12 = .ok (.iload_n 2, 1) := by decide +kernel
theorem dX7_row_13 : decode cX7_row 13 = .ok (.i2l, 1) := by decide +kernel
theorem dX7_row_14 : decode cX7_row 14 = .ok (.lconst 0, 1) := by decide +kernel
theorem dX7_row_15 : decode cX7_row 15 = .ok (.ldc2_w 65, 3) := by decide +kernel
theorem dX7_row_18 : decode cX7_row 18 = .ok (.invokestatic 57, 3) := by decide +kernel
theorem dX7_row_21 : decode cX7_row 21 = .ok (.ifCond .eq 9, 3) := by decide +kernel
theorem dX7_row_24 : decode cX7_row 24 = .ok (.iload_n 3, 1) := by decide +kernel
theorem dX7_row_25 : decode cX7_row 25 = .ok (.bipush 40, 2) := by decide +kernel
theorem dX7_row_27 : decode cX7_row 27 = .ok (.if_icmp .le 6, 3) := by decide +kernel
theorem dX7_row_30 : decode cX7_row 30 = .ok (.ldc 67, 2) := by decide +kernel
theorem dX7_row_32 : decode cX7_row 32 = .ok (.ireturn, 1) := by decide +kernel
theorem dX7_row_33 : decode cX7_row 33 = .ok (.aload_n 0, 1) := by decide +kernel
theorem dX7_row_34 : decode cX7_row 34 = .ok (.iconst 0, 1) := by decide +kernel
theorem dX7_row_35 : decode cX7_row 35 = .ok (.putfield 51, 3) := by decide +kernel
theorem dX7_row_38 : decode cX7_row 38 = .ok (.iload_n 3, 1) := by decide +kernel
theorem dX7_row_39 : decode cX7_row 39 = .ok (.ifCond .ge 9, 3) := by decide +kernel
theorem dX7_row_42 : decode cX7_row 42 = .ok (.aload_n 0, 1) := by decide +kernel
theorem dX7_row_43 : decode cX7_row 43 = .ok (.iconst 4, 1) := by decide +kernel
theorem dX7_row_44 : decode cX7_row 44 = .ok (.invokevirtual 68, 3) := by decide +kernel
theorem dX7_row_47 : decode cX7_row 47 = .ok (.ireturn, 1) := by decide +kernel
theorem dX7_row_48 : decode cX7_row 48 = .ok (.aload_n 0, 1) := by decide +kernel
theorem dX7_row_49 : decode cX7_row 49 = .ok (.getfield 7, 3) := by decide +kernel
theorem dX7_row_52 : decode cX7_row 52 = .ok (.iload_n 1, 1) := by decide +kernel
theorem dX7_row_53 : decode cX7_row 53 = .ok (.iload_n 2, 1) := by decide +kernel
theorem dX7_row_54 : decode cX7_row 54 = .ok (.iastore, 1) := by decide +kernel
theorem dX7_row_55 : decode cX7_row 55 = .ok (.aload_n 0, 1) := by decide +kernel
theorem dX7_row_56 : decode cX7_row 56 = .ok (.getfield 13, 3) := by decide +kernel
theorem dX7_row_59 : decode cX7_row 59 = .ok (.iload_n 1, 1) := by decide +kernel
theorem dX7_row_60 : decode cX7_row 60 = .ok (.iload_n 3, 1) := by decide +kernel
theorem dX7_row_61 : decode cX7_row 61 = .ok (.iastore, 1) := by decide +kernel
theorem dX7_row_62 : decode cX7_row 62 = .ok (.iconst 0, 1) := by decide +kernel
theorem dX7_row_63 : decode cX7_row 63 = .ok (.istore 4, 2) := by decide +kernel
theorem dX7_row_65 : decode cX7_row 65 = .ok (.iload 4, 2) := by decide +kernel
theorem dX7_row_67 : decode cX7_row 67 = .ok (.bipush 40, 2) := by decide +kernel
theorem dX7_row_69 : decode cX7_row 69 = .ok (.if_icmp .ge 22, 3) := by decide +kernel
theorem dX7_row_72 : decode cX7_row 72 = .ok (.aload_n 0, 1) := by decide +kernel
theorem dX7_row_73 : decode cX7_row 73 = .ok (.getfield 16, 3) := by decide +kernel
theorem dX7_row_76 : decode cX7_row 76 = .ok (.bipush 40, 2) := by decide +kernel
theorem dX7_row_78 : decode cX7_row 78 = .ok (.iload_n 1, 1) := by decide +kernel
theorem dX7_row_79 : decode cX7_row 79 = .ok (.imul, 1) := by decide +kernel
theorem dX7_row_80 : decode cX7_row 80 = .ok (.iload 4, 2) := by decide +kernel
theorem dX7_row_82 : decode cX7_row 82 = .ok (.iadd, 1) := by decide +kernel
theorem dX7_row_83 : decode cX7_row 83 = .ok (.iconst 0, 1) := by decide +kernel
theorem dX7_row_84 : decode cX7_row 84 = .ok (.iastore, 1) := by decide +kernel
theorem dX7_row_85 : decode cX7_row 85 = .ok (.iinc 4 1, 3) := by decide +kernel
theorem dX7_row_88 : decode cX7_row 88 = .ok (.goto (-23), 3) := by decide +kernel
theorem dX7_row_91 : decode cX7_row 91 = .ok (.iload_n 3, 1) := by decide +kernel
theorem dX7_row_92 : decode cX7_row 92 = .ok (.ireturn, 1) := by decide +kernel
theorem dX7_set_0 : decode cX7_set 0 = .ok (.aload_n 0, 1) := by decide +kernel
theorem dX7_set_1 : decode cX7_set 1 = .ok (.iconst 0, 1) := by decide +kernel
theorem dX7_set_2 : decode cX7_set 2 = .ok (.putfield 47, 3) := by decide +kernel
theorem dX7_set_5 : decode cX7_set 5 = .ok (.iload_n 1, 1) := by decide +kernel
theorem dX7_set_6 : decode cX7_set 6 = .ok (.invokestatic 61, 3) := by decide +kernel
theorem dX7_set_9 : decode cX7_set 9 = .ok (.ifCond .ne 6, 3) := by decide +kernel
theorem dX7_set_12 : decode cX7_set 12 = .ok (.ldc 67, 2) := by decide +kernel
theorem dX7_set_14 : decode cX7_set 14 = .ok (.ireturn, 1) := by decide +kernel
theorem dX7_set_15 : decode cX7_set 15 = .ok (.aload_n 0, 1) := by decide +kernel
theorem dX7_set_16 : decode cX7_set 16 = .ok (.iconst 0, 1) := by decide +kernel
theorem dX7_set_17 : decode cX7_set 17 = .ok (.putfield 51, 3) := by decide +kernel
theorem dX7_set_20 : decode cX7_set 20 = .ok (.aload_n 0, 1) := by decide +kernel
theorem dX7_set_21 : decode cX7_set 21 = .ok (.getfield 7, 3) := by decide +kernel
theorem dX7_set_24 : decode cX7_set 24 = .ok (.iload_n 1, 1) := by decide +kernel
theorem dX7_set_25 : decode cX7_set 25 = .ok (.iaload, 1) := by decide +kernel
theorem dX7_set_26 : decode cX7_set 26 = .ok (.ifCond .ge 9, 3) := by decide +kernel
theorem dX7_set_29 : decode cX7_set 29 = .ok (.aload_n 0, 1) := by decide +kernel
theorem dX7_set_30 : decode cX7_set 30 = .ok (.iconst 1, 1) := by decide +kernel
theorem dX7_set_31 : decode cX7_set 31 = .ok (.invokevirtual 68, 3) := by decide +kernel
theorem dX7_set_34 : decode cX7_set 34 = .ok (.ireturn, 1) := by decide +kernel
theorem dX7_set_35 : decode cX7_set 35 = .ok (.iload_n 2, 1) := by decide +kernel
theorem dX7_set_36 : decode cX7_set 36 = .ok (.i2l, 1) := by decide +kernel
theorem dX7_set_37 : decode cX7_set 37 = .ok (.lconst 0, 1) := by decide +kernel
theorem dX7_set_38 : decode cX7_set 38 = .ok (.aload_n 0, 1) := by decide +kernel
theorem dX7_set_39 : decode cX7_set 39 = .ok (.getfield 13, 3) := by decide +kernel
theorem dX7_set_42 : decode cX7_set 42 = .ok (.iload_n 1, 1) := by decide +kernel
theorem dX7_set_43 : decode cX7_set 43 = .ok (.iaload, 1) := by decide +kernel
theorem dX7_set_44 : decode cX7_set 44 = .ok (.iconst 1, 1) := by decide +kernel
theorem dX7_set_45 : decode cX7_set 45 = .ok (.isub, 1) := by decide +kernel
theorem dX7_set_46 : decode cX7_set 46 = .ok (.i2l, 1) := by decide +kernel
theorem dX7_set_47 : decode cX7_set 47 = .ok (.invokestatic 57, 3) := by decide +kernel
theorem dX7_set_50 : decode cX7_set 50 = .ok (.ifCond .ne 9, 3) := by decide +kernel
theorem dX7_set_53 : decode cX7_set 53 = .ok (.aload_n 0, 1) := by decide +kernel
theorem dX7_set_54 : decode cX7_set 54 = .ok (.iconst 2, 1) := by decide +kernel
theorem dX7_set_55 : decode cX7_set 55 = .ok (.invokevirtual 68, 3) := by decide +kernel
theorem dX7_set_58 : decode cX7_set 58 = .ok (.ireturn, 1) := by decide +kernel
theorem dX7_set_59 : decode cX7_set 59 = .ok (.aload_n 0, 1) := by decide +kernel
theorem dX7_set_60 : decode cX7_set 60 = .ok (.getfield 16, 3) := by decide +kernel
theorem dX7_set_63 : decode cX7_set 63 = .ok (.bipush 40, 2) := by decide +kernel
theorem dX7_set_65 : decode cX7_set 65 = .ok (.iload_n 1, 1) := by decide +kernel
theorem dX7_set_66 : decode cX7_set 66 = .ok (.imul, 1) := by decide +kernel
theorem dX7_set_67 : decode cX7_set 67 = .ok (.iload_n 2, 1) := by decide +kernel
theorem dX7_set_68 : decode cX7_set 68 = .ok (.iadd, 1) := by decide +kernel
theorem dX7_set_69 : decode cX7_set 69 = .ok (.aload_n 0, 1) := by decide +kernel
theorem dX7_set_70 : decode cX7_set 70 = .ok (.getfield 7, 3) := by decide +kernel
theorem dX7_set_73 : decode cX7_set 73 = .ok (.iload_n 1, 1) := by decide +kernel
theorem dX7_set_74 : decode cX7_set 74 = .ok (.iaload, 1) := by decide +kernel
theorem dX7_set_75 : decode cX7_set 75 = .ok (.ifCond .ne 8, 3) := by decide +kernel
theorem dX7_set_78 : decode cX7_set 78 = .ok (.iload_n 3, 1) := by decide +kernel
theorem dX7_set_79 : decode cX7_set 79 = .ok (.i2b, 1) := by decide +kernel
theorem dX7_set_80 : decode cX7_set 80 = .ok (.goto 19, 3) := by decide +kernel
theorem dX7_set_83 : decode cX7_set 83 = .ok (.aload_n 0, 1) := by decide +kernel
theorem dX7_set_84 : decode cX7_set 84 = .ok (.getfield 7, 3) := by decide +kernel
theorem dX7_set_87 : decode cX7_set 87 = .ok (.iload_n 1, 1) := by decide +kernel
theorem dX7_set_88 : decode cX7_set 88 = .ok (.iaload, 1) := by decide +kernel
theorem dX7_set_89 : decode cX7_set 89 = .ok (.iconst 1, 1) := by decide +kernel
theorem dX7_set_90 : decode cX7_set 90 = .ok (.if_icmp .ne 8, 3) := by decide +kernel
theorem dX7_set_93 : decode cX7_set 93 = .ok (.iload_n 3, 1) := by decide +kernel
theorem dX7_set_94 : decode cX7_set 94 = .ok (.i2s, 1) := by decide +kernel
theorem dX7_set_95 : decode cX7_set 95 = .ok (.goto 4, 3) := by decide +kernel
theorem dX7_set_98 : decode cX7_set 98 = .ok (.iload_n 3, 1) := by decide +kernel
theorem dX7_set_99 : decode cX7_set 99 = .ok (.iastore, 1) := by decide +kernel
theorem dX7_set_100 : decode cX7_set 100 = .ok (.aload_n 0, 1) := by decide +kernel
theorem dX7_set_101 : decode cX7_set 101 = .ok (.getfield 16, 3) := by decide +kernel
theorem dX7_set_104 : decode cX7_set 104 = .ok (.bipush 40, 2) := by decide +kernel
theorem dX7_set_106 : decode cX7_set 106 = .ok (.iload_n 1, 1) := by decide +kernel
theorem dX7_set_107 : decode cX7_set 107 = .ok (.imul, 1) := by decide +kernel
theorem dX7_set_108 : decode cX7_set 108 = .ok (.iload_n 2, 1) := by decide +kernel
theorem dX7_set_109 : decode cX7_set 109 = .ok (.iadd, 1) := by decide +kernel
theorem dX7_set_110 : decode cX7_set 110 = .ok (.iaload, 1) := by decide +kernel
theorem dX7_set_111 : decode cX7_set 111 = .ok (.ireturn, 1) := by decide +kernel
theorem dX7_copy_0 : decode cX7_copy 0 = .ok (.aload_n 0, 1) := by decide +kernel
theorem dX7_copy_1 : decode cX7_copy 1 = .ok (.iconst 0, 1) := by decide +kernel
theorem dX7_copy_2 : decode cX7_copy 2 = .ok (.putfield 47, 3) := by decide +kernel
theorem dX7_copy_5 : decode cX7_copy 5 = .ok (.iload_n 1, 1) := by decide +kernel
theorem dX7_copy_6 : decode cX7_copy 6 = .ok (.invokestatic 61, 3) := by decide +kernel
theorem dX7_copy_9 : decode cX7_copy 9 = .ok (.ifCond .eq 10, 3) := by decide +kernel
theorem dX7_copy_12 : decode cX7_copy 12 = .ok (.iload_n 3, 1) := by decide +kernel
theorem dX7_copy_13 : decode cX7_copy 13 = .ok (.invokestatic 61, 3) := by decide +kernel
theorem dX7_copy_16 : decode cX7_copy 16 = .ok (.ifCond .ne 6, 3) := by decide +kernel
theorem dX7_copy_19 : decode cX7_copy 19 = .ok (.ldc 67, 2) := by decide +kernel
theorem dX7_copy_21 : decode cX7_copy 21 = .ok (.ireturn, 1) := by decide +kernel
theorem dX7_copy_22 : decode cX7_copy 22 = .ok (.aload_n 0, 1) := by decide +kernel
theorem dX7_copy_23 : decode cX7_copy 23 = .ok (.iconst 0, 1) := by decide +kernel
theorem dX7_copy_24 : decode cX7_copy 24 = .ok (.putfield 51, 3) := by decide +kernel
theorem dX7_copy_27 : decode cX7_copy 27 = .ok (.aload_n 0, 1) := by decide +kernel
theorem dX7_copy_28 : decode cX7_copy 28 = .ok (.getfield 7, 3) := by decide +kernel
theorem dX7_copy_31 : decode cX7_copy 31 = .ok (.iload_n 1, 1) := by decide +kernel
theorem dX7_copy_32 : decode cX7_copy 32 = .ok (.iaload, 1) := by decide +kernel
theorem dX7_copy_33 : decode cX7_copy 33 = .ok (.ifCond .lt 12, 3) := by decide +kernel
theorem dX7_copy_36 : decode cX7_copy 36 = .ok (.aload_n 0, 1) := by decide +kernel
theorem dX7_copy_37 : decode cX7_copy 37 = .ok (.getfield 7, 3) := by decide +kernel
theorem dX7_copy_40 : decode cX7_copy 40 = .ok (.iload_n 3, 1) := by decide +kernel
theorem dX7_copy_41 : decode cX7_copy 41 = .ok (.iaload, 1) := by decide +kernel
theorem dX7_copy_42 : decode cX7_copy 42 = .ok (.ifCond .ge 9, 3) := by decide +kernel
theorem dX7_copy_45 : decode cX7_copy 45 = .ok (.aload_n 0, 1) := by decide +kernel
theorem dX7_copy_46 : decode cX7_copy 46 = .ok (.iconst 1, 1) := by decide +kernel
theorem dX7_copy_47 : decode cX7_copy 47 = .ok (.invokevirtual 68, 3) := by decide +kernel
theorem dX7_copy_50 : decode cX7_copy 50 = .ok (.ireturn, 1) := by decide +kernel
theorem dX7_copy_51 : decode cX7_copy 51 = .ok (.aload_n 0, 1) := by decide +kernel
theorem dX7_copy_52 : decode cX7_copy 52 = .ok (.getfield 7, 3) := by decide +kernel
theorem dX7_copy_55 : decode cX7_copy 55 = .ok (.iload_n 1, 1) := by decide +kernel
theorem dX7_copy_56 : decode cX7_copy 56 = .ok (.iaload, 1) := by decide +kernel
theorem dX7_copy_57 : decode cX7_copy 57 = .ok (.aload_n 0, 1) := by decide +kernel
theorem dX7_copy_58 : decode cX7_copy 58 = .ok (.getfield 7, 3) := by decide +kernel
theorem dX7_copy_61 : decode cX7_copy 61 = .ok (.iload_n 3, 1) := by decide +kernel
theorem dX7_copy_62 : decode cX7_copy 62 = .ok (.iaload, 1) := by decide +kernel
theorem dX7_copy_63 : decode cX7_copy 63 = .ok (.if_icmp .eq 9, 3) := by decide +kernel
theorem dX7_copy_66 : decode cX7_copy 66 = .ok (.aload_n 0, 1) := by decide +kernel
theorem dX7_copy_67 : decode cX7_copy 67 = .ok (.iconst 5, 1) := by decide +kernel
theorem dX7_copy_68 : decode cX7_copy 68 = .ok (.invokevirtual 68, 3) := by decide +kernel
theorem dX7_copy_71 : decode cX7_copy 71 = .ok (.ireturn, 1) := by decide +kernel
theorem dX7_copy_72 : decode cX7_copy 72 = .ok (.iload_n 2, 1) := by decide +kernel
theorem dX7_copy_73 : decode cX7_copy 73 = .ok (.ifCond .lt 48, 3) := by decide +kernel
theorem dX7_copy_76 : decode cX7_copy 76 = .ok (.iload 4, 2) := by decide +kernel
theorem dX7_copy_78 : decode cX7_copy 78 = .ok (.ifCond .lt 43, 3) := by decide +kernel
theorem dX7_copy_81 : decode cX7_copy 81 = .ok (.iload 5, 2) := by decide +kernel
theorem dX7_copy_83 : decode cX7_copy 83 = .ok (.ifCond .lt 38, 3) := by decide +kernel
theorem dX7_copy_86 : decode cX7_copy 86 = .ok (.iload_n 2, 1) := by decide +kernel
theorem dX7_copy_87 : decode cX7_copy 87 = .ok (.i2l, 1) := by decide +kernel
theorem dX7_copy_88 : decode cX7_copy 88 = .ok (.iload 5, 2) := by decide +kernel
theorem dX7_copy_90 : decode cX7_copy 90 = .ok (.i2l, 1) := by decide +kernel
theorem dX7_copy_91 : decode cX7_copy 91 = .ok (.ladd, 1) := by decide +kernel
theorem dX7_copy_92 : decode cX7_copy 92 = .ok (.aload_n 0, 1) := by decide +kernel
theorem dX7_copy_93 : decode cX7_copy 93 = .ok (.getfield 13, 3) := by decide +kernel
theorem dX7_copy_96 : decode cX7_copy 96 = .ok (.iload_n 1, 1) := by decide +kernel
theorem dX7_copy_97 : decode cX7_copy 97 = .ok (.iaload, 1) := by decide +kernel
theorem dX7_copy_98 : decode cX7_copy 98 = .ok (.i2l, 1) := by decide +kernel
theorem dX7_copy_99 : decode cX7_copy 99 = .ok (.lcmp, 1) := by decide +kernel
theorem dX7_copy_100 : decode cX7_copy 100 = .ok (.ifCond .gt 21, 3) := by decide +kernel
theorem dX7_copy_103 : decode cX7_copy 103 = .ok (.iload 4, 2) := by decide +kernel
theorem dX7_copy_105 : decode cX7_copy 105 = .ok (.i2l, 1) := by decide +kernel
theorem dX7_copy_106 : decode cX7_copy 106 = .ok (.iload 5, 2) := by decide +kernel
theorem dX7_copy_108 : decode cX7_copy 108 = .ok (.i2l, 1) := by decide +kernel
theorem dX7_copy_109 : decode cX7_copy 109 = .ok (.ladd, 1) := by decide +kernel
theorem dX7_copy_110 : decode cX7_copy 110 = .ok (.aload_n 0, 1) := by decide +kernel
theorem dX7_copy_111 : decode cX7_copy 111 = .ok (.getfield 13, 3) := by decide +kernel
theorem dX7_copy_114 : decode cX7_copy 114 = .ok (.iload_n 3, 1) := by decide +kernel
theorem dX7_copy_115 : decode cX7_copy 115 = .ok (.iaload, 1) := by decide +kernel
theorem dX7_copy_116 : decode cX7_copy 116 = .ok (.i2l, 1) := by decide +kernel
theorem dX7_copy_117 : decode cX7_copy 117 = .ok (.lcmp, 1) := by decide +kernel
theorem dX7_copy_118 : decode cX7_copy 118 = .ok (.ifCond .le 9, 3) := by decide +kernel
theorem dX7_copy_121 : decode cX7_copy 121 = .ok (.aload_n 0, 1) := by decide +kernel
theorem dX7_copy_122 : decode cX7_copy 122 = .ok (.iconst 2, 1) := by decide +kernel
theorem dX7_copy_123 : decode cX7_copy 123 = .ok (.invokevirtual 68, 3) := by decide +kernel
theorem dX7_copy_126 : decode cX7_copy 126 = .ok (.ireturn, 1) := by decide +kernel
theorem dX7_copy_127 : decode cX7_copy 127 = .ok (.iload_n 2, 1) := by decide +kernel
theorem dX7_copy_128 : decode cX7_copy 128 = .ok (.iload 4, 2) := by decide +kernel
theorem dX7_copy_130 : decode cX7_copy 130 = .ok (.if_icmp .lt 7, 3) := by decide +kernel
theorem dX7_copy_133 : decode cX7_copy 133 = .ok (.iconst 1, 1) := by decide +kernel
theorem dX7_copy_134 : decode cX7_copy 134 = .ok (.goto 4, 3) := by decide +kernel
theorem dX7_copy_137 : decode cX7_copy 137 = .ok (.iconst 0, 1) := by decide +kernel
theorem dX7_copy_138 : decode cX7_copy 138 = .ok (.istore 6, 2) := by decide +kernel
theorem dX7_copy_140 : decode cX7_copy 140 = .ok (.iconst 0, 1) := by decide +kernel
theorem dX7_copy_141 : decode cX7_copy 141 = .ok (.istore 7, 2) := by decide +kernel
theorem dX7_copy_143 : decode cX7_copy 143 = .ok (.iload 7, 2) := by decide +kernel
theorem dX7_copy_145 : decode cX7_copy 145 = .ok (.iload 5, 2) := by decide +kernel
theorem dX7_copy_147 : decode cX7_copy 147 = .ok (.if_icmp .ge 57, 3) := by decide +kernel
theorem dX7_copy_150 : decode cX7_copy 150 = .ok (.iload 6, 2) := by decide +kernel
theorem dX7_copy_152 : decode cX7_copy 152 = .ok (.ifCond .eq 8, 3) := by decide +kernel
theorem dX7_copy_155 : decode cX7_copy 155 = .ok (.iload 7, 2) := by decide +kernel
theorem dX7_copy_157 : decode cX7_copy 157 = .ok (.goto 10, 3) := by decide +kernel
theorem dX7_copy_160 : decode cX7_copy 160 = .ok (.iload 5, 2) := by decide +kernel
theorem dX7_copy_162 : decode cX7_copy 162 = .ok (.iconst 1, 1) := by decide +kernel
theorem dX7_copy_163 : decode cX7_copy 163 = .ok (.isub, 1) := by decide +kernel
theorem dX7_copy_164 : decode cX7_copy 164 = .ok (.iload 7, 2) := by decide +kernel
theorem dX7_copy_166 : decode cX7_copy 166 = .ok (.isub, 1) := by decide +kernel
theorem dX7_copy_167 : decode cX7_copy 167 = .ok (.istore 8, 2) := by decide +kernel
theorem dX7_copy_169 : decode cX7_copy 169 = .ok (.aload_n 0, 1) := by decide +kernel
theorem dX7_copy_170 : decode cX7_copy 170 = .ok (.getfield 16, 3) := by decide +kernel
theorem dX7_copy_173 : decode cX7_copy 173 = .ok (.bipush 40, 2) := by decide +kernel
theorem dX7_copy_175 : decode cX7_copy 175 = .ok (.iload_n 3, 1) := by decide +kernel
theorem dX7_copy_176 : decode cX7_copy 176 = .ok (.imul, 1) := by decide +kernel
theorem dX7_copy_177 : decode cX7_copy 177 = .ok (.iload 4, 2) := by decide +kernel
theorem dX7_copy_179 : decode cX7_copy 179 = .ok (.iadd, 1) := by decide +kernel
theorem dX7_copy_180 : decode cX7_copy 180 = .ok (.iload 8, 2) := by decide +kernel
theorem dX7_copy_182 : decode cX7_copy 182 = .ok (.iadd, 1) := by decide +kernel
theorem dX7_copy_183 : decode cX7_copy 183 = .ok (.aload_n 0, 1) := by decide +kernel
theorem dX7_copy_184 : decode cX7_copy 184 = .ok (.getfield 16, 3) := by decide +kernel
theorem dX7_copy_187 : decode cX7_copy 187 = .ok (.bipush 40, 2) := by decide +kernel
theorem dX7_copy_189 : decode cX7_copy 189 = .ok (.iload_n 1, 1) := by decide +kernel
theorem dX7_copy_190 : decode cX7_copy 190 = .ok (.imul, 1) := by decide +kernel
theorem dX7_copy_191 : decode cX7_copy 191 = .ok (.iload_n 2, 1) := by decide +kernel
theorem dX7_copy_192 : decode cX7_copy 192 = .ok (.iadd, 1) := by decide +kernel
theorem dX7_copy_193 : decode cX7_copy 193 = .ok (.iload 8, 2) := by decide +kernel
theorem dX7_copy_195 : decode cX7_copy 195 = .ok (.iadd, 1) := by decide +kernel
theorem dX7_copy_196 : decode cX7_copy 196 = .ok (.iaload, 1) := by decide +kernel
theorem dX7_copy_197 : decode cX7_copy 197 = .ok (.iastore, 1) := by decide +kernel
theorem dX7_copy_198 : decode cX7_copy 198 = .ok (.iinc 7 1, 3) := by decide +kernel
theorem dX7_copy_201 : decode cX7_copy 201 = .ok (.goto (-58), 3) := by decide +kernel
theorem dX7_copy_204 : decode cX7_copy 204 = .ok (.iload 5, 2) := by decide +kernel
theorem dX7_copy_206 : decode cX7_copy 206 = .ok (.ireturn, 1) := by decide +kernel
theorem dX7_drop_0 : decode cX7_drop 0 = .ok (.aload_n 0, 1) := by decide +kernel
theorem dX7_drop_1 : decode cX7_drop 1 = .ok (.iconst 0, 1) := by decide +kernel
theorem dX7_drop_2 : decode cX7_drop 2 = .ok (.putfield 47, 3) := by decide +kernel
theorem dX7_drop_5 : decode cX7_drop 5 = .ok (.iload_n 1, 1) := by decide +kernel
theorem dX7_drop_6 : decode cX7_drop 6 = .ok (.invokestatic 61, 3) := by decide +kernel
theorem dX7_drop_9 : decode cX7_drop 9 = .ok (.ifCond .ne 6, 3) := by decide +kernel
theorem dX7_drop_12 : decode cX7_drop 12 = .ok (.ldc 67, 2) := by decide +kernel
theorem dX7_drop_14 : decode cX7_drop 14 = .ok (.ireturn, 1) := by decide +kernel
theorem dX7_drop_15 : decode cX7_drop 15 = .ok (.aload_n 0, 1) := by decide +kernel
theorem dX7_drop_16 : decode cX7_drop 16 = .ok (.iconst 0, 1) := by decide +kernel
theorem dX7_drop_17 : decode cX7_drop 17 = .ok (.putfield 51, 3) := by decide +kernel
theorem dX7_drop_20 : decode cX7_drop 20 = .ok (.aload_n 0, 1) := by decide +kernel
theorem dX7_drop_21 : decode cX7_drop 21 = .ok (.getfield 7, 3) := by decide +kernel
theorem dX7_drop_24 : decode cX7_drop 24 = .ok (.iload_n 1, 1) := by decide +kernel
theorem dX7_drop_25 : decode cX7_drop 25 = .ok (.iaload, 1) := by decide +kernel
theorem dX7_drop_26 : decode cX7_drop 26 = .ok (.ifCond .ge 9, 3) := by decide +kernel
theorem dX7_drop_29 : decode cX7_drop 29 = .ok (.aload_n 0, 1) := by decide +kernel
theorem dX7_drop_30 : decode cX7_drop 30 = .ok (.iconst 1, 1) := by decide +kernel
theorem dX7_drop_31 : decode cX7_drop 31 = .ok (.invokevirtual 68, 3) := by decide +kernel
theorem dX7_drop_34 : decode cX7_drop 34 = .ok (.ireturn, 1) := by decide +kernel
theorem dX7_drop_35 : decode cX7_drop 35 = .ok (.aload_n 0, 1) := by decide +kernel
theorem dX7_drop_36 : decode cX7_drop 36 = .ok (.getfield 7, 3) := by decide +kernel
theorem dX7_drop_39 : decode cX7_drop 39 = .ok (.iload_n 1, 1) := by decide +kernel
theorem dX7_drop_40 : decode cX7_drop 40 = .ok (.iconst (-1), 1) := by decide +kernel
theorem dX7_drop_41 : decode cX7_drop 41 = .ok (.iastore, 1) := by decide +kernel
theorem dX7_drop_42 : decode cX7_drop 42 = .ok (.aload_n 0, 1) := by decide +kernel
theorem dX7_drop_43 : decode cX7_drop 43 = .ok (.getfield 13, 3) := by decide +kernel
theorem dX7_drop_46 : decode cX7_drop 46 = .ok (.iload_n 1, 1) := by decide +kernel
theorem dX7_drop_47 : decode cX7_drop 47 = .ok (.iaload, 1) := by decide +kernel
theorem dX7_drop_48 : decode cX7_drop 48 = .ok (.ireturn, 1) := by decide +kernel
theorem dX7_feed_0 : decode cX7_feed 0 = .ok (.aload_n 0, 1) := by decide +kernel
theorem dX7_feed_1 : decode cX7_feed 1 = .ok (.iconst 0, 1) := by decide +kernel
theorem dX7_feed_2 : decode cX7_feed 2 = .ok (.putfield 47, 3) := by decide +kernel
theorem dX7_feed_5 : decode cX7_feed 5 = .ok (.iload_n 1, 1) := by decide +kernel
theorem dX7_feed_6 : decode cX7_feed 6 = .ok (.i2l, 1) := by decide +kernel
theorem dX7_feed_7 : decode cX7_feed 7 = .ok (.lconst 0, 1) := by decide +kernel
theorem dX7_feed_8 : decode cX7_feed 8 = .ok (.ldc2_w 72, 3) := by decide +kernel
theorem dX7_feed_11 : decode cX7_feed 11 = .ok (.invokestatic 57, 3) := by decide +kernel
theorem dX7_feed_14 : decode cX7_feed 14 = .ok (.ifCond .ne 6, 3) := by decide +kernel
theorem dX7_feed_17 : decode cX7_feed 17 = .ok (.ldc 67, 2) := by decide +kernel
theorem dX7_feed_19 : decode cX7_feed 19 = .ok (.ireturn, 1) := by decide +kernel
theorem dX7_feed_20 : decode cX7_feed 20 = .ok (.aload_n 0, 1) := by decide +kernel
theorem dX7_feed_21 : decode cX7_feed 21 = .ok (.getfield 74, 3) := by decide +kernel
theorem dX7_feed_24 : decode cX7_feed 24 = .ok (.bipush 120, 2) := by decide +kernel
theorem dX7_feed_26 : decode cX7_feed 26 = .ok (.if_icmp .ne 6, 3) := by decide +kernel
theorem dX7_feed_29 : decode cX7_feed 29 = .ok (.ldc 77, 2) := by decide +kernel
theorem dX7_feed_31 : decode cX7_feed 31 = .ok (.ireturn, 1) := by decide +kernel
theorem dX7_feed_32 : decode cX7_feed 32 = .ok (.aload_n 0, 1) := by decide +kernel
theorem dX7_feed_33 : decode cX7_feed 33 = .ok (.getfield 31, 3) := by decide +kernel
theorem dX7_feed_36 : decode cX7_feed 36 = .ok (.aload_n 0, 1) := by decide +kernel
theorem dX7_feed_37 : decode cX7_feed 37 = .ok (.getfield 74, 3) := by decide +kernel
theorem dX7_feed_40 : decode cX7_feed 40 = .ok (.iload_n 1, 1) := by decide +kernel
theorem dX7_feed_41 : decode cX7_feed 41 = .ok (.iastore, 1) := by decide +kernel
theorem dX7_feed_42 : decode cX7_feed 42 = .ok (.aload_n 0, 1) := by decide +kernel
theorem dX7_feed_43 : decode cX7_feed 43 = .ok (.dup, 1) := by decide +kernel
theorem dX7_feed_44 : decode cX7_feed 44 = .ok (.getfield 74, 3) := by decide +kernel
theorem dX7_feed_47 : decode cX7_feed 47 = .ok (.iconst 1, 1) := by decide +kernel
theorem dX7_feed_48 : decode cX7_feed 48 = .ok (.iadd, 1) := by decide +kernel
theorem dX7_feed_49 : decode cX7_feed 49 = .ok (.putfield 74, 3) := by decide +kernel
theorem dX7_feed_52 : decode cX7_feed 52 = .ok (.aload_n 0, 1) := by decide +kernel
theorem dX7_feed_53 : decode cX7_feed 53 = .ok (.getfield 74, 3) := by decide +kernel
theorem dX7_feed_56 : decode cX7_feed 56 = .ok (.ireturn, 1) := by decide +kernel
theorem dX7_bad_0 : decode cX7_bad 0 = .ok (.aload_n 0, 1) := by decide +kernel
theorem dX7_bad_1 : decode cX7_bad 1 = .ok (.getfield 78, 3) := by decide +kernel
theorem dX7_bad_4 : decode cX7_bad 4 = .ok (.ifCond .ne 16, 3) := by decide +kernel
theorem dX7_bad_7 : decode cX7_bad 7 = .ok (.aload_n 0, 1) := by decide +kernel
theorem dX7_bad_8 : decode cX7_bad 8 = .ok (.iload_n 1, 1) := by decide +kernel
theorem dX7_bad_9 : decode cX7_bad 9 = .ok (.putfield 78, 3) := by decide +kernel
theorem dX7_bad_12 : decode cX7_bad 12 = .ok (.aload_n 0, 1) := by decide +kernel
theorem dX7_bad_13 : decode cX7_bad 13 = .ok (.aload_n 0, 1) := by decide +kernel
theorem dX7_bad_14 : decode cX7_bad 14 = .ok (.getfield 81, 3) := by decide +kernel
theorem dX7_bad_17 : decode cX7_bad 17 = .ok (.putfield 84, 3) := by decide +kernel
theorem dX7_bad_20 : decode cX7_bad 20 = .ok (.return_, 1) := by decide +kernel
theorem dX7_nextToken_0 : decode cX7_nextToken 0 = .ok (.aload_n 0, 1) := by decide +kernel
theorem dX7_nextToken_1 : decode cX7_nextToken 1 = .ok (.aload_n 0, 1) := by decide +kernel
theorem dX7_nextToken_2 : decode cX7_nextToken 2 = .ok (.getfield 87, 3) := by decide +kernel
theorem dX7_nextToken_5 : decode cX7_nextToken 5 = .ok (.putfield 81, 3) := by decide +kernel
theorem dX7_nextToken_8 : decode cX7_nextToken 8 = .ok (.aload_n 0, 1) := by decide +kernel
theorem dX7_nextToken_9 : decode cX7_nextToken 9 = .ok (.aload_n 0, 1) := by decide +kernel
theorem dX7_nextToken_10 : decode cX7_nextToken 10 = .ok (.getfield 87, 3) := by decide +kernel
theorem dX7_nextToken_13 : decode cX7_nextToken 13 = .ok (.aload_n 0, 1) := by decide +kernel
theorem dX7_nextToken_14 : decode cX7_nextToken 14 = .ok (.getfield 74, 3) := by decide +kernel
theorem dX7_nextToken_17 : decode cX7_nextToken 17 = .ok (.if_icmp .ge 15, 3) := by decide +kernel
theorem dX7_nextToken_20 : decode cX7_nextToken 20 = .ok (.aload_n 0, 1) := by decide +kernel
theorem dX7_nextToken_21 : decode cX7_nextToken 21 = .ok (.getfield 31, 3) := by decide +kernel
theorem dX7_nextToken_24 : decode cX7_nextToken 24 = .ok (.aload_n 0, 1) := by decide +kernel
theorem dX7_nextToken_25 : decode cX7_nextToken 25 = .ok (.getfield 87, 3) := by decide +kernel
theorem dX7_nextToken_28 : decode cX7_nextToken 28 = .ok (.iaload, 1) := by decide +kernel
theorem dX7_nextToken_29 : decode cX7_nextToken 29 = .ok (.goto 5, 3) := by decide +kernel
theorem dX7_nextToken_32 : decode cX7_nextToken 32 = .ok (.ldc 90, 2) := by decide +kernel
theorem dX7_nextToken_34 : decode cX7_nextToken 34 = .ok (.putfield 91, 3) := by decide +kernel
theorem dX7_nextToken_37 : decode cX7_nextToken 37 = .ok (.aload_n 0, 1) := by decide +kernel
theorem dX7_nextToken_38 : decode cX7_nextToken 38 = .ok (.aload_n 0, 1) := by decide +kernel
theorem dX7_nextToken_39 : decode cX7_nextToken 39 = .ok (.getfield 87, 3) := by decide +kernel
theorem dX7_nextToken_42 : decode cX7_nextToken 42 = .ok (.aload_n 0, 1) := by decide +kernel
theorem dX7_nextToken_43 : decode cX7_nextToken 43 = .ok (.getfield 74, 3) := by decide +kernel
theorem dX7_nextToken_46 : decode cX7_nextToken 46 = .ok (.if_icmp .ne 7, 3) := by decide +kernel
theorem dX7_nextToken_49 : decode cX7_nextToken 49 = .ok (.iconst 1, 1) := by decide +kernel
theorem dX7_nextToken_50 : decode cX7_nextToken 50 = .ok (.goto 68, 3) := by decide +kernel
theorem dX7_nextToken_53 : decode cX7_nextToken 53 = .ok (.aload_n 0, 1) := by decide +kernel
theorem dX7_nextToken_54 : decode cX7_nextToken 54 = .ok (.getfield 91, 3) := by decide +kernel
theorem dX7_nextToken_57 : decode cX7_nextToken 57 = .ok (.i2l, 1) := by decide +kernel
theorem dX7_nextToken_58 : decode cX7_nextToken 58 = .ok (.ldc2_w 94, 3) := by decide +kernel
theorem dX7_nextToken_61 : decode cX7_nextToken 61 = .ok (.ldc2_w 96, 3) := by decide +kernel
theorem dX7_nextToken_64 : decode cX7_nextToken 64 = .ok (.invokestatic 57, 3) := by decide +kernel
theorem dX7_nextToken_67 : decode cX7_nextToken 67 = .ok (.ifCond .eq 7, 3) := by decide +kernel
theorem dX7_nextToken_70 : decode cX7_nextToken 70 = .ok (.iconst 2, 1) := by decide +kernel
theorem dX7_nextToken_71 : decode cX7_nextToken 71 = .ok (.goto 47, 3) := by decide +kernel
theorem dX7_nextToken_74 : decode cX7_nextToken 74 = .ok (.aload_n 0, 1) := by decide +kernel
theorem dX7_nextToken_75 : decode cX7_nextToken 75 = .ok (.getfield 91, 3) := by decide +kernel
theorem dX7_nextToken_78 : decode cX7_nextToken 78 = .ok (.i2l, 1) := by decide +kernel
theorem dX7_nextToken_79 : decode cX7_nextToken 79 = .ok (.ldc2_w 98, 3) := by decide +kernel
theorem dX7_nextToken_82 : decode cX7_nextToken 82 = .ok (.ldc2_w 100, 3) := by decide +kernel
theorem dX7_nextToken_85 : decode cX7_nextToken 85 = .ok (.invokestatic 57, 3) := by decide +kernel
theorem dX7_nextToken_88 : decode cX7_nextToken 88 = .ok (.ifCond .eq 7, 3) := by decide +kernel
theorem dX7_nextToken_91 : decode cX7_nextToken 91 = .ok (.iconst 3, 1) := by decide +kernel
theorem dX7_nextToken_92 : decode cX7_nextToken 92 = .ok (.goto 26, 3) := by decide +kernel
theorem dX7_nextToken_95 : decode cX7_nextToken 95 = .ok (.aload_n 0, 1) := by decide +kernel
theorem dX7_nextToken_96 : decode cX7_nextToken 96 = .ok (.getfield 91, 3) := by decide +kernel
theorem dX7_nextToken_99 : decode cX7_nextToken 99 = .ok (.bipush 44, 2) := by decide +kernel
theorem dX7_nextToken_101 : decode cX7_nextToken 101 = .ok (.if_icmp .eq 12, 3) := by decide +kernel
theorem dX7_nextToken_104 : decode cX7_nextToken 104 = .ok (.aload_n 0, 1) := by decide +kernel
theorem dX7_nextToken_105 : decode cX7_nextToken 105 = .ok (.getfield 91, 3) := by decide +kernel
theorem dX7_nextToken_108 : decode cX7_nextToken 108 = .ok (.bipush 59, 2) := by decide +kernel
theorem dX7_nextToken_110 : decode cX7_nextToken 110 = .ok (.if_icmp .ne 7, 3) := by decide +kernel
theorem dX7_nextToken_113 : decode cX7_nextToken 113 = .ok (.iconst 4, 1) := by decide +kernel
theorem dX7_nextToken_114 : decode cX7_nextToken 114 = .ok (.goto 4, 3) := by decide +kernel
theorem dX7_nextToken_117 : decode cX7_nextToken 117 = .ok (.iconst 0, 1) := by decide +kernel
theorem dX7_nextToken_118 : decode cX7_nextToken 118 = .ok (.putfield 102, 3) := by decide +kernel
theorem dX7_nextToken_121 : decode cX7_nextToken 121 = .ok (.aload_n 0, 1) := by decide +kernel
theorem dX7_nextToken_122 : decode cX7_nextToken 122 = .ok (.dup, 1) := by decide +kernel
theorem dX7_nextToken_123 : decode cX7_nextToken 123 = .ok (.getfield 87, 3) := by decide +kernel
theorem dX7_nextToken_126 : decode cX7_nextToken 126 = .ok (.aload_n 0, 1) := by decide +kernel
theorem dX7_nextToken_127 : decode cX7_nextToken 127 = .ok (.getfield 87, 3) := by decide +kernel
theorem dX7_nextToken_130 : decode cX7_nextToken 130 = .ok (.aload_n 0, 1) := by decide +kernel
theorem dX7_nextToken_131 : decode cX7_nextToken 131 = .ok (.getfield 74, 3) := by decide +kernel
theorem dX7_nextToken_134 : decode cX7_nextToken 134 = .ok (.if_icmp .ge 7, 3) := by decide +kernel
theorem dX7_nextToken_137 : decode cX7_nextToken 137 = .ok (.iconst 1, 1) := by decide +kernel
theorem dX7_nextToken_138 : decode cX7_nextToken 138 = .ok (.goto 4, 3) := by decide +kernel
theorem dX7_nextToken_141 : decode cX7_nextToken 141 = .ok (.iconst 0, 1) := by decide +kernel
theorem dX7_nextToken_142 : decode cX7_nextToken 142 = .ok (.iadd, 1) := by decide +kernel
theorem dX7_nextToken_143 : decode cX7_nextToken 143 = .ok (.putfield 87, 3) := by decide +kernel
theorem dX7_nextToken_146 : decode cX7_nextToken 146 = .ok (.aload_n 0, 1) := by decide +kernel
theorem dX7_nextToken_147 : decode cX7_nextToken 147 = .ok (.getfield 102, 3) := by decide +kernel
theorem dX7_nextToken_150 : decode cX7_nextToken 150 = .ok (.iconst 3, 1) := by decide +kernel
theorem dX7_nextToken_151 : decode cX7_nextToken 151 = .ok (.if_icmp .ne 126, 3) := by decide +kernel
theorem dX7_nextToken_154 : decode cX7_nextToken 154 = .ok (.aload_n 0, 1) := by decide +kernel
theorem dX7_nextToken_155 : decode cX7_nextToken 155 = .ok (.dup, 1) := by decide +kernel
theorem dX7_nextToken_156 : decode cX7_nextToken 156 = .ok (.getfield 91, 3) := by decide +kernel
theorem dX7_nextToken_159 : decode cX7_nextToken 159 = .ok (.bipush 48, 2) := by decide +kernel
theorem dX7_nextToken_161 : decode cX7_nextToken 161 = .ok (.isub, 1) := by decide +kernel
theorem dX7_nextToken_162 : decode cX7_nextToken 162 = .ok (.putfield 91, 3) := by decide +kernel
theorem dX7_nextToken_165 : decode cX7_nextToken 165 = .ok (.aload_n 0, 1) := by decide +kernel
theorem dX7_nextToken_166 : decode cX7_nextToken 166 = .ok (.getfield 87, 3) := by decide +kernel
theorem dX7_nextToken_169 : decode cX7_nextToken 169 = .ok (.aload_n 0, 1) := by decide +kernel
theorem dX7_nextToken_170 : decode cX7_nextToken 170 = .ok (.getfield 74, 3) := by decide +kernel
theorem dX7_nextToken_173 : decode cX7_nextToken 173 = .ok (.if_icmp .ge 82, 3) := by decide +kernel
theorem dX7_nextToken_176 : decode cX7_nextToken 176 = .ok (.aload_n 0, 1) := by decide +kernel
theorem dX7_nextToken_177 : decode cX7_nextToken 177 = .ok (.getfield 31, 3) := by decide +kernel
theorem dX7_nextToken_180 : decode cX7_nextToken 180 = .ok (.aload_n 0, 1) := by decide +kernel
theorem dX7_nextToken_181 : decode cX7_nextToken 181 = .ok (.getfield 87, 3) := by decide +kernel
theorem dX7_nextToken_184 : decode cX7_nextToken 184 = .ok (.iaload, 1) := by decide +kernel
theorem dX7_nextToken_185 : decode cX7_nextToken 185 = .ok (.i2l, 1) := by decide +kernel
theorem dX7_nextToken_186 : decode cX7_nextToken 186 = .ok (.ldc2_w 98, 3) := by decide +kernel
theorem dX7_nextToken_189 : decode cX7_nextToken 189 = .ok (.ldc2_w 100, 3) := by decide +kernel
theorem dX7_nextToken_192 : decode cX7_nextToken 192 = .ok (.invokestatic 57, 3) := by decide +kernel
theorem dX7_nextToken_195 : decode cX7_nextToken 195 = .ok (.ifCond .eq 60, 3) := by decide +kernel
theorem dX7_nextToken_198 : decode cX7_nextToken 198 = .ok (.aload_n 0, 1) := by decide +kernel
theorem dX7_nextToken_199 : decode cX7_nextToken 199 = .ok (.aload_n 0, 1) := by decide +kernel
theorem dX7_nextToken_200 : decode cX7_nextToken 200 = .ok (.getfield 87, 3) := by decide +kernel
theorem dX7_nextToken_203 : decode cX7_nextToken 203 = .ok (.aload_n 0, 1) := by decide +kernel
theorem dX7_nextToken_204 : decode cX7_nextToken 204 = .ok (.getfield 81, 3) := by decide +kernel
theorem dX7_nextToken_207 : decode cX7_nextToken 207 = .ok (.isub, 1) := by decide +kernel
theorem dX7_nextToken_208 : decode cX7_nextToken 208 = .ok (.iconst 2, 1) := by decide +kernel
theorem dX7_nextToken_209 : decode cX7_nextToken 209 = .ok (.if_icmp .ge 26, 3) := by decide +kernel
theorem dX7_nextToken_212 : decode cX7_nextToken 212 = .ok (.bipush 10, 2) := by decide +kernel
theorem dX7_nextToken_214 : decode cX7_nextToken 214 = .ok (.aload_n 0, 1) := by decide +kernel
theorem dX7_nextToken_215 : decode cX7_nextToken 215 = .ok (.getfield 91, 3) := by decide +kernel
theorem dX7_nextToken_218 : decode cX7_nextToken 218 = .ok (.imul, 1) := by decide +kernel
theorem dX7_nextToken_219 : decode cX7_nextToken 219 = .ok (.aload_n 0, 1) := by decide +kernel
theorem dX7_nextToken_220 : decode cX7_nextToken 220 = .ok (.getfield 31, 3) := by decide +kernel
theorem dX7_nextToken_223 : decode cX7_nextToken 223 = .ok (.aload_n 0, 1) := by decide +kernel
theorem dX7_nextToken_224 : decode cX7_nextToken 224 = .ok (.getfield 87, 3) := by decide +kernel
theorem dX7_nextToken_227 : decode cX7_nextToken 227 = .ok (.iaload, 1) := by decide +kernel
theorem dX7_nextToken_228 : decode cX7_nextToken 228 = .ok (.iadd, 1) := by decide +kernel
theorem dX7_nextToken_229 : decode cX7_nextToken 229 = .ok (.bipush 48, 2) := by decide +kernel
theorem dX7_nextToken_231 : decode cX7_nextToken 231 = .ok (.isub, 1) := by decide +kernel
theorem dX7_nextToken_232 : decode cX7_nextToken 232 = .ok (.goto 7, 3) := by decide +kernel
theorem dX7_nextToken_235 : decode cX7_nextToken 235 = .ok (.aload_n 0, 1) := by decide +kernel
theorem dX7_nextToken_236 : decode cX7_nextToken 236 = .ok (.getfield 91, 3) := by decide +kernel
theorem dX7_nextToken_239 : decode cX7_nextToken 239 = .ok (.putfield 91, 3) := by decide +kernel
theorem dX7_nextToken_242 : decode cX7_nextToken 242 = .ok (.aload_n 0, 1) := by decide +kernel
theorem dX7_nextToken_243 : decode cX7_nextToken 243 = .ok (.dup, 1) := by decide +kernel
theorem dX7_nextToken_244 : decode cX7_nextToken 244 = .ok (.getfield 87, 3) := by decide +kernel
theorem dX7_nextToken_247 : decode cX7_nextToken 247 = .ok (.iconst 1, 1) := by decide +kernel
theorem dX7_nextToken_248 : decode cX7_nextToken 248 = .ok (.iadd, 1) := by decide +kernel
theorem dX7_nextToken_249 : decode cX7_nextToken 249 = .ok (.putfield 87, 3) := by decide +kernel
theorem dX7_nextToken_252 : decode cX7_nextToken 252 = .ok (.goto (-87), 3) := by decide +kernel
theorem dX7_nextToken_255 : decode cX7_nextToken 255 = .ok (.aload_n 0, 1) := by decide +kernel
theorem dX7_nextToken_256 : decode cX7_nextToken 256 = .ok (.aload_n 0, 1) := by decide +kernel
theorem dX7_nextToken_257 : decode cX7_nextToken 257 = .ok (.getfield 87, 3) := by decide +kernel
theorem dX7_nextToken_260 : decode cX7_nextToken 260 = .ok (.aload_n 0, 1) := by decide +kernel
theorem dX7_nextToken_261 : decode cX7_nextToken 261 = .ok (.getfield 81, 3) := by decide +kernel
theorem dX7_nextToken_264 : decode cX7_nextToken 264 = .ok (.isub, 1) := by decide +kernel
theorem dX7_nextToken_265 : decode cX7_nextToken 265 = .ok (.iconst 2, 1) := by decide +kernel
theorem dX7_nextToken_266 : decode cX7_nextToken 266 = .ok (.if_icmp .le 7, 3) := by decide +kernel
theorem dX7_nextToken_269 : decode cX7_nextToken 269 = .ok (.iconst 0, 1) := by decide +kernel
theorem dX7_nextToken_270 : decode cX7_nextToken 270 = .ok (.goto 4, 3) := by decide +kernel
theorem dX7_nextToken_273 : decode cX7_nextToken 273 = .ok (.iconst 3, 1) := by decide +kernel
theorem dX7_nextToken_274 : decode cX7_nextToken 274 = .ok (.putfield 102, 3) := by decide +kernel
theorem dX7_nextToken_277 : decode cX7_nextToken 277 = .ok (.return_, 1) := by decide +kernel
theorem dX7_must_0 : decode cX7_must 0 = .ok (.iload_n 1, 1) := by decide +kernel
theorem dX7_must_1 : decode cX7_must 1 = .ok (.ifCond .ne 8, 3) := by decide +kernel
theorem dX7_must_4 : decode cX7_must 4 = .ok (.aload_n 0, 1) := by decide +kernel
theorem dX7_must_5 : decode cX7_must 5 = .ok (.iconst 1, 1) := by decide +kernel
theorem dX7_must_6 : decode cX7_must 6 = .ok (.invokevirtual 105, 3) := by decide +kernel
theorem dX7_must_9 : decode cX7_must 9 = .ok (.aload_n 0, 1) := by decide +kernel
theorem dX7_must_10 : decode cX7_must 10 = .ok (.getfield 78, 3) := by decide +kernel
theorem dX7_must_13 : decode cX7_must 13 = .ok (.ifCond .ne 7, 3) := by decide +kernel
theorem dX7_must_16 : decode cX7_must 16 = .ok (.aload_n 0, 1) := by decide +kernel
theorem dX7_must_17 : decode cX7_must 17 = .ok (.invokevirtual 109, 3) := by decide +kernel
theorem dX7_must_20 : decode cX7_must 20 = .ok (.return_, 1) := by decide +kernel
theorem dX7_isLetter_0 : decode cX7_isLetter 0 = .ok (.aload_n 0, 1) := by decide +kernel
theorem dX7_isLetter_1 : decode cX7_isLetter 1 = .ok (.getfield 78, 3) := by decide +kernel
theorem dX7_isLetter_4 : decode cX7_isLetter 4 = .ok (.ifCond .ne 23, 3) := by decide +kernel
theorem dX7_isLetter_7 : decode cX7_isLetter 7 = .ok (.aload_n 0, 1) := by decide +kernel
theorem dX7_isLetter_8 : decode cX7_isLetter 8 = .ok (.getfield 102, 3) := by decide +kernel
theorem dX7_isLetter_11 : decode cX7_isLetter 11 = .ok (.iconst 2, 1) := by decide +kernel
theorem dX7_isLetter_12 : decode cX7_isLetter 12 = .ok (.if_icmp .ne 15, 3) := by decide +kernel
theorem dX7_isLetter_15 : decode cX7_isLetter 15 = .ok (.aload_n 0, 1) := by decide +kernel
theorem dX7_isLetter_16 : decode cX7_isLetter 16 = .ok (.getfield 91, 3) := by decide +kernel
theorem dX7_isLetter_19 : decode cX7_isLetter 19 = .ok (.iload_n 1, 1) := by decide +kernel
theorem dX7_isLetter_20 : decode cX7_isLetter 20 = .ok (.if_icmp .ne 7, 3) := by decide +kernel
theorem dX7_isLetter_23 : decode cX7_isLetter 23 = .ok (.iconst 1, 1) := by decide +kernel
theorem dX7_isLetter_24 : decode cX7_isLetter 24 = .ok (.goto 4, 3) := by decide +kernel
theorem dX7_isLetter_27 : decode cX7_isLetter 27 = .ok (.iconst 0, 1) := by decide +kernel
theorem dX7_isLetter_28 : decode cX7_isLetter 28 = .ok (.ireturn, 1) := by decide +kernel
theorem dX7_number_0 : decode cX7_number 0 = .ok (.aload_n 0, 1) := by decide +kernel
theorem dX7_number_1 : decode cX7_number 1 = .ok (.getfield 78, 3) := by decide +kernel
theorem dX7_number_4 : decode cX7_number 4 = .ok (.ifCond .ne 16, 3) := by decide +kernel
theorem dX7_number_7 : decode cX7_number 7 = .ok (.aload_n 0, 1) := by decide +kernel
theorem dX7_number_8 : decode cX7_number 8 = .ok (.getfield 102, 3) := by decide +kernel
theorem dX7_number_11 : decode cX7_number 11 = .ok (.iconst 3, 1) := by decide +kernel
theorem dX7_number_12 : decode cX7_number 12 = .ok (.if_icmp .eq 8, 3) := by decide +kernel
theorem dX7_number_15 : decode cX7_number 15 = .ok (.aload_n 0, 1) := by decide +kernel
theorem dX7_number_16 : decode cX7_number 16 = .ok (.iconst 1, 1) := by decide +kernel
theorem dX7_number_17 : decode cX7_number 17 = .ok (.invokevirtual 105, 3) := by decide +kernel
theorem dX7_number_20 : decode cX7_number 20 = .ok (.aload_n 0, 1) := by decide +kernel
theorem dX7_number_21 : decode cX7_number 21 = .ok (.getfield 78, 3) := by decide +kernel
theorem dX7_number_24 : decode cX7_number 24 = .ok (.ifCond .ne 23, 3) := by decide +kernel
theorem dX7_number_27 : decode cX7_number 27 = .ok (.aload_n 0, 1) := by decide +kernel
theorem dX7_number_28 : decode cX7_number 28 = .ok (.getfield 91, 3) := by decide +kernel
theorem dX7_number_31 : decode cX7_number 31 = .ok (.i2l, 1) := by decide +kernel
theorem dX7_number_32 : decode cX7_number 32 = .ok (.iload_n 1, 1) := by decide +kernel
theorem dX7_number_33 : decode cX7_number 33 = .ok (.i2l, 1) := by decide +kernel
theorem dX7_number_34 : decode cX7_number 34 = .ok (.iload_n 2, 1) := by decide +kernel
theorem dX7_number_35 : decode cX7_number 35 = .ok (.i2l, 1) := by decide +kernel
theorem dX7_number_36 : decode cX7_number 36 = .ok (.invokestatic 57, 3) := by decide +kernel
theorem dX7_number_39 : decode cX7_number 39 = .ok (.ifCond .ne 8, 3) := by decide +kernel
theorem dX7_number_42 : decode cX7_number 42 = .ok (.aload_n 0, 1) := by decide +kernel
theorem dX7_number_43 : decode cX7_number 43 = .ok (.iconst 2, 1) := by decide +kernel
theorem dX7_number_44 : decode cX7_number 44 = .ok (.invokevirtual 105, 3) := by decide +kernel
theorem dX7_number_47 : decode cX7_number 47 = .ok (.aload_n 0, 1) := by decide +kernel
theorem dX7_number_48 : decode cX7_number 48 = .ok (.getfield 78, 3) := by decide +kernel
theorem dX7_number_51 : decode cX7_number 51 = .ok (.ifCond .ne 10, 3) := by decide +kernel
theorem dX7_number_54 : decode cX7_number 54 = .ok (.aload_n 0, 1) := by decide +kernel
theorem dX7_number_55 : decode cX7_number 55 = .ok (.getfield 91, 3) := by decide +kernel
theorem dX7_number_58 : decode cX7_number 58 = .ok (.goto 4, 3) := by decide +kernel
theorem dX7_number_61 : decode cX7_number 61 = .ok (.iload_n 1, 1) := by decide +kernel
theorem dX7_number_62 : decode cX7_number 62 = .ok (.istore_n 3, 1) := by decide +kernel
theorem dX7_number_63 : decode cX7_number 63 = .ok (.aload_n 0, 1) := by decide +kernel
theorem dX7_number_64 : decode cX7_number 64 = .ok (.iconst 1, 1) := by decide +kernel
theorem dX7_number_65 : decode cX7_number 65 = .ok (.invokevirtual 112, 3) := by decide +kernel
theorem dX7_number_68 : decode cX7_number 68 = .ok (.iload_n 3, 1) := by decide +kernel
theorem dX7_number_69 : decode cX7_number 69 = .ok (.ireturn, 1) := by decide +kernel
theorem dX7_mustSign_0 : decode cX7_mustSign 0 = .ok (.aload_n 0, 1) := by decide +kernel
theorem dX7_mustSign_1 : decode cX7_mustSign 1 = .ok (.aload_n 0, 1) := by decide +kernel
theorem dX7_mustSign_2 : decode cX7_mustSign 2 = .ok (.getfield 102, 3) := by decide +kernel
theorem dX7_mustSign_5 : decode cX7_mustSign 5 = .ok (.iconst 4, 1) := by decide +kernel
theorem dX7_mustSign_6 : decode cX7_mustSign 6 = .ok (.if_icmp .ne 15, 3) := by decide +kernel
theorem dX7_mustSign_9 : decode cX7_mustSign 9 = .ok (.aload_n 0, 1) := by decide +kernel
theorem dX7_mustSign_10 : decode cX7_mustSign 10 = .ok (.getfield 91, 3) := by decide +kernel
theorem dX7_mustSign_13 : decode cX7_mustSign 13 = .ok (.iload_n 1, 1) := by decide +kernel
theorem dX7_mustSign_14 : decode cX7_mustSign 14 = .ok (.if_icmp .ne 7, 3) := by decide +kernel
theorem dX7_mustSign_17 : decode cX7_mustSign 17 = .ok (.iconst 1, 1) := by decide +kernel
theorem dX7_mustSign_18 : decode cX7_mustSign 18 = .ok (.goto 4, 3) := by decide +kernel
theorem dX7_mustSign_21 : decode cX7_mustSign 21 = .ok (.iconst 0, 1) := by decide +kernel
theorem dX7_mustSign_22 : decode cX7_mustSign 22 = .ok (.invokevirtual 112, 3) := by decide +kernel
theorem dX7_mustSign_25 : decode cX7_mustSign 25 = .ok (.return_, 1) := by decide +kernel
theorem dX7_begin_0 : decode cX7_begin 0 = .ok (.aload_n 0, 1) := by decide +kernel
theorem dX7_begin_1 : decode cX7_begin 1 = .ok (.iconst 0, 1) := by decide +kernel
theorem dX7_begin_2 : decode cX7_begin 2 = .ok (.putfield 87, 3) := by decide +kernel
theorem dX7_begin_5 : decode cX7_begin 5 = .ok (.aload_n 0, 1) := by decide +kernel
theorem dX7_begin_6 : decode cX7_begin 6 = .ok (.iconst 0, 1) := by decide +kernel
theorem dX7_begin_7 : decode cX7_begin 7 = .ok (.putfield 78, 3) := by decide +kernel
theorem dX7_begin_10 : decode cX7_begin 10 = .ok (.aload_n 0, 1) := by decide +kernel
theorem dX7_begin_11 : decode cX7_begin 11 = .ok (.invokevirtual 109, 3) := by decide +kernel
theorem dX7_begin_14 : decode cX7_begin 14 = .ok (.return_, 1) := by decide +kernel
theorem dX7_failed_0 : decode cX7_failed 0 = .ok (.aload_n 0, 1) := by decide +kernel
theorem dX7_failed_1 : decode cX7_failed 1 = .ok (.getfield 78, 3) := by decide +kernel
theorem dX7_failed_4 : decode cX7_failed 4 = .ok (.ifCond .ne 16, 3) := by decide +kernel
theorem dX7_failed_7 : decode cX7_failed 7 = .ok (.aload_n 0, 1) := by decide +kernel
theorem dX7_failed_8 : decode cX7_failed 8 = .ok (.getfield 102, 3) := by decide +kernel
theorem dX7_failed_11 : decode cX7_failed 11 = .ok (.iconst 1, 1) := by decide +kernel
theorem dX7_failed_12 : decode cX7_failed 12 = .ok (.if_icmp .eq 8, 3) := by decide +kernel
theorem dX7_failed_15 : decode cX7_failed 15 = .ok (.aload_n 0, 1) := by decide +kernel
theorem dX7_failed_16 : decode cX7_failed 16 = .ok (.iconst 1, 1) := by decide +kernel
theorem dX7_failed_17 : decode cX7_failed 17 = .ok (.invokevirtual 105, 3) := by decide +kernel
theorem dX7_failed_20 : decode cX7_failed 20 = .ok (.aload_n 0, 1) := by decide +kernel
theorem dX7_failed_21 : decode cX7_failed 21 = .ok (.iconst 0, 1) := by decide +kernel
theorem dX7_failed_22 : decode cX7_failed 22 = .ok (.putfield 74, 3) := by decide +kernel
theorem dX7_failed_25 : decode cX7_failed 25 = .ok (.aload_n 0, 1) := by decide +kernel
theorem dX7_failed_26 : decode cX7_failed 26 = .ok (.aload_n 0, 1) := by decide +kernel
theorem dX7_failed_27 : decode cX7_failed 27 = .ok (.getfield 78, 3) := by decide +kernel
theorem dX7_failed_30 : decode cX7_failed 30 = .ok (.ifCond .le 10, 3) := by decide +kernel
theorem dX7_failed_33 : decode cX7_failed 33 = .ok (.aload_n 0, 1) := by decide +kernel
theorem dX7_failed_34 : decode cX7_failed 34 = .ok (.getfield 78, 3) := by decide +kernel
theorem dX7_failed_37 : decode cX7_failed 37 = .ok (.goto 7, 3) := by decide +kernel
theorem dX7_failed_40 : decode cX7_failed 40 = .ok (.aload_n 0, 1) := by decide +kernel
theorem dX7_failed_41 : decode cX7_failed 41 = .ok (.getfield 116, 3) := by decide +kernel
theorem dX7_failed_44 : decode cX7_failed 44 = .ok (.putfield 116, 3) := by decide +kernel
theorem dX7_failed_47 : decode cX7_failed 47 = .ok (.aload_n 0, 1) := by decide +kernel
theorem dX7_failed_48 : decode cX7_failed 48 = .ok (.getfield 78, 3) := by decide +kernel
theorem dX7_failed_51 : decode cX7_failed 51 = .ok (.ifCond .le 7, 3) := by decide +kernel
theorem dX7_failed_54 : decode cX7_failed 54 = .ok (.iconst 1, 1) := by decide +kernel
theorem dX7_failed_55 : decode cX7_failed 55 = .ok (.goto 4, 3) := by decide +kernel
theorem dX7_failed_58 : decode cX7_failed 58 = .ok (.iconst 0, 1) := by decide +kernel
theorem dX7_failed_59 : decode cX7_failed 59 = .ok (.ireturn, 1) := by decide +kernel
theorem dX7_fault_0 : decode cX7_fault 0 = .ok (.aload_n 0, 1) := by decide +kernel
theorem dX7_fault_1 : decode cX7_fault 1 = .ok (.iconst 0, 1) := by decide +kernel
theorem dX7_fault_2 : decode cX7_fault 2 = .ok (.putfield 47, 3) := by decide +kernel
theorem dX7_fault_5 : decode cX7_fault 5 = .ok (.aload_n 0, 1) := by decide +kernel
theorem dX7_fault_6 : decode cX7_fault 6 = .ok (.getfield 116, 3) := by decide +kernel
theorem dX7_fault_9 : decode cX7_fault 9 = .ok (.ireturn, 1) := by decide +kernel
theorem dX7_kindBy_0 : decode cX7_kindBy 0 = .ok (.iload_n 0, 1) := by decide +kernel
theorem dX7_kindBy_1 : decode cX7_kindBy 1 = .ok (.bipush 115, 2) := by decide +kernel
theorem dX7_kindBy_3 : decode cX7_kindBy 3 = .ok (.if_icmp .ne 7, 3) := by decide +kernel
theorem dX7_kindBy_6 : decode cX7_kindBy 6 = .ok (.iconst 1, 1) := by decide +kernel
theorem dX7_kindBy_7 : decode cX7_kindBy 7 = .ok (.goto 45, 3) := by decide +kernel
theorem dX7_kindBy_10 : decode cX7_kindBy 10 = .ok (.iload_n 0, 1) := by decide +kernel
theorem dX7_kindBy_11 : decode cX7_kindBy 11 = .ok (.bipush 98, 2) := by decide +kernel
theorem dX7_kindBy_13 : decode cX7_kindBy 13 = .ok (.if_icmp .ne 7, 3) := by decide +kernel
theorem dX7_kindBy_16 : decode cX7_kindBy 16 = .ok (.iconst 2, 1) := by decide +kernel
theorem dX7_kindBy_17 : decode cX7_kindBy 17 = .ok (.goto 35, 3) := by decide +kernel
theorem dX7_kindBy_20 : decode cX7_kindBy 20 = .ok (.iload_n 0, 1) := by decide +kernel
theorem dX7_kindBy_21 : decode cX7_kindBy 21 = .ok (.bipush 119, 2) := by decide +kernel
theorem dX7_kindBy_23 : decode cX7_kindBy 23 = .ok (.if_icmp .ne 7, 3) := by decide +kernel
theorem dX7_kindBy_26 : decode cX7_kindBy 26 = .ok (.iconst 3, 1) := by decide +kernel
theorem dX7_kindBy_27 : decode cX7_kindBy 27 = .ok (.goto 25, 3) := by decide +kernel
theorem dX7_kindBy_30 : decode cX7_kindBy 30 = .ok (.iload_n 0, 1) := by decide +kernel
theorem dX7_kindBy_31 : decode cX7_kindBy 31 = .ok (.bipush 104, 2) := by decide +kernel
theorem dX7_kindBy_33 : decode cX7_kindBy 33 = .ok (.if_icmp .ne 7, 3) := by decide +kernel
theorem dX7_kindBy_36 : decode cX7_kindBy 36 = .ok (.iconst 4, 1) := by decide +kernel
theorem dX7_kindBy_37 : decode cX7_kindBy 37 = .ok (.goto 15, 3) := by decide +kernel
theorem dX7_kindBy_40 : decode cX7_kindBy 40 = .ok (.iload_n 0, 1) := by decide +kernel
theorem dX7_kindBy_41 : decode cX7_kindBy 41 = .ok (.bipush 111, 2) := by decide +kernel
theorem dX7_kindBy_43 : decode cX7_kindBy 43 = .ok (.if_icmp .ne 7, 3) := by decide +kernel
theorem dX7_kindBy_46 : decode cX7_kindBy 46 = .ok (.iconst 5, 1) := by decide +kernel
theorem dX7_kindBy_47 : decode cX7_kindBy 47 = .ok (.goto 5, 3) := by decide +kernel
theorem dX7_kindBy_50 : decode cX7_kindBy 50 = .ok (.ldc 90, 2) := by decide +kernel
theorem dX7_kindBy_52 : decode cX7_kindBy 52 = .ok (.ireturn, 1) := by decide +kernel
theorem dX7_isSort_0 : decode cX7_isSort 0 = .ok (.aload_n 0, 1) := by decide +kernel
theorem dX7_isSort_1 : decode cX7_isSort 1 = .ok (.getfield 78, 3) := by decide +kernel
theorem dX7_isSort_4 : decode cX7_isSort 4 = .ok (.ifCond .ne 27, 3) := by decide +kernel
theorem dX7_isSort_7 : decode cX7_isSort 7 = .ok (.aload_n 0, 1) := by decide +kernel
theorem dX7_isSort_8 : decode cX7_isSort 8 = .ok (.getfield 102, 3) := by decide +kernel
theorem dX7_isSort_11 : decode cX7_isSort 11 = .ok (.iconst 2, 1) := by decide +kernel
theorem dX7_isSort_12 : decode cX7_isSort 12 = .ok (.if_icmp .ne 19, 3) := by decide +kernel
theorem dX7_isSort_15 : decode cX7_isSort 15 = .ok (.aload_n 0, 1) := by decide +kernel
theorem dX7_isSort_16 : decode cX7_isSort 16 = .ok (.getfield 91, 3) := by decide +kernel
theorem dX7_isSort_19 : decode cX7_isSort 19 = .ok (.invokestatic 119, 3) := by decide +kernel
theorem dX7_isSort_22 : decode cX7_isSort 22 = .ok (.ldc 90, 2) := by decide +kernel
theorem dX7_isSort_24 : decode cX7_isSort 24 = .ok (.if_icmp .eq 7, 3) := by decide +kernel
theorem dX7_isSort_27 : decode cX7_isSort 27 = .ok (.iconst 1, 1) := by decide +kernel
theorem dX7_isSort_28 : decode cX7_isSort 28 = .ok (.goto 4, 3) := by decide +kernel
theorem dX7_isSort_31 : decode cX7_isSort 31 = .ok (.iconst 0, 1) := by decide +kernel
theorem dX7_isSort_32 : decode cX7_isSort 32 = .ok (.ireturn, 1) := by decide +kernel
theorem dX7_readWind_0 : decode cX7_readWind 0 = .ok (.aload_n 0, 1) := by decide +kernel
theorem dX7_readWind_1 : decode cX7_readWind 1 = .ok (.bipush 103, 2) := by decide +kernel
theorem dX7_readWind_3 : decode cX7_readWind 3 = .ok (.invokevirtual 122, 3) := by decide +kernel
theorem dX7_readWind_6 : decode cX7_readWind 6 = .ok (.ifCond .eq 19, 3) := by decide +kernel
theorem dX7_readWind_9 : decode cX7_readWind 9 = .ok (.aload_n 0, 1) := by decide +kernel
theorem dX7_readWind_10 : decode cX7_readWind 10 = .ok (.getfield 22, 3) := by decide +kernel
theorem dX7_readWind_13 : decode cX7_readWind 13 = .ok (.iconst 1, 1) := by decide +kernel
theorem dX7_readWind_14 : decode cX7_readWind 14 = .ok (.iaload, 1) := by decide +kernel
theorem dX7_readWind_15 : decode cX7_readWind 15 = .ok (.bipush 6, 2) := by decide +kernel
theorem dX7_readWind_17 : decode cX7_readWind 17 = .ok (.if_icmp .ne 8, 3) := by decide +kernel
theorem dX7_readWind_20 : decode cX7_readWind 20 = .ok (.aload_n 0, 1) := by decide +kernel
theorem dX7_readWind_21 : decode cX7_readWind 21 = .ok (.iconst 3, 1) := by decide +kernel
theorem dX7_readWind_22 : decode cX7_readWind 22 = .ok (.invokevirtual 105, 3) := by decide +kernel
theorem dX7_readWind_25 : decode cX7_readWind 25 = .ok (.aload_n 0, 1) := by decide +kernel
theorem dX7_readWind_26 : decode cX7_readWind 26 = .ok (.aload_n 0, 1) := by decide +kernel
theorem dX7_readWind_27 : decode cX7_readWind 27 = .ok (.bipush 103, 2) := by decide +kernel
theorem dX7_readWind_29 : decode cX7_readWind 29 = .ok (.invokevirtual 122, 3) := by decide +kernel
theorem dX7_readWind_32 : decode cX7_readWind 32 = .ok (.invokevirtual 112, 3) := by decide +kernel
theorem dX7_readWind_35 : decode cX7_readWind 35 = .ok (.aload_n 0, 1) := by decide +kernel
theorem dX7_readWind_36 : decode cX7_readWind 36 = .ok (.iconst 0, 1) := by decide +kernel
theorem dX7_readWind_37 : decode cX7_readWind 37 = .ok (.iconst 4, 1) := by decide +kernel
theorem dX7_readWind_38 : decode cX7_readWind 38 = .ok (.invokevirtual 125, 3) := by decide +kernel
theorem dX7_readWind_41 : decode cX7_readWind 41 = .ok (.istore_n 1, 1) := by decide +kernel
theorem dX7_readWind_42 : decode cX7_readWind 42 = .ok (.aload_n 0, 1) := by decide +kernel
theorem dX7_readWind_43 : decode cX7_readWind 43 = .ok (.bipush 59, 2) := by decide +kernel
theorem dX7_readWind_45 : decode cX7_readWind 45 = .ok (.invokevirtual 129, 3) := by decide +kernel
theorem dX7_readWind_48 : decode cX7_readWind 48 = .ok (.aload_n 0, 1) := by decide +kernel
theorem dX7_readWind_49 : decode cX7_readWind 49 = .ok (.getfield 78, 3) := by decide +kernel
theorem dX7_readWind_52 : decode cX7_readWind 52 = .ok (.ifCond .ne 28, 3) := by decide +kernel
theorem dX7_readWind_55 : decode cX7_readWind 55 = .ok (.aload_n 0, 1) := by decide +kernel
theorem dX7_readWind_56 : decode cX7_readWind 56 = .ok (.getfield 22, 3) := by decide +kernel
theorem dX7_readWind_59 : decode cX7_readWind 59 = .ok (.bipush 8, 2) := by decide +kernel
theorem dX7_readWind_61 : decode cX7_readWind 61 = .ok (.aload_n 0, 1) := by decide +kernel
theorem dX7_readWind_62 : decode cX7_readWind 62 = .ok (.getfield 22, 3) := by decide +kernel
theorem dX7_readWind_65 : decode cX7_readWind 65 = .ok (.iconst 1, 1) := by decide +kernel
theorem dX7_readWind_66 : decode cX7_readWind 66 = .ok (.iaload, 1) := by decide +kernel
theorem dX7_readWind_67 : decode cX7_readWind 67 = .ok (.iadd, 1) := by decide +kernel
theorem dX7_readWind_68 : decode cX7_readWind 68 = .ok (.iload_n 1, 1) := by decide +kernel
theorem dX7_readWind_69 : decode cX7_readWind 69 = .ok (.iastore, 1) := by decide +kernel
theorem dX7_readWind_70 : decode cX7_readWind 70 = .ok (.aload_n 0, 1) := by decide +kernel
theorem dX7_readWind_71 : decode cX7_readWind 71 = .ok (.getfield 22, 3) := by decide +kernel
theorem dX7_readWind_74 : decode cX7_readWind 74 = .ok (.iconst 1, 1) := by decide +kernel
theorem dX7_readWind_75 : decode cX7_readWind 75 = .ok (.dup2, 1) := by decide +kernel
theorem dX7_readWind_76 : decode cX7_readWind 76 = .ok (.iaload, 1) := by decide +kernel
theorem dX7_readWind_77 : decode cX7_readWind 77 = .ok (.iconst 1, 1) := by decide +kernel
theorem dX7_readWind_78 : decode cX7_readWind 78 = .ok (.iadd, 1) := by decide +kernel
theorem dX7_readWind_79 : decode cX7_readWind 79 = .ok (.iastore, 1) := by decide +kernel
theorem dX7_readWind_80 : decode cX7_readWind 80 = .ok (.return_, 1) := by decide +kernel
theorem dX7_readSheet_0 : decode cX7_readSheet 0 = .ok (.aload_n 0, 1) := by decide +kernel
theorem dX7_readSheet_1 : decode cX7_readSheet 1 = .ok (.getfield 91, 3) := by decide +kernel
theorem dX7_readSheet_4 : decode cX7_readSheet 4 = .ok (.invokestatic 119, 3) := by decide +kernel
theorem dX7_readSheet_7 : decode cX7_readSheet 7 = .ok (.istore_n 1, 1) := by decide +kernel
theorem dX7_readSheet_8 : decode cX7_readSheet 8 = .ok (.aload_n 0, 1) := by decide +kernel
theorem dX7_readSheet_9 : decode cX7_readSheet 9 = .ok (.getfield 22, 3) := by decide +kernel
theorem dX7_readSheet_12 : decode cX7_readSheet 12 = .ok (.iconst 0, 1) := by decide +kernel
theorem dX7_readSheet_13 : decode cX7_readSheet 13 = .ok (.iaload, 1) := by decide +kernel
theorem dX7_readSheet_14 : decode cX7_readSheet 14 = .ok (.bipush 6, 2) := by decide +kernel
theorem dX7_readSheet_16 : decode cX7_readSheet 16 = .ok (.if_icmp .ne 8, 3) := by decide +kernel
theorem dX7_readSheet_19 : decode cX7_readSheet 19 = .ok (.aload_n 0, 1) := by decide +kernel
theorem dX7_readSheet_20 : decode cX7_readSheet 20 = .ok (.iconst 3, 1) := by decide +kernel
theorem dX7_readSheet_21 : decode cX7_readSheet 21 = .ok (.invokevirtual 105, 3) := by decide +kernel
theorem dX7_readSheet_24 : decode cX7_readSheet 24 = .ok (.aload_n 0, 1) := by decide +kernel
theorem dX7_readSheet_25 : decode cX7_readSheet 25 = .ok (.iconst 1, 1) := by decide +kernel
theorem dX7_readSheet_26 : decode cX7_readSheet 26 = .ok (.invokevirtual 112, 3) := by decide +kernel
theorem dX7_readSheet_29 : decode cX7_readSheet 29 = .ok (.aload_n 0, 1) := by decide +kernel
theorem dX7_readSheet_30 : decode cX7_readSheet 30 = .ok (.iconst 0, 1) := by decide +kernel
theorem dX7_readSheet_31 : decode cX7_readSheet 31 = .ok (.aload_n 0, 1) := by decide +kernel
theorem dX7_readSheet_32 : decode cX7_readSheet 32 = .ok (.getfield 22, 3) := by decide +kernel
theorem dX7_readSheet_35 : decode cX7_readSheet 35 = .ok (.iconst 2, 1) := by decide +kernel
theorem dX7_readSheet_36 : decode cX7_readSheet 36 = .ok (.iaload, 1) := by decide +kernel
theorem dX7_readSheet_37 : decode cX7_readSheet 37 = .ok (.iconst 1, 1) := by decide +kernel
theorem dX7_readSheet_38 : decode cX7_readSheet 38 = .ok (.isub, 1) := by decide +kernel
theorem dX7_readSheet_39 : decode cX7_readSheet 39 = .ok (.invokevirtual 125, 3) := by decide +kernel
theorem dX7_readSheet_42 : decode cX7_readSheet 42 = .ok (.istore_n 2, 1) := by decide +kernel
theorem dX7_readSheet_43 : decode cX7_readSheet 43 = .ok (.aload_n 0, 1) := by decide +kernel
theorem dX7_readSheet_44 : decode cX7_readSheet 44 = .ok (.bipush 44, 2) := by decide +kernel
theorem dX7_readSheet_46 : decode cX7_readSheet 46 = .ok (.invokevirtual 129, 3) := by decide +kernel
theorem dX7_readSheet_49 : decode cX7_readSheet 49 = .ok (.aload_n 0, 1) := by decide +kernel
theorem dX7_readSheet_50 : decode cX7_readSheet 50 = .ok (.iconst 1, 1) := by decide +kernel
theorem dX7_readSheet_51 : decode cX7_readSheet 51 = .ok (.iconst 5, 1) := by decide +kernel
theorem dX7_readSheet_52 : decode cX7_readSheet 52 = .ok (.invokevirtual 125, 3) := by decide +kernel
theorem dX7_readSheet_55 : decode cX7_readSheet 55 = .ok (.istore_n 3, 1) := by decide +kernel
theorem dX7_readSheet_56 : decode cX7_readSheet 56 = .ok (.aload_n 0, 1) := by decide +kernel
theorem dX7_readSheet_57 : decode cX7_readSheet 57 = .ok (.bipush 44, 2) := by decide +kernel
theorem dX7_readSheet_59 : decode cX7_readSheet 59 = .ok (.invokevirtual 129, 3) := by decide +kernel
theorem dX7_readSheet_62 : decode cX7_readSheet 62 = .ok (.aload_n 0, 1) := by decide +kernel
theorem dX7_readSheet_63 : decode cX7_readSheet 63 = .ok (.iconst 1, 1) := by decide +kernel
theorem dX7_readSheet_64 : decode cX7_readSheet 64 = .ok (.bipush 9, 2) := by decide +kernel
theorem dX7_readSheet_66 : decode cX7_readSheet 66 = .ok (.invokevirtual 125, 3) := by decide +kernel
theorem dX7_readSheet_69 : decode cX7_readSheet 69 = .ok (.istore 4, 2) := by decide +kernel
theorem dX7_readSheet_71 : decode cX7_readSheet 71 = .ok (.aload_n 0, 1) := by decide +kernel
theorem dX7_readSheet_72 : decode cX7_readSheet 72 = .ok (.bipush 59, 2) := by decide +kernel
theorem dX7_readSheet_74 : decode cX7_readSheet 74 = .ok (.invokevirtual 129, 3) := by decide +kernel
theorem dX7_readSheet_77 : decode cX7_readSheet 77 = .ok (.aload_n 0, 1) := by decide +kernel
theorem dX7_readSheet_78 : decode cX7_readSheet 78 = .ok (.getfield 78, 3) := by decide +kernel
theorem dX7_readSheet_81 : decode cX7_readSheet 81 = .ok (.ifCond .ne 86, 3) := by decide +kernel
theorem dX7_readSheet_84 : decode cX7_readSheet 84 = .ok (.bipush 14, 2) := by decide +kernel
theorem dX7_readSheet_86 : decode cX7_readSheet 86 = .ok (.bipush 6, 2) := by decide +kernel
theorem dX7_readSheet_88 : decode cX7_readSheet 88 = .ok (.aload_n 0, 1) := by decide +kernel
theorem dX7_readSheet_89 : decode cX7_readSheet 89 = .ok (.getfield 22, 3) := by decide +kernel
theorem dX7_readSheet_92 : decode cX7_readSheet 92 = .ok (.iconst 0, 1) := by decide +kernel
theorem dX7_readSheet_93 : decode cX7_readSheet 93 = .ok (.iaload, 1) := by decide +kernel
theorem dX7_readSheet_94 : decode cX7_readSheet 94 = .ok (.imul, 1) := by decide +kernel
theorem dX7_readSheet_95 : decode cX7_readSheet 95 = .ok (.iadd, 1) := by decide +kernel
theorem dX7_readSheet_96 : decode cX7_readSheet 96 = .ok (.istore 5, 2) := by decide +kernel
theorem dX7_readSheet_98 : decode cX7_readSheet 98 = .ok (.aload_n 0, 1) := by decide +kernel
theorem dX7_readSheet_99 : decode cX7_readSheet 99 = .ok (.getfield 22, 3) := by decide +kernel
theorem dX7_readSheet_102 : decode cX7_readSheet 102 = .ok (.iload 5, 2) := by decide +kernel
theorem dX7_readSheet_104 : decode cX7_readSheet 104 = .ok (.iload_n 1, 1) := by decide +kernel
theorem dX7_readSheet_105 : decode cX7_readSheet 105 = .ok (.iastore, 1) := by decide +kernel
theorem dX7_readSheet_106 : decode cX7_readSheet 106 = .ok (.aload_n 0, 1) := by decide +kernel
theorem dX7_readSheet_107 : decode cX7_readSheet 107 = .ok (.getfield 22, 3) := by decide +kernel
theorem dX7_readSheet_110 : decode cX7_readSheet 110 = .ok (.iload 5, 2) := by decide +kernel
theorem dX7_readSheet_112 : decode cX7_readSheet 112 = .ok (.iconst 1, 1) := by decide +kernel
theorem dX7_readSheet_113 : decode cX7_readSheet 113 = .ok (.iadd, 1) := by decide +kernel
theorem dX7_readSheet_114 : decode cX7_readSheet 114 = .ok (.iload_n 2, 1) := by decide +kernel
theorem dX7_readSheet_115 : decode cX7_readSheet 115 = .ok (.iastore, 1) := by decide +kernel
theorem dX7_readSheet_116 : decode cX7_readSheet 116 = .ok (.aload_n 0, 1) := by decide +kernel
theorem dX7_readSheet_117 : decode cX7_readSheet 117 = .ok (.getfield 22, 3) := by decide +kernel
theorem dX7_readSheet_120 : decode cX7_readSheet 120 = .ok (.iload 5, 2) := by decide +kernel
theorem dX7_readSheet_122 : decode cX7_readSheet 122 = .ok (.iconst 2, 1) := by decide +kernel
theorem dX7_readSheet_123 : decode cX7_readSheet 123 = .ok (.iadd, 1) := by decide +kernel
theorem dX7_readSheet_124 : decode cX7_readSheet 124 = .ok (.iload_n 3, 1) := by decide +kernel
theorem dX7_readSheet_125 : decode cX7_readSheet 125 = .ok (.iastore, 1) := by decide +kernel
theorem dX7_readSheet_126 : decode cX7_readSheet 126 = .ok (.aload_n 0, 1) := by decide +kernel
theorem dX7_readSheet_127 : decode cX7_readSheet 127 = .ok (.getfield 22, 3) := by decide +kernel
theorem dX7_readSheet_130 : decode cX7_readSheet 130 = .ok (.iload 5, 2) := by decide +kernel
theorem dX7_readSheet_132 : decode cX7_readSheet 132 = .ok (.iconst 3, 1) := by decide +kernel
theorem dX7_readSheet_133 : decode cX7_readSheet 133 = .ok (.iadd, 1) := by decide +kernel
theorem dX7_readSheet_134 : decode cX7_readSheet 134 = .ok (.iload 4, 2) := by decide +kernel
theorem dX7_readSheet_136 : decode cX7_readSheet 136 = .ok (.iastore, 1) := by decide +kernel
theorem dX7_readSheet_137 : decode cX7_readSheet 137 = .ok (.aload_n 0, 1) := by decide +kernel
theorem dX7_readSheet_138 : decode cX7_readSheet 138 = .ok (.getfield 22, 3) := by decide +kernel
theorem dX7_readSheet_141 : decode cX7_readSheet 141 = .ok (.iload 5, 2) := by decide +kernel
theorem dX7_readSheet_143 : decode cX7_readSheet 143 = .ok (.iconst 4, 1) := by decide +kernel
theorem dX7_readSheet_144 : decode cX7_readSheet 144 = .ok (.iadd, 1) := by decide +kernel
theorem dX7_readSheet_145 : decode cX7_readSheet 145 = .ok (.iconst 0, 1) := by decide +kernel
theorem dX7_readSheet_146 : decode cX7_readSheet 146 = .ok (.iastore, 1) := by decide +kernel
theorem dX7_readSheet_147 : decode cX7_readSheet 147 = .ok (.aload_n 0, 1) := by decide +kernel
theorem dX7_readSheet_148 : decode cX7_readSheet 148 = .ok (.getfield 22, 3) := by decide +kernel
theorem dX7_readSheet_151 : decode cX7_readSheet 151 = .ok (.iload 5, 2) := by decide +kernel
theorem dX7_readSheet_153 : decode cX7_readSheet 153 = .ok (.iconst 5, 1) := by decide +kernel
theorem dX7_readSheet_154 : decode cX7_readSheet 154 = .ok (.iadd, 1) := by decide +kernel
theorem dX7_readSheet_155 : decode cX7_readSheet 155 = .ok (.iconst 1, 1) := by decide +kernel
theorem dX7_readSheet_156 : decode cX7_readSheet 156 = .ok (.iastore, 1) := by decide +kernel
theorem dX7_readSheet_157 : decode cX7_readSheet 157 = .ok (.aload_n 0, 1) := by decide +kernel
theorem dX7_readSheet_158 : decode cX7_readSheet 158 = .ok (.getfield 22, 3) := by decide +kernel
theorem dX7_readSheet_161 : decode cX7_readSheet 161 = .ok (.iconst 0, 1) := by decide +kernel
theorem dX7_readSheet_162 : decode cX7_readSheet 162 = .ok (.dup2, 1) := by decide +kernel
theorem dX7_readSheet_163 : decode cX7_readSheet 163 = .ok (.iaload, 1) := by decide +kernel
theorem dX7_readSheet_164 : decode cX7_readSheet 164 = .ok (.iconst 1, 1) := by decide +kernel
theorem dX7_readSheet_165 : decode cX7_readSheet 165 = .ok (.iadd, 1) := by decide +kernel
theorem dX7_readSheet_166 : decode cX7_readSheet 166 = .ok (.iastore, 1) := by decide +kernel
theorem dX7_readSheet_167 : decode cX7_readSheet 167 = .ok (.return_, 1) := by decide +kernel
theorem dX7_estuary_0 : decode cX7_estuary 0 = .ok (.aload_n 0, 1) := by decide +kernel
theorem dX7_estuary_1 : decode cX7_estuary 1 = .ok (.iconst 0, 1) := by decide +kernel
theorem dX7_estuary_2 : decode cX7_estuary 2 = .ok (.putfield 47, 3) := by decide +kernel
theorem dX7_estuary_5 : decode cX7_estuary 5 = .ok (.aload_n 0, 1) := by decide +kernel
theorem dX7_estuary_6 : decode cX7_estuary 6 = .ok (.invokevirtual 132, 3) := by decide +kernel
theorem dX7_estuary_9 : decode cX7_estuary 9 = .ok (.iconst 0, 1) := by decide +kernel
theorem dX7_estuary_10 : decode cX7_estuary 10 = .ok (.istore_n 1, 1) := by decide +kernel
theorem dX7_estuary_11 : decode cX7_estuary 11 = .ok (.iload_n 1, 1) := by decide +kernel
theorem dX7_estuary_12 : decode cX7_estuary 12 = .ok (.bipush 50, 2) := by decide +kernel
theorem dX7_estuary_14 : decode cX7_estuary 14 = .ok (.if_icmp .ge 16, 3) := by decide +kernel
theorem dX7_estuary_17 : decode cX7_estuary 17 = .ok (.aload_n 0, 1) := by decide +kernel
theorem dX7_estuary_18 : decode cX7_estuary 18 = .ok (.getfield 22, 3) := by decide +kernel
theorem dX7_estuary_21 : decode cX7_estuary 21 = .ok (.iload_n 1, 1) := by decide +kernel
theorem dX7_estuary_22 : decode cX7_estuary 22 = .ok (.iconst 0, 1) := by decide +kernel
theorem dX7_estuary_23 : decode cX7_estuary 23 = .ok (.iastore, 1) := by decide +kernel
theorem dX7_estuary_24 : decode cX7_estuary 24 = .ok (.iinc 1 1, 3) := by decide +kernel
theorem dX7_estuary_27 : decode cX7_estuary 27 = .ok (.goto (-16), 3) := by decide +kernel
theorem dX7_estuary_30 : decode cX7_estuary 30 = .ok (.aload_n 0, 1) := by decide +kernel
theorem dX7_estuary_31 : decode cX7_estuary 31 = .ok (.aload_n 0, 1) := by decide +kernel
theorem dX7_estuary_32 : decode cX7_estuary 32 = .ok (.bipush 101, 2) := by decide +kernel
theorem dX7_estuary_34 : decode cX7_estuary 34 = .ok (.invokevirtual 122, 3) := by decide +kernel
theorem dX7_estuary_37 : decode cX7_estuary 37 = .ok (.invokevirtual 112, 3) := by decide +kernel
theorem dX7_estuary_40 : decode cX7_estuary 40 = .ok (.aload_n 0, 1) := by decide +kernel
theorem dX7_estuary_41 : decode cX7_estuary 41 = .ok (.getfield 22, 3) := by decide +kernel
theorem dX7_estuary_44 : decode cX7_estuary 44 = .ok (.iconst 2, 1) := by decide +kernel
theorem dX7_estuary_45 : decode cX7_estuary 45 = .ok (.aload_n 0, 1) := by decide +kernel
theorem dX7_estuary_46 : decode cX7_estuary 46 = .ok (.bipush 6, 2) := by decide +kernel
theorem dX7_estuary_48 : decode cX7_estuary 48 = .ok (.bipush 16, 2) := by decide +kernel
theorem dX7_estuary_50 : decode cX7_estuary 50 = .ok (.invokevirtual 125, 3) := by decide +kernel
theorem dX7_estuary_53 : decode cX7_estuary 53 = .ok (.iastore, 1) := by decide +kernel
theorem dX7_estuary_54 : decode cX7_estuary 54 = .ok (.aload_n 0, 1) := by decide +kernel
theorem dX7_estuary_55 : decode cX7_estuary 55 = .ok (.bipush 44, 2) := by decide +kernel
theorem dX7_estuary_57 : decode cX7_estuary 57 = .ok (.invokevirtual 129, 3) := by decide +kernel
theorem dX7_estuary_60 : decode cX7_estuary 60 = .ok (.aload_n 0, 1) := by decide +kernel
theorem dX7_estuary_61 : decode cX7_estuary 61 = .ok (.getfield 22, 3) := by decide +kernel
theorem dX7_estuary_64 : decode cX7_estuary 64 = .ok (.iconst 3, 1) := by decide +kernel
theorem dX7_estuary_65 : decode cX7_estuary 65 = .ok (.aload_n 0, 1) := by decide +kernel
theorem dX7_estuary_66 : decode cX7_estuary 66 = .ok (.iconst 0, 1) := by decide +kernel
theorem dX7_estuary_67 : decode cX7_estuary 67 = .ok (.aload_n 0, 1) := by decide +kernel
theorem dX7_estuary_68 : decode cX7_estuary 68 = .ok (.getfield 22, 3) := by decide +kernel
theorem dX7_estuary_71 : decode cX7_estuary 71 = .ok (.iconst 2, 1) := by decide +kernel
theorem dX7_estuary_72 : decode cX7_estuary 72 = .ok (.iaload, 1) := by decide +kernel
theorem dX7_estuary_73 : decode cX7_estuary 73 = .ok (.iconst 1, 1) := by decide +kernel
theorem dX7_estuary_74 : decode cX7_estuary 74 = .ok (.isub, 1) := by decide +kernel
theorem dX7_estuary_75 : decode cX7_estuary 75 = .ok (.invokevirtual 125, 3) := by decide +kernel
theorem dX7_estuary_78 : decode cX7_estuary 78 = .ok (.iastore, 1) := by decide +kernel
theorem dX7_estuary_79 : decode cX7_estuary 79 = .ok (.aload_n 0, 1) := by decide +kernel
theorem dX7_estuary_80 : decode cX7_estuary 80 = .ok (.bipush 44, 2) := by decide +kernel
theorem dX7_estuary_82 : decode cX7_estuary 82 = .ok (.invokevirtual 129, 3) := by decide +kernel
theorem dX7_estuary_85 : decode cX7_estuary 85 = .ok (.aload_n 0, 1) := by decide +kernel
theorem dX7_estuary_86 : decode cX7_estuary 86 = .ok (.getfield 22, 3) := by decide +kernel
theorem dX7_estuary_89 : decode cX7_estuary 89 = .ok (.iconst 4, 1) := by decide +kernel
theorem dX7_estuary_90 : decode cX7_estuary 90 = .ok (.aload_n 0, 1) := by decide +kernel
theorem dX7_estuary_91 : decode cX7_estuary 91 = .ok (.iconst 0, 1) := by decide +kernel
theorem dX7_estuary_92 : decode cX7_estuary 92 = .ok (.aload_n 0, 1) := by decide +kernel
theorem dX7_estuary_93 : decode cX7_estuary 93 = .ok (.getfield 22, 3) := by decide +kernel
theorem dX7_estuary_96 : decode cX7_estuary 96 = .ok (.iconst 2, 1) := by decide +kernel
theorem dX7_estuary_97 : decode cX7_estuary 97 = .ok (.iaload, 1) := by decide +kernel
theorem dX7_estuary_98 : decode cX7_estuary 98 = .ok (.iconst 1, 1) := by decide +kernel
theorem dX7_estuary_99 : decode cX7_estuary 99 = .ok (.isub, 1) := by decide +kernel
theorem dX7_estuary_100 : decode cX7_estuary 100 = .ok (.invokevirtual 125, 3) := by decide +kernel
theorem dX7_estuary_103 : decode cX7_estuary 103 = .ok (.iastore, 1) := by decide +kernel
theorem dX7_estuary_104 : decode cX7_estuary 104 = .ok (.aload_n 0, 1) := by decide +kernel
theorem dX7_estuary_105 : decode cX7_estuary 105 = .ok (.bipush 44, 2) := by decide +kernel
theorem dX7_estuary_107 : decode cX7_estuary 107 = .ok (.invokevirtual 129, 3) := by decide +kernel
theorem dX7_estuary_110 : decode cX7_estuary 110 = .ok (.aload_n 0, 1) := by decide +kernel
theorem dX7_estuary_111 : decode cX7_estuary 111 = .ok (.getfield 22, 3) := by decide +kernel
theorem dX7_estuary_114 : decode cX7_estuary 114 = .ok (.iconst 5, 1) := by decide +kernel
theorem dX7_estuary_115 : decode cX7_estuary 115 = .ok (.aload_n 0, 1) := by decide +kernel
theorem dX7_estuary_116 : decode cX7_estuary 116 = .ok (.iconst 0, 1) := by decide +kernel
theorem dX7_estuary_117 : decode cX7_estuary 117 = .ok (.bipush 15, 2) := by decide +kernel
theorem dX7_estuary_119 : decode cX7_estuary 119 = .ok (.invokevirtual 125, 3) := by decide +kernel
theorem dX7_estuary_122 : decode cX7_estuary 122 = .ok (.iastore, 1) := by decide +kernel
theorem dX7_estuary_123 : decode cX7_estuary 123 = .ok (.aload_n 0, 1) := by decide +kernel
theorem dX7_estuary_124 : decode cX7_estuary 124 = .ok (.bipush 59, 2) := by decide +kernel
theorem dX7_estuary_126 : decode cX7_estuary 126 = .ok (.invokevirtual 129, 3) := by decide +kernel
theorem dX7_estuary_129 : decode cX7_estuary 129 = .ok (.aload_n 0, 1) := by decide +kernel
theorem dX7_estuary_130 : decode cX7_estuary 130 = .ok (.invokevirtual 135, 3) := by decide +kernel
theorem dX7_estuary_133 : decode cX7_estuary 133 = .ok (.aload_n 0, 1) := by decide +kernel
theorem dX7_estuary_134 : decode cX7_estuary 134 = .ok (.bipush 103, 2) := by decide +kernel
theorem dX7_estuary_136 : decode cX7_estuary 136 = .ok (.invokevirtual 122, 3) := by decide +kernel
theorem dX7_estuary_139 : decode cX7_estuary 139 = .ok (.ifCond .eq 10, 3) := by decide +kernel
theorem dX7_estuary_142 : decode cX7_estuary 142 = .ok (.aload_n 0, 1) := by decide +kernel
theorem dX7_estuary_143 : decode cX7_estuary 143 = .ok (.invokevirtual 135, 3) := by decide +kernel
theorem dX7_estuary_146 : decode cX7_estuary 146 = .ok (.goto (-13), 3) := by decide +kernel
theorem dX7_estuary_149 : decode cX7_estuary 149 = .ok (.aload_n 0, 1) := by decide +kernel
theorem dX7_estuary_150 : decode cX7_estuary 150 = .ok (.invokevirtual 138, 3) := by decide +kernel
theorem dX7_estuary_153 : decode cX7_estuary 153 = .ok (.ifCond .ne 8, 3) := by decide +kernel
theorem dX7_estuary_156 : decode cX7_estuary 156 = .ok (.aload_n 0, 1) := by decide +kernel
theorem dX7_estuary_157 : decode cX7_estuary 157 = .ok (.iconst 1, 1) := by decide +kernel
theorem dX7_estuary_158 : decode cX7_estuary 158 = .ok (.invokevirtual 105, 3) := by decide +kernel
theorem dX7_estuary_161 : decode cX7_estuary 161 = .ok (.aload_n 0, 1) := by decide +kernel
theorem dX7_estuary_162 : decode cX7_estuary 162 = .ok (.invokevirtual 138, 3) := by decide +kernel
theorem dX7_estuary_165 : decode cX7_estuary 165 = .ok (.ifCond .eq 10, 3) := by decide +kernel
theorem dX7_estuary_168 : decode cX7_estuary 168 = .ok (.aload_n 0, 1) := by decide +kernel
theorem dX7_estuary_169 : decode cX7_estuary 169 = .ok (.invokevirtual 142, 3) := by decide +kernel
theorem dX7_estuary_172 : decode cX7_estuary 172 = .ok (.goto (-11), 3) := by decide +kernel
theorem dX7_estuary_175 : decode cX7_estuary 175 = .ok (.aload_n 0, 1) := by decide +kernel
theorem dX7_estuary_176 : decode cX7_estuary 176 = .ok (.invokevirtual 145, 3) := by decide +kernel
theorem dX7_estuary_179 : decode cX7_estuary 179 = .ok (.ifCond .eq 11, 3) := by decide +kernel
theorem dX7_estuary_182 : decode cX7_estuary 182 = .ok (.ldc 148, 2) := by decide +kernel
theorem dX7_estuary_184 : decode cX7_estuary 184 = .ok (.aload_n 0, 1) := by decide +kernel
theorem dX7_estuary_185 : decode cX7_estuary 185 = .ok (.getfield 84, 3) := by decide +kernel
theorem dX7_estuary_188 : decode cX7_estuary 188 = .ok (.isub, 1) := by decide +kernel
theorem dX7_estuary_189 : decode cX7_estuary 189 = .ok (.ireturn, 1) := by decide +kernel
theorem dX7_estuary_190 : decode cX7_estuary 190 = .ok (.aload_n 0, 1) := by decide +kernel
theorem dX7_estuary_191 : decode cX7_estuary 191 = .ok (.iconst 0, 1) := by decide +kernel
theorem dX7_estuary_192 : decode cX7_estuary 192 = .ok (.putfield 149, 3) := by decide +kernel
theorem dX7_estuary_195 : decode cX7_estuary 195 = .ok (.iconst 0, 1) := by decide +kernel
theorem dX7_estuary_196 : decode cX7_estuary 196 = .ok (.istore_n 1, 1) := by decide +kernel
theorem dX7_estuary_197 : decode cX7_estuary 197 = .ok (.iload_n 1, 1) := by decide +kernel
theorem dX7_estuary_198 : decode cX7_estuary 198 = .ok (.bipush 50, 2) := by decide +kernel
theorem dX7_estuary_200 : decode cX7_estuary 200 = .ok (.if_icmp .ge 21, 3) := by decide +kernel
theorem dX7_estuary_203 : decode cX7_estuary 203 = .ok (.aload_n 0, 1) := by decide +kernel
theorem dX7_estuary_204 : decode cX7_estuary 204 = .ok (.getfield 19, 3) := by decide +kernel
theorem dX7_estuary_207 : decode cX7_estuary 207 = .ok (.iload_n 1, 1) := by decide +kernel
theorem dX7_estuary_208 : decode cX7_estuary 208 = .ok (.aload_n 0, 1) := by decide +kernel
theorem dX7_estuary_209 : decode cX7_estuary 209 = .ok (.getfield 22, 3) := by decide +kernel
theorem dX7_estuary_212 : decode cX7_estuary 212 = .ok (.iload_n 1, 1) := by decide +kernel
theorem dX7_estuary_213 : decode cX7_estuary 213 = .ok (.iaload, 1) := by decide +kernel
theorem dX7_estuary_214 : decode cX7_estuary 214 = .ok (.iastore, 1) := by decide +kernel
theorem dX7_estuary_215 : decode cX7_estuary 215 = .ok (.iinc 1 1, 3) := by decide +kernel
theorem dX7_estuary_218 : decode cX7_estuary 218 = .ok (.goto (-21), 3) := by decide +kernel
theorem dX7_estuary_221 : decode cX7_estuary 221 = .ok (.aload_n 0, 1) := by decide +kernel
theorem dX7_estuary_222 : decode cX7_estuary 222 = .ok (.getfield 19, 3) := by decide +kernel
theorem dX7_estuary_225 : decode cX7_estuary 225 = .ok (.iconst 0, 1) := by decide +kernel
theorem dX7_estuary_226 : decode cX7_estuary 226 = .ok (.iaload, 1) := by decide +kernel
theorem dX7_estuary_227 : decode cX7_estuary 227 = .ok (.ireturn, 1) := by decide +kernel
theorem dX7_isThere_0 : decode cX7_isThere 0 = .ok (.aload_n 0, 1) := by decide +kernel
theorem dX7_isThere_1 : decode cX7_isThere 1 = .ok (.getfield 19, 3) := by decide +kernel
theorem dX7_isThere_4 : decode cX7_isThere 4 = .ok (.iconst 0, 1) := by decide +kernel
theorem dX7_isThere_5 : decode cX7_isThere 5 = .ok (.iaload, 1) := by decide +kernel
theorem dX7_isThere_6 : decode cX7_isThere 6 = .ok (.ifCond .le 7, 3) := by decide +kernel
theorem dX7_isThere_9 : decode cX7_isThere 9 = .ok (.iconst 1, 1) := by decide +kernel
theorem dX7_isThere_10 : decode cX7_isThere 10 = .ok (.goto 4, 3) := by decide +kernel
theorem dX7_isThere_13 : decode cX7_isThere 13 = .ok (.iconst 0, 1) := by decide +kernel
theorem dX7_isThere_14 : decode cX7_isThere 14 = .ok (.ireturn, 1) := by decide +kernel
theorem dX7_isSheet_0 : decode cX7_isSheet 0 = .ok (.iload_n 1, 1) := by decide +kernel
theorem dX7_isSheet_1 : decode cX7_isSheet 1 = .ok (.i2l, 1) := by decide +kernel
theorem dX7_isSheet_2 : decode cX7_isSheet 2 = .ok (.lconst 0, 1) := by decide +kernel
theorem dX7_isSheet_3 : decode cX7_isSheet 3 = .ok (.aload_n 0, 1) := by decide +kernel
theorem dX7_isSheet_4 : decode cX7_isSheet 4 = .ok (.getfield 19, 3) := by decide +kernel
theorem dX7_isSheet_7 : decode cX7_isSheet 7 = .ok (.iconst 0, 1) := by decide +kernel
theorem dX7_isSheet_8 : decode cX7_isSheet 8 = .ok (.iaload, 1) := by decide +kernel
theorem dX7_isSheet_9 : decode cX7_isSheet 9 = .ok (.iconst 1, 1) := by decide +kernel
theorem dX7_isSheet_10 : decode cX7_isSheet 10 = .ok (.isub, 1) := by decide +kernel
theorem dX7_isSheet_11 : decode cX7_isSheet 11 = .ok (.i2l, 1) := by decide +kernel
theorem dX7_isSheet_12 : decode cX7_isSheet 12 = .ok (.invokestatic 57, 3) := by decide +kernel
theorem dX7_isSheet_15 : decode cX7_isSheet 15 = .ok (.ireturn, 1) := by decide +kernel
theorem dX7_isWind_0 : decode cX7_isWind 0 = .ok (.iload_n 1, 1) := by decide +kernel
theorem dX7_isWind_1 : decode cX7_isWind 1 = .ok (.i2l, 1) := by decide +kernel
theorem dX7_isWind_2 : decode cX7_isWind 2 = .ok (.lconst 0, 1) := by decide +kernel
theorem dX7_isWind_3 : decode cX7_isWind 3 = .ok (.aload_n 0, 1) := by decide +kernel
theorem dX7_isWind_4 : decode cX7_isWind 4 = .ok (.getfield 19, 3) := by decide +kernel
theorem dX7_isWind_7 : decode cX7_isWind 7 = .ok (.iconst 1, 1) := by decide +kernel
theorem dX7_isWind_8 : decode cX7_isWind 8 = .ok (.iaload, 1) := by decide +kernel
theorem dX7_isWind_9 : decode cX7_isWind 9 = .ok (.iconst 1, 1) := by decide +kernel
theorem dX7_isWind_10 : decode cX7_isWind 10 = .ok (.isub, 1) := by decide +kernel
theorem dX7_isWind_11 : decode cX7_isWind 11 = .ok (.i2l, 1) := by decide +kernel
theorem dX7_isWind_12 : decode cX7_isWind 12 = .ok (.invokestatic 57, 3) := by decide +kernel
theorem dX7_isWind_15 : decode cX7_isWind 15 = .ok (.ireturn, 1) := by decide +kernel
theorem dX7_isCell_0 : decode cX7_isCell 0 = .ok (.iload_n 1, 1) := by decide +kernel
theorem dX7_isCell_1 : decode cX7_isCell 1 = .ok (.i2l, 1) := by decide +kernel
theorem dX7_isCell_2 : decode cX7_isCell 2 = .ok (.lconst 0, 1) := by decide +kernel
theorem dX7_isCell_3 : decode cX7_isCell 3 = .ok (.aload_n 0, 1) := by decide +kernel
theorem dX7_isCell_4 : decode cX7_isCell 4 = .ok (.getfield 19, 3) := by decide +kernel
theorem dX7_isCell_7 : decode cX7_isCell 7 = .ok (.iconst 2, 1) := by decide +kernel
theorem dX7_isCell_8 : decode cX7_isCell 8 = .ok (.iaload, 1) := by decide +kernel
theorem dX7_isCell_9 : decode cX7_isCell 9 = .ok (.iconst 1, 1) := by decide +kernel
theorem dX7_isCell_10 : decode cX7_isCell 10 = .ok (.isub, 1) := by decide +kernel
theorem dX7_isCell_11 : decode cX7_isCell 11 = .ok (.i2l, 1) := by decide +kernel
theorem dX7_isCell_12 : decode cX7_isCell 12 = .ok (.invokestatic 57, 3) := by decide +kernel
theorem dX7_isCell_15 : decode cX7_isCell 15 = .ok (.ireturn, 1) := by decide +kernel
theorem dX7_bits_0 : decode cX7_bits 0 = .ok (.iconst 0, 1) := by decide +kernel
theorem dX7_bits_1 : decode cX7_bits 1 = .ok (.istore_n 1, 1) := by decide +kernel
theorem dX7_bits_2 : decode cX7_bits 2 = .ok (.iconst 0, 1) := by decide +kernel
theorem dX7_bits_3 : decode cX7_bits 3 = .ok (.istore_n 2, 1) := by decide +kernel
theorem dX7_bits_4 : decode cX7_bits 4 = .ok (.iload_n 2, 1) := by decide +kernel
theorem dX7_bits_5 : decode cX7_bits 5 = .ok (.bipush 6, 2) := by decide +kernel
theorem dX7_bits_7 : decode cX7_bits 7 = .ok (.if_icmp .ge 17, 3) := by decide +kernel
theorem dX7_bits_10 : decode cX7_bits 10 = .ok (.iload_n 1, 1) := by decide +kernel
theorem dX7_bits_11 : decode cX7_bits 11 = .ok (.iload_n 0, 1) := by decide +kernel
theorem dX7_bits_12 : decode cX7_bits 12 = .ok (.iload_n 2, 1) := by decide +kernel
theorem dX7_bits_13 : decode cX7_bits 13 = .ok (.ishr, 1) := by decide +kernel
theorem dX7_bits_14 : decode cX7_bits 14 = .ok (.iconst 1, 1) := by decide +kernel
theorem dX7_bits_15 : decode cX7_bits 15 = .ok (.iand, 1) := by decide +kernel
theorem dX7_bits_16 : decode cX7_bits 16 = .ok (.iadd, 1) := by decide +kernel
theorem dX7_bits_17 : decode cX7_bits 17 = .ok (.istore_n 1, 1) := by decide +kernel
theorem dX7_bits_18 : decode cX7_bits 18 = .ok (.iinc 2 1, 3) := by decide +kernel
theorem dX7_bits_21 : decode cX7_bits 21 = .ok (.goto (-17), 3) := by decide +kernel
theorem dX7_bits_24 : decode cX7_bits 24 = .ok (.iload_n 1, 1) := by decide +kernel
theorem dX7_bits_25 : decode cX7_bits 25 = .ok (.ireturn, 1) := by decide +kernel
theorem dX7_has_0 : decode cX7_has 0 = .ok (.iload_n 0, 1) := by decide +kernel
theorem dX7_has_1 : decode cX7_has 1 = .ok (.iload_n 1, 1) := by decide +kernel
theorem dX7_has_2 : decode cX7_has 2 = .ok (.ishr, 1) := by decide +kernel
theorem dX7_has_3 : decode cX7_has 3 = .ok (.iconst 1, 1) := by decide +kernel
theorem dX7_has_4 : decode cX7_has 4 = .ok (.iand, 1) := by decide +kernel
theorem dX7_has_5 : decode cX7_has 5 = .ok (.iconst 1, 1) := by decide +kernel
theorem dX7_has_6 : decode cX7_has 6 = .ok (.if_icmp .ne 7, 3) := by decide +kernel
theorem dX7_has_9 : decode cX7_has 9 = .ok (.iconst 1, 1) := by decide +kernel
theorem dX7_has_10 : decode cX7_has 10 = .ok (.goto 4, 3) := by decide +kernel
theorem dX7_has_13 : decode cX7_has 13 = .ok (.iconst 0, 1) := by decide +kernel
theorem dX7_has_14 : decode cX7_has 14 = .ok (.ireturn, 1) := by decide +kernel
theorem dX7_of_0 : decode cX7_of 0 = .ok (.aload_n 0, 1) := by decide +kernel
theorem dX7_of_1 : decode cX7_of 1 = .ok (.bipush 14, 2) := by decide +kernel
theorem dX7_of_3 : decode cX7_of 3 = .ok (.bipush 6, 2) := by decide +kernel
theorem dX7_of_5 : decode cX7_of 5 = .ok (.iload_n 1, 1) := by decide +kernel
theorem dX7_of_6 : decode cX7_of 6 = .ok (.imul, 1) := by decide +kernel
theorem dX7_of_7 : decode cX7_of 7 = .ok (.iadd, 1) := by decide +kernel
theorem dX7_of_8 : decode cX7_of 8 = .ok (.iload_n 2, 1) := by decide +kernel
theorem dX7_of_9 : decode cX7_of 9 = .ok (.iadd, 1) := by decide +kernel
theorem dX7_of_10 : decode cX7_of 10 = .ok (.iaload, 1) := by decide +kernel
theorem dX7_of_11 : decode cX7_of 11 = .ok (.ireturn, 1) := by decide +kernel
theorem dX7_be_0 : decode cX7_be 0 = .ok (.aload_n 0, 1) := by decide +kernel
theorem dX7_be_1 : decode cX7_be 1 = .ok (.bipush 14, 2) := by decide +kernel
theorem dX7_be_3 : decode cX7_be 3 = .ok (.bipush 6, 2) := by decide +kernel
theorem dX7_be_5 : decode cX7_be 5 = .ok (.iload_n 1, 1) := by decide +kernel
theorem dX7_be_6 : decode cX7_be 6 = .ok (.imul, 1) := by decide +kernel
theorem dX7_be_7 : decode cX7_be 7 = .ok (.iadd, 1) := by decide +kernel
theorem dX7_be_8 : decode cX7_be 8 = .ok (.iload_n 2, 1) := by decide +kernel
theorem dX7_be_9 : decode cX7_be 9 = .ok (.iadd, 1) := by decide +kernel
theorem dX7_be_10 : decode cX7_be 10 = .ok (.iload_n 3, 1) := by decide +kernel
theorem dX7_be_11 : decode cX7_be 11 = .ok (.iastore, 1) := by decide +kernel
theorem dX7_be_12 : decode cX7_be 12 = .ok (.return_, 1) := by decide +kernel
theorem dX7_isIn_0 : decode cX7_isIn 0 = .ok (.aload_n 0, 1) := by decide +kernel
theorem dX7_isIn_1 : decode cX7_isIn 1 = .ok (.iload_n 1, 1) := by decide +kernel
theorem dX7_isIn_2 : decode cX7_isIn 2 = .ok (.iconst 5, 1) := by decide +kernel
theorem dX7_isIn_3 : decode cX7_isIn 3 = .ok (.invokestatic 152, 3) := by decide +kernel
theorem dX7_isIn_6 : decode cX7_isIn 6 = .ok (.iconst 1, 1) := by decide +kernel
theorem dX7_isIn_7 : decode cX7_isIn 7 = .ok (.if_icmp .ne 7, 3) := by decide +kernel
theorem dX7_isIn_10 : decode cX7_isIn 10 = .ok (.iconst 1, 1) := by decide +kernel
theorem dX7_isIn_11 : decode cX7_isIn 11 = .ok (.goto 4, 3) := by decide +kernel
theorem dX7_isIn_14 : decode cX7_isIn 14 = .ok (.iconst 0, 1) := by decide +kernel
theorem dX7_isIn_15 : decode cX7_isIn 15 = .ok (.ireturn, 1) := by decide +kernel
theorem dX7_windOf_0 : decode cX7_windOf 0 = .ok (.aload_n 0, 1) := by decide +kernel
theorem dX7_windOf_1 : decode cX7_windOf 1 = .ok (.bipush 8, 2) := by decide +kernel
theorem dX7_windOf_3 : decode cX7_windOf 3 = .ok (.aload_n 0, 1) := by decide +kernel
theorem dX7_windOf_4 : decode cX7_windOf 4 = .ok (.bipush 6, 2) := by decide +kernel
theorem dX7_windOf_6 : decode cX7_windOf 6 = .ok (.iaload, 1) := by decide +kernel
theorem dX7_windOf_7 : decode cX7_windOf 7 = .ok (.aload_n 0, 1) := by decide +kernel
theorem dX7_windOf_8 : decode cX7_windOf 8 = .ok (.iconst 1, 1) := by decide +kernel
theorem dX7_windOf_9 : decode cX7_windOf 9 = .ok (.iaload, 1) := by decide +kernel
theorem dX7_windOf_10 : decode cX7_windOf 10 = .ok (.irem, 1) := by decide +kernel
theorem dX7_windOf_11 : decode cX7_windOf 11 = .ok (.iadd, 1) := by decide +kernel
theorem dX7_windOf_12 : decode cX7_windOf 12 = .ok (.iaload, 1) := by decide +kernel
theorem dX7_windOf_13 : decode cX7_windOf 13 = .ok (.ireturn, 1) := by decide +kernel
theorem dX7_cellsOf_0 : decode cX7_cellsOf 0 = .ok (.iconst 0, 1) := by decide +kernel
theorem dX7_cellsOf_1 : decode cX7_cellsOf 1 = .ok (.istore_n 3, 1) := by decide +kernel
theorem dX7_cellsOf_2 : decode cX7_cellsOf 2 = .ok (.iconst 0, 1) := by decide +kernel
theorem dX7_cellsOf_3 : decode cX7_cellsOf 3 = .ok (.istore 4, 2) := by decide +kernel
theorem dX7_cellsOf_5 : decode cX7_cellsOf 5 = .ok (.iload 4, 2) := by decide +kernel
theorem dX7_cellsOf_7 : decode cX7_cellsOf 7 = .ok (.aload_n 0, 1) := by decide +kernel
theorem dX7_cellsOf_8 : decode cX7_cellsOf 8 = .ok (.iconst 2, 1) := by decide +kernel
theorem dX7_cellsOf_9 : decode cX7_cellsOf 9 = .ok (.iaload, 1) := by decide +kernel
theorem dX7_cellsOf_10 : decode cX7_cellsOf 10 = .ok (.if_icmp .ge 34, 3) := by decide +kernel
theorem dX7_cellsOf_13 : decode cX7_cellsOf 13 = .ok (.iload_n 3, 1) := by decide +kernel
theorem dX7_cellsOf_14 : decode cX7_cellsOf 14 = .ok (.iload 4, 2) := by decide +kernel
theorem dX7_cellsOf_16 : decode cX7_cellsOf 16 = .ok (.iload_n 1, 1) := by decide +kernel
theorem dX7_cellsOf_17 : decode cX7_cellsOf 17 = .ok (.if_icmp .lt 18, 3) := by decide +kernel
theorem dX7_cellsOf_20 : decode cX7_cellsOf 20 = .ok (.iload 4, 2) := by decide +kernel
theorem dX7_cellsOf_22 : decode cX7_cellsOf 22 = .ok (.iload_n 1, 1) := by decide +kernel
theorem dX7_cellsOf_23 : decode cX7_cellsOf 23 = .ok (.iload_n 2, 1) := by decide +kernel
theorem dX7_cellsOf_24 : decode cX7_cellsOf 24 = .ok (.iadd, 1) := by decide +kernel
theorem dX7_cellsOf_25 : decode cX7_cellsOf 25 = .ok (.if_icmp .ge 10, 3) := by decide +kernel
theorem dX7_cellsOf_28 : decode cX7_cellsOf 28 = .ok (.iconst 1, 1) := by decide +kernel
theorem dX7_cellsOf_29 : decode cX7_cellsOf 29 = .ok (.iload 4, 2) := by decide +kernel
theorem dX7_cellsOf_31 : decode cX7_cellsOf 31 = .ok (.ishl, 1) := by decide +kernel
theorem dX7_cellsOf_32 : decode cX7_cellsOf 32 = .ok (.goto 4, 3) := by decide +kernel
theorem dX7_cellsOf_35 : decode cX7_cellsOf 35 = .ok (.iconst 0, 1) := by decide +kernel
theorem dX7_cellsOf_36 : decode cX7_cellsOf 36 = .ok (.ior, 1) := by decide +kernel
theorem dX7_cellsOf_37 : decode cX7_cellsOf 37 = .ok (.istore_n 3, 1) := by decide +kernel
theorem dX7_cellsOf_38 : decode cX7_cellsOf 38 = .ok (.iinc 4 1, 3) := by decide +kernel
theorem dX7_cellsOf_41 : decode cX7_cellsOf 41 = .ok (.goto (-36), 3) := by decide +kernel
theorem dX7_cellsOf_44 : decode cX7_cellsOf 44 = .ok (.iload_n 3, 1) := by decide +kernel
theorem dX7_cellsOf_45 : decode cX7_cellsOf 45 = .ok (.ireturn, 1) := by decide +kernel
theorem dX7_liesOn_0 : decode cX7_liesOn 0 = .ok (.aload_n 0, 1) := by decide +kernel
theorem dX7_liesOn_1 : decode cX7_liesOn 1 = .ok (.iload_n 1, 1) := by decide +kernel
theorem dX7_liesOn_2 : decode cX7_liesOn 2 = .ok (.invokestatic 156, 3) := by decide +kernel
theorem dX7_liesOn_5 : decode cX7_liesOn 5 = .ok (.ifCond .eq 22, 3) := by decide +kernel
theorem dX7_liesOn_8 : decode cX7_liesOn 8 = .ok (.aload_n 0, 1) := by decide +kernel
theorem dX7_liesOn_9 : decode cX7_liesOn 9 = .ok (.aload_n 0, 1) := by decide +kernel
theorem dX7_liesOn_10 : decode cX7_liesOn 10 = .ok (.iload_n 1, 1) := by decide +kernel
theorem dX7_liesOn_11 : decode cX7_liesOn 11 = .ok (.iconst 1, 1) := by decide +kernel
theorem dX7_liesOn_12 : decode cX7_liesOn 12 = .ok (.invokestatic 152, 3) := by decide +kernel
theorem dX7_liesOn_15 : decode cX7_liesOn 15 = .ok (.aload_n 0, 1) := by decide +kernel
theorem dX7_liesOn_16 : decode cX7_liesOn 16 = .ok (.iload_n 1, 1) := by decide +kernel
theorem dX7_liesOn_17 : decode cX7_liesOn 17 = .ok (.iconst 2, 1) := by decide +kernel
theorem dX7_liesOn_18 : decode cX7_liesOn 18 = .ok (.invokestatic 152, 3) := by decide +kernel
theorem dX7_liesOn_21 : decode cX7_liesOn 21 = .ok (.invokestatic 160, 3) := by decide +kernel
theorem dX7_liesOn_24 : decode cX7_liesOn 24 = .ok (.goto 4, 3) := by decide +kernel
theorem dX7_liesOn_27 : decode cX7_liesOn 27 = .ok (.iconst 0, 1) := by decide +kernel
theorem dX7_liesOn_28 : decode cX7_liesOn 28 = .ok (.ireturn, 1) := by decide +kernel
theorem dX7_drift_0 : decode cX7_drift 0 = .ok (.aload_n 0, 1) := by decide +kernel
theorem dX7_drift_1 : decode cX7_drift 1 = .ok (.bipush 6, 2) := by decide +kernel
theorem dX7_drift_3 : decode cX7_drift 3 = .ok (.iaload, 1) := by decide +kernel
theorem dX7_drift_4 : decode cX7_drift 4 = .ok (.iconst 2, 1) := by decide +kernel
theorem dX7_drift_5 : decode cX7_drift 5 = .ok (.irem, 1) := by decide +kernel
theorem dX7_drift_6 : decode cX7_drift 6 = .ok (.iconst 1, 1) := by decide +kernel
theorem dX7_drift_7 : decode cX7_drift 7 = .ok (.if_icmp .ne 7, 3) := by decide +kernel
theorem dX7_drift_10 : decode cX7_drift 10 = .ok (.iconst 1, 1) := by decide +kernel
theorem dX7_drift_11 : decode cX7_drift 11 = .ok (.goto 4, 3) := by decide +kernel
theorem dX7_drift_14 : decode cX7_drift 14 = .ok (.iconst 0, 1) := by decide +kernel
theorem dX7_drift_15 : decode cX7_drift 15 = .ok (.istore_n 3, 1) := by decide +kernel
theorem dX7_drift_16 : decode cX7_drift 16 = .ok (.aload_n 0, 1) := by decide +kernel
theorem dX7_drift_17 : decode cX7_drift 17 = .ok (.iload_n 1, 1) := by decide +kernel
theorem dX7_drift_18 : decode cX7_drift 18 = .ok (.iconst 1, 1) := by decide +kernel
theorem dX7_drift_19 : decode cX7_drift 19 = .ok (.invokestatic 152, 3) := by decide +kernel
theorem dX7_drift_22 : decode cX7_drift 22 = .ok (.istore 4, 2) := by decide +kernel
theorem dX7_drift_24 : decode cX7_drift 24 = .ok (.aload_n 0, 1) := by decide +kernel
theorem dX7_drift_25 : decode cX7_drift 25 = .ok (.iload_n 1, 1) := by decide +kernel
theorem dX7_drift_26 : decode cX7_drift 26 = .ok (.iconst 3, 1) := by decide +kernel
theorem dX7_drift_27 : decode cX7_drift 27 = .ok (.invokestatic 152, 3) := by decide +kernel
