theorem dX9_thin_30 : decode cX9_thin 30 = .ok (.getfield 10, 3) := by decide +kernel
theorem dX9_thin_33 : decode cX9_thin 33 = .ok (.iload_n 1, 1) := by decide +kernel
theorem dX9_thin_34 : decode cX9_thin 34 = .ok (.invokevirtual 158, 3) := by decide +kernel
theorem dX9_thin_37 : decode cX9_thin 37 = .ok (.iconst 0, 1) := by decide +kernel
theorem dX9_thin_38 : decode cX9_thin 38 = .ok (.istore_n 2, 1) := by decide +kernel
theorem dX9_thin_39 : decode cX9_thin 39 = .ok (.iload_n 2, 1) := by decide +kernel
theorem dX9_thin_40 : decode cX9_thin 40 = .ok (.aload_n 0, 1) := by decide +kernel
theorem dX9_thin_41 : decode cX9_thin 41 = .ok (.getfield 10, 3) := by decide +kernel
theorem dX9_thin_44 : decode cX9_thin 44 = .ok (.getfield 152, 3) := by decide +kernel
theorem dX9_thin_47 : decode cX9_thin 47 = .ok (.if_icmp .ge 52, 3) := by decide +kernel
theorem dX9_thin_50 : decode cX9_thin 50 = .ok (.iload_n 2, 1) := by decide +kernel
theorem dX9_thin_51 : decode cX9_thin 51 = .ok (.iconst 1, 1) := by decide +kernel
theorem dX9_thin_52 : decode cX9_thin 52 = .ok (.iadd, 1) := by decide +kernel
theorem dX9_thin_53 : decode cX9_thin 53 = .ok (.istore_n 3, 1) := by decide +kernel
theorem dX9_thin_54 : decode cX9_thin 54 = .ok (.iload_n 3, 1) := by decide +kernel
theorem dX9_thin_55 : decode cX9_thin 55 = .ok (.aload_n 0, 1) := by decide +kernel
theorem dX9_thin_56 : decode cX9_thin 56 = .ok (.getfield 10, 3) := by decide +kernel
theorem dX9_thin_59 : decode cX9_thin 59 = .ok (.getfield 152, 3) := by decide +kernel
theorem dX9_thin_62 : decode cX9_thin 62 = .ok (.if_icmp .ge 31, 3) := by decide +kernel
theorem dX9_thin_65 : decode cX9_thin 65 = .ok (.aload_n 0, 1) := by decide +kernel
theorem dX9_thin_66 : decode cX9_thin 66 = .ok (.getfield 65, 3) := by decide +kernel
theorem dX9_thin_69 : decode cX9_thin 69 = .ok (.iload_n 2, 1) := by decide +kernel
theorem dX9_thin_70 : decode cX9_thin 70 = .ok (.iload_n 3, 1) := by decide +kernel
theorem dX9_thin_71 : decode cX9_thin 71 = .ok (.invokevirtual 162, 3) := by decide +kernel
theorem dX9_thin_74 : decode cX9_thin 74 = .ok (.ifCond .ne 13, 3) := by decide +kernel
theorem dX9_thin_77 : decode cX9_thin 77 = .ok (.aload_n 0, 1) := by decide +kernel
theorem dX9_thin_78 : decode cX9_thin 78 = .ok (.getfield 10, 3) := by decide +kernel
theorem dX9_thin_81 : decode cX9_thin 81 = .ok (.iload_n 2, 1) := by decide +kernel
theorem dX9_thin_82 : decode cX9_thin 82 = .ok (.iload_n 3, 1) := by decide +kernel
theorem dX9_thin_83 : decode cX9_thin 83 = .ok (.iconst 0, 1) := by decide +kernel
theorem dX9_thin_84 : decode cX9_thin 84 = .ok (.invokevirtual 138, 3) := by decide +kernel
theorem dX9_thin_87 : decode cX9_thin 87 = .ok (.iinc 3 1, 3) := by decide +kernel
theorem dX9_thin_90 : decode cX9_thin 90 = .ok (.goto (-36), 3) := by decide +kernel
theorem dX9_thin_93 : decode cX9_thin 93 = .ok (.iinc 2 1, 3) := by decide +kernel
theorem dX9_thin_96 : decode cX9_thin 96 = .ok (.goto (-57), 3) := by decide +kernel
theorem dX9_thin_99 : decode cX9_thin 99 = .ok (.aload_n 0, 1) := by decide +kernel
theorem dX9_thin_100 : decode cX9_thin 100 = .ok (.getfield 10, 3) := by decide +kernel
theorem dX9_thin_103 : decode cX9_thin 103 = .ok (.getfield 142, 3) := by decide +kernel
theorem dX9_thin_106 : decode cX9_thin 106 = .ok (.ireturn, 1) := by decide +kernel
theorem dX9_undo_0 : decode cX9_undo 0 = .ok (.aload_n 0, 1) := by decide +kernel
theorem dX9_undo_1 : decode cX9_undo 1 = .ok (.getfield 29, 3) := by decide +kernel
theorem dX9_undo_4 : decode cX9_undo 4 = .ok (.getfield 106, 3) := by decide +kernel
theorem dX9_undo_7 : decode cX9_undo 7 = .ok (.ifCond .ne 6, 3) := by decide +kernel
theorem dX9_undo_10 : decode cX9_undo 10 = .ok (.bipush (-4), 2) := by decide +kernel
theorem dX9_undo_12 : decode cX9_undo 12 = .ok (.ireturn, 1) := by decide +kernel
theorem dX9_undo_13 : decode cX9_undo 13 = .ok (.aload_n 0, 1) := by decide +kernel
theorem dX9_undo_14 : decode cX9_undo 14 = .ok (.getfield 29, 3) := by decide +kernel
theorem dX9_undo_17 : decode cX9_undo 17 = .ok (.aload_n 0, 1) := by decide +kernel
theorem dX9_undo_18 : decode cX9_undo 18 = .ok (.getfield 10, 3) := by decide +kernel
theorem dX9_undo_21 : decode cX9_undo 21 = .ok (.invokevirtual 165, 3) := by decide +kernel
theorem dX9_undo_24 : decode cX9_undo 24 = .ok (.aload_n 0, 1) := by decide +kernel
theorem dX9_undo_25 : decode cX9_undo 25 = .ok (.getfield 29, 3) := by decide +kernel
theorem dX9_undo_28 : decode cX9_undo 28 = .ok (.getfield 106, 3) := by decide +kernel
theorem dX9_undo_31 : decode cX9_undo 31 = .ok (.ireturn, 1) := by decide +kernel
theorem dX9_keep_0 : decode cX9_keep 0 = .ok (.iload_n 1, 1) := by decide +kernel
theorem dX9_keep_1 : decode cX9_keep 1 = .ok (.ifCond .lt 8, 3) := by decide +kernel
theorem dX9_keep_4 : decode cX9_keep 4 = .ok (.iload_n 1, 1) := by decide +kernel
theorem dX9_keep_5 : decode cX9_keep 5 = .ok (.iconst 2, 1) := by decide +kernel
theorem dX9_keep_6 : decode cX9_keep 6 = .ok (.if_icmp .lt 6, 3) := by decide +kernel
theorem dX9_keep_9 : decode cX9_keep 9 = .ok (.bipush (-3), 2) := by decide +kernel
theorem dX9_keep_11 : decode cX9_keep 11 = .ok (.ireturn, 1) := by decide +kernel
theorem dX9_keep_12 : decode cX9_keep 12 = .ok (.aload_n 0, 1) := by decide +kernel
theorem dX9_keep_13 : decode cX9_keep 13 = .ok (.getfield 50, 3) := by decide +kernel
theorem dX9_keep_16 : decode cX9_keep 16 = .ok (.iload_n 1, 1) := by decide +kernel
theorem dX9_keep_17 : decode cX9_keep 17 = .ok (.aaload, 1) := by decide +kernel
theorem dX9_keep_18 : decode cX9_keep 18 = .ok (.iconst 1, 1) := by decide +kernel
theorem dX9_keep_19 : decode cX9_keep 19 = .ok (.putfield 168, 3) := by decide +kernel
theorem dX9_keep_22 : decode cX9_keep 22 = .ok (.aload_n 0, 1) := by decide +kernel
theorem dX9_keep_23 : decode cX9_keep 23 = .ok (.getfield 50, 3) := by decide +kernel
theorem dX9_keep_26 : decode cX9_keep 26 = .ok (.iload_n 1, 1) := by decide +kernel
theorem dX9_keep_27 : decode cX9_keep 27 = .ok (.aaload, 1) := by decide +kernel
theorem dX9_keep_28 : decode cX9_keep 28 = .ok (.getfield 171, 3) := by decide +kernel
theorem dX9_keep_31 : decode cX9_keep 31 = .ok (.aload_n 0, 1) := by decide +kernel
theorem dX9_keep_32 : decode cX9_keep 32 = .ok (.getfield 10, 3) := by decide +kernel
theorem dX9_keep_35 : decode cX9_keep 35 = .ok (.invokevirtual 95, 3) := by decide +kernel
theorem dX9_keep_38 : decode cX9_keep 38 = .ok (.aload_n 0, 1) := by decide +kernel
theorem dX9_keep_39 : decode cX9_keep 39 = .ok (.getfield 37, 3) := by decide +kernel
theorem dX9_keep_42 : decode cX9_keep 42 = .ok (.aload_n 0, 1) := by decide +kernel
theorem dX9_keep_43 : decode cX9_keep 43 = .ok (.getfield 50, 3) := by decide +kernel
theorem dX9_keep_46 : decode cX9_keep 46 = .ok (.iload_n 1, 1) := by decide +kernel
theorem dX9_keep_47 : decode cX9_keep 47 = .ok (.aaload, 1) := by decide +kernel
theorem dX9_keep_48 : decode cX9_keep 48 = .ok (.getfield 174, 3) := by decide +kernel
theorem dX9_keep_51 : decode cX9_keep 51 = .ok (.invokestatic 175, 3) := by decide +kernel
theorem dX9_keep_54 : decode cX9_keep 54 = .ok (.aload_n 0, 1) := by decide +kernel
theorem dX9_keep_55 : decode cX9_keep 55 = .ok (.invokevirtual 179, 3) := by decide +kernel
theorem dX9_keep_58 : decode cX9_keep 58 = .ok (.ireturn, 1) := by decide +kernel
theorem dX9_back_0 : decode cX9_back 0 = .ok (.iload_n 1, 1) := by decide +kernel
theorem dX9_back_1 : decode cX9_back 1 = .ok (.ifCond .lt 8, 3) := by decide +kernel
theorem dX9_back_4 : decode cX9_back 4 = .ok (.iload_n 1, 1) := by decide +kernel
theorem dX9_back_5 : decode cX9_back 5 = .ok (.iconst 2, 1) := by decide +kernel
theorem dX9_back_6 : decode cX9_back 6 = .ok (.if_icmp .lt 6, 3) := by decide +kernel
theorem dX9_back_9 : decode cX9_back 9 = .ok (.bipush (-3), 2) := by decide +kernel
theorem dX9_back_11 : decode cX9_back 11 = .ok (.ireturn, 1) := by decide +kernel
theorem dX9_back_12 : decode cX9_back 12 = .ok (.aload_n 0, 1) := by decide +kernel
theorem dX9_back_13 : decode cX9_back 13 = .ok (.getfield 50, 3) := by decide +kernel
theorem dX9_back_16 : decode cX9_back 16 = .ok (.iload_n 1, 1) := by decide +kernel
theorem dX9_back_17 : decode cX9_back 17 = .ok (.aaload, 1) := by decide +kernel
theorem dX9_back_18 : decode cX9_back 18 = .ok (.getfield 168, 3) := by decide +kernel
theorem dX9_back_21 : decode cX9_back 21 = .ok (.ifCond .ne 6, 3) := by decide +kernel
theorem dX9_back_24 : decode cX9_back 24 = .ok (.bipush (-4), 2) := by decide +kernel
theorem dX9_back_26 : decode cX9_back 26 = .ok (.ireturn, 1) := by decide +kernel
theorem dX9_back_27 : decode cX9_back 27 = .ok (.aload_n 0, 1) := by decide +kernel
theorem dX9_back_28 : decode cX9_back 28 = .ok (.getfield 10, 3) := by decide +kernel
theorem dX9_back_31 : decode cX9_back 31 = .ok (.aload_n 0, 1) := by decide +kernel
theorem dX9_back_32 : decode cX9_back 32 = .ok (.getfield 50, 3) := by decide +kernel
theorem dX9_back_35 : decode cX9_back 35 = .ok (.iload_n 1, 1) := by decide +kernel
theorem dX9_back_36 : decode cX9_back 36 = .ok (.aaload, 1) := by decide +kernel
theorem dX9_back_37 : decode cX9_back 37 = .ok (.getfield 171, 3) := by decide +kernel
theorem dX9_back_40 : decode cX9_back 40 = .ok (.invokevirtual 95, 3) := by decide +kernel
theorem dX9_back_43 : decode cX9_back 43 = .ok (.aload_n 0, 1) := by decide +kernel
theorem dX9_back_44 : decode cX9_back 44 = .ok (.getfield 50, 3) := by decide +kernel
theorem dX9_back_47 : decode cX9_back 47 = .ok (.iload_n 1, 1) := by decide +kernel
theorem dX9_back_48 : decode cX9_back 48 = .ok (.aaload, 1) := by decide +kernel
theorem dX9_back_49 : decode cX9_back 49 = .ok (.getfield 174, 3) := by decide +kernel
theorem dX9_back_52 : decode cX9_back 52 = .ok (.aload_n 0, 1) := by decide +kernel
theorem dX9_back_53 : decode cX9_back 53 = .ok (.getfield 37, 3) := by decide +kernel
theorem dX9_back_56 : decode cX9_back 56 = .ok (.invokestatic 175, 3) := by decide +kernel
theorem dX9_back_59 : decode cX9_back 59 = .ok (.aload_n 0, 1) := by decide +kernel
theorem dX9_back_60 : decode cX9_back 60 = .ok (.getfield 29, 3) := by decide +kernel
theorem dX9_back_63 : decode cX9_back 63 = .ok (.iconst 0, 1) := by decide +kernel
theorem dX9_back_64 : decode cX9_back 64 = .ok (.putfield 106, 3) := by decide +kernel
theorem dX9_back_67 : decode cX9_back 67 = .ok (.aload_n 0, 1) := by decide +kernel
theorem dX9_back_68 : decode cX9_back 68 = .ok (.invokevirtual 179, 3) := by decide +kernel
theorem dX9_back_71 : decode cX9_back 71 = .ok (.ireturn, 1) := by decide +kernel
theorem dX9_distance_0 : decode cX9_distance 0 = .ok (.aload_n 0, 1) := by decide +kernel
theorem dX9_distance_1 : decode cX9_distance 1 = .ok (.iload_n 1, 1) := by decide +kernel
theorem dX9_distance_2 : decode cX9_distance 2 = .ok (.iload_n 2, 1) := by decide +kernel
theorem dX9_distance_3 : decode cX9_distance 3 = .ok (.invokevirtual 128, 3) := by decide +kernel
theorem dX9_distance_6 : decode cX9_distance 6 = .ok (.ifCond .ne 6, 3) := by decide +kernel
theorem dX9_distance_9 : decode cX9_distance 9 = .ok (.bipush (-2), 2) := by decide +kernel
theorem dX9_distance_11 : decode cX9_distance 11 = .ok (.ireturn, 1) := by decide +kernel
theorem dX9_distance_12 : decode cX9_distance 12 = .ok (.aload_n 0, 1) := by decide +kernel
theorem dX9_distance_13 : decode cX9_distance 13 = .ok (.getfield 58, 3) := by decide +kernel
theorem dX9_distance_16 : decode cX9_distance 16 = .ok (.aload_n 0, 1) := by decide +kernel
theorem dX9_distance_17 : decode cX9_distance 17 = .ok (.getfield 10, 3) := by decide +kernel
theorem dX9_distance_20 : decode cX9_distance 20 = .ok (.invokevirtual 182, 3) := by decide +kernel
theorem dX9_distance_23 : decode cX9_distance 23 = .ok (.aload_n 0, 1) := by decide +kernel
theorem dX9_distance_24 : decode cX9_distance 24 = .ok (.getfield 58, 3) := by decide +kernel
theorem dX9_distance_27 : decode cX9_distance 27 = .ok (.iload_n 1, 1) := by decide +kernel
theorem dX9_distance_28 : decode cX9_distance 28 = .ok (.iload_n 2, 1) := by decide +kernel
theorem dX9_distance_29 : decode cX9_distance 29 = .ok (.invokevirtual 184, 3) := by decide +kernel
theorem dX9_distance_32 : decode cX9_distance 32 = .ok (.ireturn, 1) := by decide +kernel
theorem dX9_nearest_0 : decode cX9_nearest 0 = .ok (.aload_n 0, 1) := by decide +kernel
theorem dX9_nearest_1 : decode cX9_nearest 1 = .ok (.getfield 10, 3) := by decide +kernel
theorem dX9_nearest_4 : decode cX9_nearest 4 = .ok (.iload_n 1, 1) := by decide +kernel
theorem dX9_nearest_5 : decode cX9_nearest 5 = .ok (.invokevirtual 121, 3) := by decide +kernel
theorem dX9_nearest_8 : decode cX9_nearest 8 = .ok (.ifCond .ne 6, 3) := by decide +kernel
theorem dX9_nearest_11 : decode cX9_nearest 11 = .ok (.bipush (-2), 2) := by decide +kernel
theorem dX9_nearest_13 : decode cX9_nearest 13 = .ok (.ireturn, 1) := by decide +kernel
theorem dX9_nearest_14 : decode cX9_nearest 14 = .ok (.iload_n 2, 1) := by decide +kernel
theorem dX9_nearest_15 : decode cX9_nearest 15 = .ok (.ifCond .lt 17, 3) := by decide +kernel
theorem dX9_nearest_18 : decode cX9_nearest 18 = .ok (.iload_n 2, 1) := by decide +kernel
theorem dX9_nearest_19 : decode cX9_nearest 19 = .ok (.iconst 3, 1) := by decide +kernel
theorem dX9_nearest_20 : decode cX9_nearest 20 = .ok (.if_icmp .ge 12, 3) := by decide +kernel
theorem dX9_nearest_23 : decode cX9_nearest 23 = .ok (.iload_n 3, 1) := by decide +kernel
theorem dX9_nearest_24 : decode cX9_nearest 24 = .ok (.ifCond .lt 8, 3) := by decide +kernel
theorem dX9_nearest_27 : decode cX9_nearest 27 = .ok (.iload_n 3, 1) := by decide +kernel
theorem dX9_nearest_28 : decode cX9_nearest 28 = .ok (.iconst 1, 1) := by decide +kernel
theorem dX9_nearest_29 : decode cX9_nearest 29 = .ok (.if_icmp .le 6, 3) := by decide +kernel
theorem dX9_nearest_32 : decode cX9_nearest 32 = .ok (.bipush (-3), 2) := by decide +kernel
theorem dX9_nearest_34 : decode cX9_nearest 34 = .ok (.ireturn, 1) := by decide +kernel
theorem dX9_nearest_35 : decode cX9_nearest 35 = .ok (.aload_n 0, 1) := by decide +kernel
theorem dX9_nearest_36 : decode cX9_nearest 36 = .ok (.iload_n 1, 1) := by decide +kernel
theorem dX9_nearest_37 : decode cX9_nearest 37 = .ok (.invokevirtual 187, 3) := by decide +kernel
theorem dX9_nearest_40 : decode cX9_nearest 40 = .ok (.iload_n 3, 1) := by decide +kernel
theorem dX9_nearest_41 : decode cX9_nearest 41 = .ok (.ifCond .ne 14, 3) := by decide +kernel
theorem dX9_nearest_44 : decode cX9_nearest 44 = .ok (.aload_n 0, 1) := by decide +kernel
theorem dX9_nearest_45 : decode cX9_nearest 45 = .ok (.getfield 44, 3) := by decide +kernel
theorem dX9_nearest_48 : decode cX9_nearest 48 = .ok (.iload_n 2, 1) := by decide +kernel
theorem dX9_nearest_49 : decode cX9_nearest 49 = .ok (.invokevirtual 190, 3) := by decide +kernel
theorem dX9_nearest_52 : decode cX9_nearest 52 = .ok (.goto 11, 3) := by decide +kernel
theorem dX9_nearest_55 : decode cX9_nearest 55 = .ok (.aload_n 0, 1) := by decide +kernel
theorem dX9_nearest_56 : decode cX9_nearest 56 = .ok (.getfield 44, 3) := by decide +kernel
theorem dX9_nearest_59 : decode cX9_nearest 59 = .ok (.iload_n 2, 1) := by decide +kernel
theorem dX9_nearest_60 : decode cX9_nearest 60 = .ok (.invokevirtual 193, 3) := by decide +kernel
theorem dX9_nearest_63 : decode cX9_nearest 63 = .ok (.ireturn, 1) := by decide +kernel
theorem dX9_bunch_0 : decode cX9_bunch 0 = .ok (.aload_n 0, 1) := by decide +kernel
theorem dX9_bunch_1 : decode cX9_bunch 1 = .ok (.getfield 10, 3) := by decide +kernel
theorem dX9_bunch_4 : decode cX9_bunch 4 = .ok (.iload_n 1, 1) := by decide +kernel
theorem dX9_bunch_5 : decode cX9_bunch 5 = .ok (.invokevirtual 121, 3) := by decide +kernel
theorem dX9_bunch_8 : decode cX9_bunch 8 = .ok (.ifCond .ne 6, 3) := by decide +kernel
theorem dX9_bunch_11 : decode cX9_bunch 11 = .ok (.bipush (-2), 2) := by decide +kernel
theorem dX9_bunch_13 : decode cX9_bunch 13 = .ok (.ireturn, 1) := by decide +kernel
theorem dX9_bunch_14 : decode cX9_bunch 14 = .ok (.iload_n 2, 1) := by decide +kernel
theorem dX9_bunch_15 : decode cX9_bunch 15 = .ok (.ifCond .lt 8, 3) := by decide +kernel
theorem dX9_bunch_18 : decode cX9_bunch 18 = .ok (.iload_n 2, 1) := by decide +kernel
theorem dX9_bunch_19 : decode cX9_bunch 19 = .ok (.iconst 1, 1) := by decide +kernel
theorem dX9_bunch_20 : decode cX9_bunch 20 = .ok (.if_icmp .le 6, 3) := by decide +kernel
theorem dX9_bunch_23 : decode cX9_bunch 23 = .ok (.bipush (-3), 2) := by decide +kernel
theorem dX9_bunch_25 : decode cX9_bunch 25 = .ok (.ireturn, 1) := by decide +kernel
theorem dX9_bunch_26 : decode cX9_bunch 26 = .ok (.iload_n 2, 1) := by decide +kernel
theorem dX9_bunch_27 : decode cX9_bunch 27 = .ok (.iconst 1, 1) := by decide +kernel
theorem dX9_bunch_28 : decode cX9_bunch 28 = .ok (.if_icmp .ne 9, 3) := by decide +kernel
theorem dX9_bunch_31 : decode cX9_bunch 31 = .ok (.aload_n 0, 1) := by decide +kernel
theorem dX9_bunch_32 : decode cX9_bunch 32 = .ok (.iload_n 1, 1) := by decide +kernel
theorem dX9_bunch_33 : decode cX9_bunch 33 = .ok (.invokevirtual 196, 3) := by decide +kernel
theorem dX9_bunch_36 : decode cX9_bunch 36 = .ok (.ireturn, 1) := by decide +kernel
theorem dX9_bunch_37 : decode cX9_bunch 37 = .ok (.aload_n 0, 1) := by decide +kernel
theorem dX9_bunch_38 : decode cX9_bunch 38 = .ok (.iload_n 1, 1) := by decide +kernel
theorem dX9_bunch_39 : decode cX9_bunch 39 = .ok (.invokevirtual 187, 3) := by decide +kernel
theorem dX9_bunch_42 : decode cX9_bunch 42 = .ok (.aload_n 0, 1) := by decide +kernel
theorem dX9_bunch_43 : decode cX9_bunch 43 = .ok (.getfield 44, 3) := by decide +kernel
theorem dX9_bunch_46 : decode cX9_bunch 46 = .ok (.getfield 199, 3) := by decide +kernel
theorem dX9_bunch_49 : decode cX9_bunch 49 = .ok (.ireturn, 1) := by decide +kernel
theorem dX9_next_0 : decode cX9_next 0 = .ok (.aload_n 0, 1) := by decide +kernel
theorem dX9_next_1 : decode cX9_next 1 = .ok (.iload_n 1, 1) := by decide +kernel
theorem dX9_next_2 : decode cX9_next 2 = .ok (.iload_n 2, 1) := by decide +kernel
theorem dX9_next_3 : decode cX9_next 3 = .ok (.invokevirtual 128, 3) := by decide +kernel
theorem dX9_next_6 : decode cX9_next 6 = .ok (.ifCond .ne 6, 3) := by decide +kernel
theorem dX9_next_9 : decode cX9_next 9 = .ok (.bipush (-2), 2) := by decide +kernel
theorem dX9_next_11 : decode cX9_next 11 = .ok (.ireturn, 1) := by decide +kernel
theorem dX9_next_12 : decode cX9_next 12 = .ok (.aload_n 0, 1) := by decide +kernel
theorem dX9_next_13 : decode cX9_next 13 = .ok (.iload_n 1, 1) := by decide +kernel
theorem dX9_next_14 : decode cX9_next 14 = .ok (.iload_n 2, 1) := by decide +kernel
theorem dX9_next_15 : decode cX9_next 15 = .ok (.invokevirtual 202, 3) := by decide +kernel
theorem dX9_next_18 : decode cX9_next 18 = .ok (.ireturn, 1) := by decide +kernel
theorem dX9_thinned_0 : decode cX9_thinned 0 = .ok (.iload_n 1, 1) := by decide +kernel
theorem dX9_thinned_1 : decode cX9_thinned 1 = .ok (.iconst 1, 1) := by decide +kernel
theorem dX9_thinned_2 : decode cX9_thinned 2 = .ok (.if_icmp .lt 9, 3) := by decide +kernel
theorem dX9_thinned_5 : decode cX9_thinned 5 = .ok (.iload_n 1, 1) := by decide +kernel
theorem dX9_thinned_6 : decode cX9_thinned 6 = .ok (.bipush 9, 2) := by decide +kernel
theorem dX9_thinned_8 : decode cX9_thinned 8 = .ok (.if_icmp .le 6, 3) := by decide +kernel
theorem dX9_thinned_11 : decode cX9_thinned 11 = .ok (.bipush (-3), 2) := by decide +kernel
theorem dX9_thinned_13 : decode cX9_thinned 13 = .ok (.ireturn, 1) := by decide +kernel
theorem dX9_thinned_14 : decode cX9_thinned 14 = .ok (.aload_n 0, 1) := by decide +kernel
theorem dX9_thinned_15 : decode cX9_thinned 15 = .ok (.getfield 10, 3) := by decide +kernel
theorem dX9_thinned_18 : decode cX9_thinned 18 = .ok (.iload_n 2, 1) := by decide +kernel
theorem dX9_thinned_19 : decode cX9_thinned 19 = .ok (.invokevirtual 113, 3) := by decide +kernel
theorem dX9_thinned_22 : decode cX9_thinned 22 = .ok (.istore_n 3, 1) := by decide +kernel
theorem dX9_thinned_23 : decode cX9_thinned 23 = .ok (.iload_n 2, 1) := by decide +kernel
theorem dX9_thinned_24 : decode cX9_thinned 24 = .ok (.iconst (-1), 1) := by decide +kernel
theorem dX9_thinned_25 : decode cX9_thinned 25 = .ok (.if_icmp .eq 11, 3) := by decide +kernel
theorem dX9_thinned_28 : decode cX9_thinned 28 = .ok (.iload_n 3, 1) := by decide +kernel
theorem dX9_thinned_29 : decode cX9_thinned 29 = .ok (.iconst (-1), 1) := by decide +kernel
theorem dX9_thinned_30 : decode cX9_thinned 30 = .ok (.if_icmp .ne 6, 3) := by decide +kernel
theorem dX9_thinned_33 : decode cX9_thinned 33 = .ok (.bipush (-2), 2) := by decide +kernel
theorem dX9_thinned_35 : decode cX9_thinned 35 = .ok (.ireturn, 1) := by decide +kernel
theorem dX9_thinned_36 : decode cX9_thinned 36 = .ok (.aload_n 0, 1) := by decide +kernel
theorem dX9_thinned_37 : decode cX9_thinned 37 = .ok (.getfield 65, 3) := by decide +kernel
theorem dX9_thinned_40 : decode cX9_thinned 40 = .ok (.aload_n 0, 1) := by decide +kernel
theorem dX9_thinned_41 : decode cX9_thinned 41 = .ok (.getfield 10, 3) := by decide +kernel
theorem dX9_thinned_44 : decode cX9_thinned 44 = .ok (.iload_n 1, 1) := by decide +kernel
theorem dX9_thinned_45 : decode cX9_thinned 45 = .ok (.invokevirtual 158, 3) := by decide +kernel
theorem dX9_thinned_48 : decode cX9_thinned 48 = .ok (.iload_n 2, 1) := by decide +kernel
theorem dX9_thinned_49 : decode cX9_thinned 49 = .ok (.iconst (-1), 1) := by decide +kernel
theorem dX9_thinned_50 : decode cX9_thinned 50 = .ok (.if_icmp .ne 11, 3) := by decide +kernel
theorem dX9_thinned_53 : decode cX9_thinned 53 = .ok (.aload_n 0, 1) := by decide +kernel
theorem dX9_thinned_54 : decode cX9_thinned 54 = .ok (.getfield 65, 3) := by decide +kernel
theorem dX9_thinned_57 : decode cX9_thinned 57 = .ok (.getfield 205, 3) := by decide +kernel
theorem dX9_thinned_60 : decode cX9_thinned 60 = .ok (.ireturn, 1) := by decide +kernel
theorem dX9_thinned_61 : decode cX9_thinned 61 = .ok (.aload_n 0, 1) := by decide +kernel
theorem dX9_thinned_62 : decode cX9_thinned 62 = .ok (.getfield 65, 3) := by decide +kernel
theorem dX9_thinned_65 : decode cX9_thinned 65 = .ok (.iload_n 3, 1) := by decide +kernel
theorem dX9_thinned_66 : decode cX9_thinned 66 = .ok (.bipush 12, 2) := by decide +kernel
theorem dX9_thinned_68 : decode cX9_thinned 68 = .ok (.idiv, 1) := by decide +kernel
theorem dX9_thinned_69 : decode cX9_thinned 69 = .ok (.iload_n 3, 1) := by decide +kernel
theorem dX9_thinned_70 : decode cX9_thinned 70 = .ok (.bipush 12, 2) := by decide +kernel
theorem dX9_thinned_72 : decode cX9_thinned 72 = .ok (.irem, 1) := by decide +kernel
theorem dX9_thinned_73 : decode cX9_thinned 73 = .ok (.invokevirtual 162, 3) := by decide +kernel
theorem dX9_thinned_76 : decode cX9_thinned 76 = .ok (.ifCond .eq 7, 3) := by decide +kernel
theorem dX9_thinned_79 : decode cX9_thinned 79 = .ok (.iconst 1, 1) := by decide +kernel
theorem dX9_thinned_80 : decode cX9_thinned 80 = .ok (.goto 4, 3) := by decide +kernel
theorem dX9_thinned_83 : decode cX9_thinned 83 = .ok (.iconst 0, 1) := by decide +kernel
theorem dX9_thinned_84 : decode cX9_thinned 84 = .ok (.ireturn, 1) := by decide +kernel
theorem dX9_worst_0 : decode cX9_worst 0 = .ok (.iload_n 1, 1) := by decide +kernel
theorem dX9_worst_1 : decode cX9_worst 1 = .ok (.iconst 1, 1) := by decide +kernel
theorem dX9_worst_2 : decode cX9_worst 2 = .ok (.if_icmp .lt 18, 3) := by decide +kernel
theorem dX9_worst_5 : decode cX9_worst 5 = .ok (.iload_n 1, 1) := by decide +kernel
theorem dX9_worst_6 : decode cX9_worst 6 = .ok (.bipush 9, 2) := by decide +kernel
theorem dX9_worst_8 : decode cX9_worst 8 = .ok (.if_icmp .gt 12, 3) := by decide +kernel
theorem dX9_worst_11 : decode cX9_worst 11 = .ok (.iload_n 2, 1) := by decide +kernel
theorem dX9_worst_12 : decode cX9_worst 12 = .ok (.ifCond .lt 8, 3) := by decide +kernel
theorem dX9_worst_15 : decode cX9_worst 15 = .ok (.iload_n 2, 1) := by decide +kernel
theorem dX9_worst_16 : decode cX9_worst 16 = .ok (.iconst 1, 1) := by decide +kernel
theorem dX9_worst_17 : decode cX9_worst 17 = .ok (.if_icmp .le 6, 3) := by decide +kernel
theorem dX9_worst_20 : decode cX9_worst 20 = .ok (.bipush (-3), 2) := by decide +kernel
theorem dX9_worst_22 : decode cX9_worst 22 = .ok (.ireturn, 1) := by decide +kernel
theorem dX9_worst_23 : decode cX9_worst 23 = .ok (.aload_n 0, 1) := by decide +kernel
theorem dX9_worst_24 : decode cX9_worst 24 = .ok (.iload_n 1, 1) := by decide +kernel
theorem dX9_worst_25 : decode cX9_worst 25 = .ok (.invokevirtual 206, 3) := by decide +kernel
theorem dX9_worst_28 : decode cX9_worst 28 = .ok (.aload_n 0, 1) := by decide +kernel
theorem dX9_worst_29 : decode cX9_worst 29 = .ok (.getfield 79, 3) := by decide +kernel
theorem dX9_worst_32 : decode cX9_worst 32 = .ok (.getfield 209, 3) := by decide +kernel
theorem dX9_worst_35 : decode cX9_worst 35 = .ok (.ifCond .ne 5, 3) := by decide +kernel
theorem dX9_worst_38 : decode cX9_worst 38 = .ok (.iconst (-1), 1) := by decide +kernel
theorem dX9_worst_39 : decode cX9_worst 39 = .ok (.ireturn, 1) := by decide +kernel
theorem dX9_worst_40 : decode cX9_worst 40 = .ok (.aload_n 0, 1) := by decide +kernel
theorem dX9_worst_41 : decode cX9_worst 41 = .ok (.getfield 79, 3) := by decide +kernel
theorem dX9_worst_44 : decode cX9_worst 44 = .ok (.getfield 212, 3) := by decide +kernel
theorem dX9_worst_47 : decode cX9_worst 47 = .ok (.aload_n 0, 1) := by decide +kernel
theorem dX9_worst_48 : decode cX9_worst 48 = .ok (.getfield 79, 3) := by decide +kernel
theorem dX9_worst_51 : decode cX9_worst 51 = .ok (.getfield 215, 3) := by decide +kernel
theorem dX9_worst_54 : decode cX9_worst 54 = .ok (.invokestatic 218, 3) := by decide +kernel
theorem dX9_worst_57 : decode cX9_worst 57 = .ok (.istore_n 3, 1) := by decide +kernel
theorem dX9_worst_58 : decode cX9_worst 58 = .ok (.iload_n 3, 1) := by decide +kernel
theorem dX9_worst_59 : decode cX9_worst 59 = .ok (.ifCond .ne 5, 3) := by decide +kernel
theorem dX9_worst_62 : decode cX9_worst 62 = .ok (.iconst (-1), 1) := by decide +kernel
theorem dX9_worst_63 : decode cX9_worst 63 = .ok (.ireturn, 1) := by decide +kernel
theorem dX9_worst_64 : decode cX9_worst 64 = .ok (.iload_n 2, 1) := by decide +kernel
theorem dX9_worst_65 : decode cX9_worst 65 = .ok (.ifCond .ne 15, 3) := by decide +kernel
theorem dX9_worst_68 : decode cX9_worst 68 = .ok (.aload_n 0, 1) := by decide +kernel
theorem dX9_worst_69 : decode cX9_worst 69 = .ok (.getfield 79, 3) := by decide +kernel
theorem dX9_worst_72 : decode cX9_worst 72 = .ok (.getfield 212, 3) := by decide +kernel
theorem dX9_worst_75 : decode cX9_worst 75 = .ok (.iload_n 3, 1) := by decide +kernel
theorem dX9_worst_76 : decode cX9_worst 76 = .ok (.idiv, 1) := by decide +kernel
theorem dX9_worst_77 : decode cX9_worst 77 = .ok (.goto 12, 3) := by decide +kernel
theorem dX9_worst_80 : decode cX9_worst 80 = .ok (.aload_n 0, 1) := by decide +kernel
theorem dX9_worst_81 : decode cX9_worst 81 = .ok (.getfield 79, 3) := by decide +kernel
theorem dX9_worst_84 : decode cX9_worst 84 = .ok (.getfield 215, 3) := by decide +kernel
theorem dX9_worst_87 : decode cX9_worst 87 = .ok (.iload_n 3, 1) := by decide +kernel
theorem dX9_worst_88 : decode cX9_worst 88 = .ok (.idiv, 1) := by decide +kernel
theorem dX9_worst_89 : decode cX9_worst 89 = .ok (.ireturn, 1) := by decide +kernel
theorem dX9_note_0 : decode cX9_note 0 = .ok (.aload_n 0, 1) := by decide +kernel
theorem dX9_note_1 : decode cX9_note 1 = .ok (.getfield 10, 3) := by decide +kernel
theorem dX9_note_4 : decode cX9_note 4 = .ok (.iload_n 1, 1) := by decide +kernel
theorem dX9_note_5 : decode cX9_note 5 = .ok (.invokevirtual 121, 3) := by decide +kernel
theorem dX9_note_8 : decode cX9_note 8 = .ok (.ifCond .ne 6, 3) := by decide +kernel
theorem dX9_note_11 : decode cX9_note 11 = .ok (.bipush (-2), 2) := by decide +kernel
theorem dX9_note_13 : decode cX9_note 13 = .ok (.ireturn, 1) := by decide +kernel
theorem dX9_note_14 : decode cX9_note 14 = .ok (.aload_n 0, 1) := by decide +kernel
theorem dX9_note_15 : decode cX9_note 15 = .ok (.iload_n 1, 1) := by decide +kernel
theorem dX9_note_16 : decode cX9_note 16 = .ok (.invokevirtual 187, 3) := by decide +kernel
theorem dX9_note_19 : decode cX9_note 19 = .ok (.aload_n 0, 1) := by decide +kernel
theorem dX9_note_20 : decode cX9_note 20 = .ok (.getfield 37, 3) := by decide +kernel
theorem dX9_note_23 : decode cX9_note 23 = .ok (.iload_n 1, 1) := by decide +kernel
theorem dX9_note_24 : decode cX9_note 24 = .ok (.aaload, 1) := by decide +kernel
theorem dX9_note_25 : decode cX9_note 25 = .ok (.aload_n 0, 1) := by decide +kernel
theorem dX9_note_26 : decode cX9_note 26 = .ok (.getfield 44, 3) := by decide +kernel
theorem dX9_note_29 : decode cX9_note 29 = .ok (.invokevirtual 221, 3) := by decide +kernel
theorem dX9_note_32 : decode cX9_note 32 = .ok (.aload_n 0, 1) := by decide +kernel
theorem dX9_note_33 : decode cX9_note 33 = .ok (.getfield 44, 3) := by decide +kernel
theorem dX9_note_36 : decode cX9_note 36 = .ok (.getfield 199, 3) := by decide +kernel
theorem dX9_note_39 : decode cX9_note 39 = .ok (.invokestatic 224, 3) := by decide +kernel
theorem dX9_note_42 : decode cX9_note 42 = .ok (.ireturn, 1) := by decide +kernel
theorem dX9_mend_0 : decode cX9_mend 0 = .ok (.iconst 0, 1) := by decide +kernel
theorem dX9_mend_1 : decode cX9_mend 1 = .ok (.istore_n 1, 1) := by decide +kernel
theorem dX9_mend_2 : decode cX9_mend 2 = .ok (.iconst 0, 1) := by decide +kernel
theorem dX9_mend_3 : decode cX9_mend 3 = .ok (.istore_n 2, 1) := by decide +kernel
theorem dX9_mend_4 : decode cX9_mend 4 = .ok (.iload_n 2, 1) := by decide +kernel
theorem dX9_mend_5 : decode cX9_mend 5 = .ok (.aload_n 0, 1) := by decide +kernel
theorem dX9_mend_6 : decode cX9_mend 6 = .ok (.getfield 10, 3) := by decide +kernel
theorem dX9_mend_9 : decode cX9_mend 9 = .ok (.getfield 152, 3) := by decide +kernel
theorem dX9_mend_12 : decode cX9_mend 12 = .ok (.if_icmp .ge 33, 3) := by decide +kernel
theorem dX9_mend_15 : decode cX9_mend 15 = .ok (.aload_n 0, 1) := by decide +kernel
theorem dX9_mend_16 : decode cX9_mend 16 = .ok (.iload_n 2, 1) := by decide +kernel
theorem dX9_mend_17 : decode cX9_mend 17 = .ok (.invokevirtual 229, 3) := by decide +kernel
theorem dX9_mend_20 : decode cX9_mend 20 = .ok (.ifCond .ne 19, 3) := by decide +kernel
theorem dX9_mend_23 : decode cX9_mend 23 = .ok (.aload_n 0, 1) := by decide +kernel
theorem dX9_mend_24 : decode cX9_mend 24 = .ok (.getfield 37, 3) := by decide +kernel
theorem dX9_mend_27 : decode cX9_mend 27 = .ok (.iload_n 2, 1) := by decide +kernel
theorem dX9_mend_28 : decode cX9_mend 28 = .ok (.aaload, 1) := by decide +kernel
theorem dX9_mend_29 : decode cX9_mend 29 = .ok (.aload_n 0, 1) := by decide +kernel
theorem dX9_mend_30 : decode cX9_mend 30 = .ok (.getfield 44, 3) := by decide +kernel
theorem dX9_mend_33 : decode cX9_mend 33 = .ok (.invokevirtual 221, 3) := by decide +kernel
theorem dX9_mend_36 : decode cX9_mend 36 = .ok (.iinc 1 1, 3) := by decide +kernel
theorem dX9_mend_39 : decode cX9_mend 39 = .ok (.iinc 2 1, 3) := by decide +kernel
theorem dX9_mend_42 : decode cX9_mend 42 = .ok (.goto (-38), 3) := by decide +kernel
theorem dX9_mend_45 : decode cX9_mend 45 = .ok (.iload_n 1, 1) := by decide +kernel
theorem dX9_mend_46 : decode cX9_mend 46 = .ok (.ireturn, 1) := by decide +kernel
theorem dX9_tear_0 : decode cX9_tear 0 = .ok (.aload_n 0, 1) := by decide +kernel
theorem dX9_tear_1 : decode cX9_tear 1 = .ok (.getfield 10, 3) := by decide +kernel
theorem dX9_tear_4 : decode cX9_tear 4 = .ok (.iload_n 1, 1) := by decide +kernel
theorem dX9_tear_5 : decode cX9_tear 5 = .ok (.invokevirtual 121, 3) := by decide +kernel
theorem dX9_tear_8 : decode cX9_tear 8 = .ok (.ifCond .ne 6, 3) := by decide +kernel
theorem dX9_tear_11 : decode cX9_tear 11 = .ok (.bipush (-2), 2) := by decide +kernel
theorem dX9_tear_13 : decode cX9_tear 13 = .ok (.ireturn, 1) := by decide +kernel
theorem dX9_tear_14 : decode cX9_tear 14 = .ok (.aload_n 0, 1) := by decide +kernel
theorem dX9_tear_15 : decode cX9_tear 15 = .ok (.getfield 37, 3) := by decide +kernel
theorem dX9_tear_18 : decode cX9_tear 18 = .ok (.iload_n 1, 1) := by decide +kernel
theorem dX9_tear_19 : decode cX9_tear 19 = .ok (.aaload, 1) := by decide +kernel
theorem dX9_tear_20 : decode cX9_tear 20 = .ok (.getfield 232, 3) := by decide +kernel
theorem dX9_tear_23 : decode cX9_tear 23 = .ok (.ifCond .eq 7, 3) := by decide +kernel
theorem dX9_tear_26 : decode cX9_tear 26 = .ok (.iconst 1, 1) := by decide +kernel
theorem dX9_tear_27 : decode cX9_tear 27 = .ok (.goto 4, 3) := by decide +kernel
theorem dX9_tear_30 : decode cX9_tear 30 = .ok (.iconst 0, 1) := by decide +kernel
theorem dX9_tear_31 : decode cX9_tear 31 = .ok (.istore_n 2, 1) := by decide +kernel
theorem dX9_tear_32 : decode cX9_tear 32 = .ok (.aload_n 0, 1) := by decide +kernel
theorem dX9_tear_33 : decode cX9_tear 33 = .ok (.getfield 37, 3) := by decide +kernel
theorem dX9_tear_36 : decode cX9_tear 36 = .ok (.iload_n 1, 1) := by decide +kernel
theorem dX9_tear_37 : decode cX9_tear 37 = .ok (.aaload, 1) := by decide +kernel
theorem dX9_tear_38 : decode cX9_tear 38 = .ok (.iconst 0, 1) := by decide +kernel
theorem dX9_tear_39 : decode cX9_tear 39 = .ok (.putfield 232, 3) := by decide +kernel
theorem dX9_tear_42 : decode cX9_tear 42 = .ok (.iload_n 2, 1) := by decide +kernel
theorem dX9_tear_43 : decode cX9_tear 43 = .ok (.ireturn, 1) := by decide +kernel
theorem dX9_noted_0 : decode cX9_noted 0 = .ok (.aload_n 0, 1) := by decide +kernel
theorem dX9_noted_1 : decode cX9_noted 1 = .ok (.getfield 10, 3) := by decide +kernel
theorem dX9_noted_4 : decode cX9_noted 4 = .ok (.iload_n 1, 1) := by decide +kernel
theorem dX9_noted_5 : decode cX9_noted 5 = .ok (.invokevirtual 121, 3) := by decide +kernel
theorem dX9_noted_8 : decode cX9_noted 8 = .ok (.ifCond .ne 6, 3) := by decide +kernel
theorem dX9_noted_11 : decode cX9_noted 11 = .ok (.bipush (-2), 2) := by decide +kernel
theorem dX9_noted_13 : decode cX9_noted 13 = .ok (.ireturn, 1) := by decide +kernel
theorem dX9_noted_14 : decode cX9_noted 14 = .ok (.iload_n 2, 1) := by decide +kernel
theorem dX9_noted_15 : decode cX9_noted 15 = .ok (.ifCond .lt 9, 3) := by decide +kernel
theorem dX9_noted_18 : decode cX9_noted 18 = .ok (.iload_n 2, 1) := by decide +kernel
theorem dX9_noted_19 : decode cX9_noted 19 = .ok (.bipush 7, 2) := by decide +kernel
theorem dX9_noted_21 : decode cX9_noted 21 = .ok (.if_icmp .le 6, 3) := by decide +kernel
theorem dX9_noted_24 : decode cX9_noted 24 = .ok (.bipush (-3), 2) := by decide +kernel
theorem dX9_noted_26 : decode cX9_noted 26 = .ok (.ireturn, 1) := by decide +kernel
theorem dX9_noted_27 : decode cX9_noted 27 = .ok (.iload_n 2, 1) := by decide +kernel
theorem dX9_noted_28 : decode cX9_noted 28 = .ok (.ifCond .ne 17, 3) := by decide +kernel
theorem dX9_noted_31 : decode cX9_noted 31 = .ok (.aload_n 0, 1) := by decide +kernel
theorem dX9_noted_32 : decode cX9_noted 32 = .ok (.iload_n 1, 1) := by decide +kernel
theorem dX9_noted_33 : decode cX9_noted 33 = .ok (.invokevirtual 229, 3) := by decide +kernel
theorem dX9_noted_36 : decode cX9_noted 36 = .ok (.ifCond .eq 7, 3) := by decide +kernel
theorem dX9_noted_39 : decode cX9_noted 39 = .ok (.iconst 1, 1) := by decide +kernel
theorem dX9_noted_40 : decode cX9_noted 40 = .ok (.goto 4, 3) := by decide +kernel
theorem dX9_noted_43 : decode cX9_noted 43 = .ok (.iconst 0, 1) := by decide +kernel
theorem dX9_noted_44 : decode cX9_noted 44 = .ok (.ireturn, 1) := by decide +kernel
theorem dX9_noted_45 : decode cX9_noted 45 = .ok (.aload_n 0, 1) := by decide +kernel
theorem dX9_noted_46 : decode cX9_noted 46 = .ok (.getfield 37, 3) := by decide +kernel
theorem dX9_noted_49 : decode cX9_noted 49 = .ok (.iload_n 1, 1) := by decide +kernel
theorem dX9_noted_50 : decode cX9_noted 50 = .ok (.aaload, 1) := by decide +kernel
theorem dX9_noted_51 : decode cX9_noted 51 = .ok (.astore_n 3, 1) := by decide +kernel
theorem dX9_noted_52 : decode cX9_noted 52 = .ok (.aload_n 3, 1) := by decide +kernel
theorem dX9_noted_53 : decode cX9_noted 53 = .ok (.getfield 232, 3) := by decide +kernel
theorem dX9_noted_56 : decode cX9_noted 56 = .ok (.ifCond .ne 6, 3) := by decide +kernel
theorem dX9_noted_59 : decode cX9_noted 59 = .ok (.bipush (-4), 2) := by decide +kernel
theorem dX9_noted_61 : decode cX9_noted 61 = .ok (.ireturn, 1) := by decide +kernel
theorem dX9_noted_62 : decode cX9_noted 62 = .ok (.iload_n 2, 1) := by decide +kernel
theorem dX9_noted_63 : decode cX9_noted 63 = .ok (.iconst 3, 1) := by decide +kernel
theorem dX9_noted_64 : decode cX9_noted 64 = .ok (.if_icmp .gt 11, 3) := by decide +kernel
theorem dX9_noted_67 : decode cX9_noted 67 = .ok (.aload_n 3, 1) := by decide +kernel
theorem dX9_noted_68 : decode cX9_noted 68 = .ok (.iload_n 2, 1) := by decide +kernel
theorem dX9_noted_69 : decode cX9_noted 69 = .ok (.iconst 1, 1) := by decide +kernel
theorem dX9_noted_70 : decode cX9_noted 70 = .ok (.isub, 1) := by decide +kernel
theorem dX9_noted_71 : decode cX9_noted 71 = .ok (.invokevirtual 190, 3) := by decide +kernel
theorem dX9_noted_74 : decode cX9_noted 74 = .ok (.ireturn, 1) := by decide +kernel
theorem dX9_noted_75 : decode cX9_noted 75 = .ok (.iload_n 2, 1) := by decide +kernel
theorem dX9_noted_76 : decode cX9_noted 76 = .ok (.bipush 7, 2) := by decide +kernel
theorem dX9_noted_78 : decode cX9_noted 78 = .ok (.if_icmp .ne 10, 3) := by decide +kernel
theorem dX9_noted_81 : decode cX9_noted 81 = .ok (.aload_n 3, 1) := by decide +kernel
theorem dX9_noted_82 : decode cX9_noted 82 = .ok (.getfield 199, 3) := by decide +kernel
theorem dX9_noted_85 : decode cX9_noted 85 = .ok (.goto 12, 3) := by decide +kernel
theorem dX9_noted_88 : decode cX9_noted 88 = .ok (.aload_n 3, 1) := by decide +kernel
theorem dX9_noted_89 : decode cX9_noted 89 = .ok (.iload_n 2, 1) := by decide +kernel
theorem dX9_noted_90 : decode cX9_noted 90 = .ok (.iconst 1, 1) := by decide +kernel
theorem dX9_noted_91 : decode cX9_noted 91 = .ok (.isub, 1) := by decide +kernel
theorem dX9_noted_92 : decode cX9_noted 92 = .ok (.iconst 3, 1) := by decide +kernel
theorem dX9_noted_93 : decode cX9_noted 93 = .ok (.isub, 1) := by decide +kernel
theorem dX9_noted_94 : decode cX9_noted 94 = .ok (.invokevirtual 193, 3) := by decide +kernel
theorem dX9_noted_97 : decode cX9_noted 97 = .ok (.ireturn, 1) := by decide +kernel
theorem dX9_notedFar_0 : decode cX9_notedFar 0 = .ok (.aload_n 0, 1) := by decide +kernel
theorem dX9_notedFar_1 : decode cX9_notedFar 1 = .ok (.iload_n 1, 1) := by decide +kernel
theorem dX9_notedFar_2 : decode cX9_notedFar 2 = .ok (.iload_n 2, 1) := by decide +kernel
theorem dX9_notedFar_3 : decode cX9_notedFar 3 = .ok (.invokevirtual 128, 3) := by decide +kernel
theorem dX9_notedFar_6 : decode cX9_notedFar 6 = .ok (.ifCond .ne 6, 3) := by decide +kernel
theorem dX9_notedFar_9 : decode cX9_notedFar 9 = .ok (.bipush (-2), 2) := by decide +kernel
theorem dX9_notedFar_11 : decode cX9_notedFar 11 = .ok (.ireturn, 1) := by decide +kernel
theorem dX9_notedFar_12 : decode cX9_notedFar 12 = .ok (.aload_n 0, 1) := by decide +kernel
theorem dX9_notedFar_13 : decode cX9_notedFar 13 = .ok (.getfield 37, 3) := by decide +kernel
theorem dX9_notedFar_16 : decode cX9_notedFar 16 = .ok (.iload_n 1, 1) := by decide +kernel
theorem dX9_notedFar_17 : decode cX9_notedFar 17 = .ok (.aaload, 1) := by decide +kernel
theorem dX9_notedFar_18 : decode cX9_notedFar 18 = .ok (.iload_n 2, 1) := by decide +kernel
theorem dX9_notedFar_19 : decode cX9_notedFar 19 = .ok (.invokevirtual 235, 3) := by decide +kernel
theorem dX9_notedFar_22 : decode cX9_notedFar 22 = .ok (.ireturn, 1) := by decide +kernel
theorem dX9_told_0 : decode cX9_told 0 = .ok (.aload_n 0, 1) := by decide +kernel
theorem dX9_told_1 : decode cX9_told 1 = .ok (.iload_n 1, 1) := by decide +kernel
theorem dX9_told_2 : decode cX9_told 2 = .ok (.iload_n 2, 1) := by decide +kernel
theorem dX9_told_3 : decode cX9_told 3 = .ok (.invokevirtual 128, 3) := by decide +kernel
theorem dX9_told_6 : decode cX9_told 6 = .ok (.ifCond .ne 6, 3) := by decide +kernel
theorem dX9_told_9 : decode cX9_told 9 = .ok (.bipush (-2), 2) := by decide +kernel
theorem dX9_told_11 : decode cX9_told 11 = .ok (.ireturn, 1) := by decide +kernel
theorem dX9_told_12 : decode cX9_told 12 = .ok (.iload_n 3, 1) := by decide +kernel
theorem dX9_told_13 : decode cX9_told 13 = .ok (.ifCond .lt 8, 3) := by decide +kernel
theorem dX9_told_16 : decode cX9_told 16 = .ok (.iload_n 3, 1) := by decide +kernel
theorem dX9_told_17 : decode cX9_told 17 = .ok (.iconst 2, 1) := by decide +kernel
theorem dX9_told_18 : decode cX9_told 18 = .ok (.if_icmp .le 6, 3) := by decide +kernel
theorem dX9_told_21 : decode cX9_told 21 = .ok (.bipush (-3), 2) := by decide +kernel
theorem dX9_told_23 : decode cX9_told 23 = .ok (.ireturn, 1) := by decide +kernel
theorem dX9_told_24 : decode cX9_told 24 = .ok (.aload_n 0, 1) := by decide +kernel
theorem dX9_told_25 : decode cX9_told 25 = .ok (.getfield 72, 3) := by decide +kernel
theorem dX9_told_28 : decode cX9_told 28 = .ok (.aload_n 0, 1) := by decide +kernel
theorem dX9_told_29 : decode cX9_told 29 = .ok (.getfield 37, 3) := by decide +kernel
theorem dX9_told_32 : decode cX9_told 32 = .ok (.iload_n 1, 1) := by decide +kernel
theorem dX9_told_33 : decode cX9_told 33 = .ok (.iload_n 2, 1) := by decide +kernel
theorem dX9_told_34 : decode cX9_told 34 = .ok (.invokevirtual 238, 3) := by decide +kernel
theorem dX9_told_37 : decode cX9_told 37 = .ok (.aload_n 0, 1) := by decide +kernel
theorem dX9_told_38 : decode cX9_told 38 = .ok (.getfield 72, 3) := by decide +kernel
theorem dX9_told_41 : decode cX9_told 41 = .ok (.getfield 242, 3) := by decide +kernel
theorem dX9_told_44 : decode cX9_told 44 = .ok (.ifCond .eq 5, 3) := by decide +kernel
theorem dX9_told_47 : decode cX9_told 47 = .ok (.iconst (-1), 1) := by decide +kernel
theorem dX9_told_48 : decode cX9_told 48 = .ok (.ireturn, 1) := by decide +kernel
theorem dX9_told_49 : decode cX9_told 49 = .ok (.iload_n 3, 1) := by decide +kernel
theorem dX9_told_50 : decode cX9_told 50 = .ok (.ifCond .ne 11, 3) := by decide +kernel
theorem dX9_told_53 : decode cX9_told 53 = .ok (.aload_n 0, 1) := by decide +kernel
theorem dX9_told_54 : decode cX9_told 54 = .ok (.getfield 72, 3) := by decide +kernel
theorem dX9_told_57 : decode cX9_told 57 = .ok (.getfield 245, 3) := by decide +kernel
theorem dX9_told_60 : decode cX9_told 60 = .ok (.ireturn, 1) := by decide +kernel
theorem dX9_told_61 : decode cX9_told 61 = .ok (.iload_n 3, 1) := by decide +kernel
theorem dX9_told_62 : decode cX9_told 62 = .ok (.iconst 1, 1) := by decide +kernel
theorem dX9_told_63 : decode cX9_told 63 = .ok (.if_icmp .ne 13, 3) := by decide +kernel
theorem dX9_told_66 : decode cX9_told 66 = .ok (.aload_n 0, 1) := by decide +kernel
theorem dX9_told_67 : decode cX9_told 67 = .ok (.getfield 72, 3) := by decide +kernel
theorem dX9_told_70 : decode cX9_told 70 = .ok (.getfield 247, 3) := by decide +kernel
theorem dX9_told_73 : decode cX9_told 73 = .ok (.goto 10, 3) := by decide +kernel
theorem dX9_told_76 : decode cX9_told 76 = .ok (.aload_n 0, 1) := by decide +kernel
theorem dX9_told_77 : decode cX9_told 77 = .ok (.getfield 72, 3) := by decide +kernel
theorem dX9_told_80 : decode cX9_told 80 = .ok (.getfield 250, 3) := by decide +kernel
theorem dX9_told_83 : decode cX9_told 83 = .ok (.ireturn, 1) := by decide +kernel
theorem dX9_why_0 : decode cX9_why 0 = .ok (.aload_n 0, 1) := by decide +kernel
theorem dX9_why_1 : decode cX9_why 1 = .ok (.iload_n 1, 1) := by decide +kernel
theorem dX9_why_2 : decode cX9_why 2 = .ok (.iload_n 2, 1) := by decide +kernel
theorem dX9_why_3 : decode cX9_why 3 = .ok (.invokevirtual 128, 3) := by decide +kernel
theorem dX9_why_6 : decode cX9_why 6 = .ok (.ifCond .ne 6, 3) := by decide +kernel
theorem dX9_why_9 : decode cX9_why 9 = .ok (.bipush (-2), 2) := by decide +kernel
theorem dX9_why_11 : decode cX9_why 11 = .ok (.ireturn, 1) := by decide +kernel
theorem dX9_why_12 : decode cX9_why 12 = .ok (.iload_n 3, 1) := by decide +kernel
theorem dX9_why_13 : decode cX9_why 13 = .ok (.ifCond .lt 8, 3) := by decide +kernel
theorem dX9_why_16 : decode cX9_why 16 = .ok (.iload_n 3, 1) := by decide +kernel
theorem dX9_why_17 : decode cX9_why 17 = .ok (.iconst 2, 1) := by decide +kernel
theorem dX9_why_18 : decode cX9_why 18 = .ok (.if_icmp .le 6, 3) := by decide +kernel
theorem dX9_why_21 : decode cX9_why 21 = .ok (.bipush (-3), 2) := by decide +kernel
theorem dX9_why_23 : decode cX9_why 23 = .ok (.ireturn, 1) := by decide +kernel
theorem dX9_why_24 : decode cX9_why 24 = .ok (.aload_n 0, 1) := by decide +kernel
theorem dX9_why_25 : decode cX9_why 25 = .ok (.getfield 72, 3) := by decide +kernel
theorem dX9_why_28 : decode cX9_why 28 = .ok (.aload_n 0, 1) := by decide +kernel
theorem dX9_why_29 : decode cX9_why 29 = .ok (.getfield 37, 3) := by decide +kernel
theorem dX9_why_32 : decode cX9_why 32 = .ok (.iload_n 1, 1) := by decide +kernel
theorem dX9_why_33 : decode cX9_why 33 = .ok (.iload_n 2, 1) := by decide +kernel
theorem dX9_why_34 : decode cX9_why 34 = .ok (.invokevirtual 238, 3) := by decide +kernel
theorem dX9_why_37 : decode cX9_why 37 = .ok (.aload_n 0, 1) := by decide +kernel
theorem dX9_why_38 : decode cX9_why 38 = .ok (.getfield 72, 3) := by decide +kernel
theorem dX9_why_41 : decode cX9_why 41 = .ok (.getfield 242, 3) := by decide +kernel
theorem dX9_why_44 : decode cX9_why 44 = .ok (.ifCond .ne 5, 3) := by decide +kernel
theorem dX9_why_47 : decode cX9_why 47 = .ok (.iconst (-1), 1) := by decide +kernel
theorem dX9_why_48 : decode cX9_why 48 = .ok (.ireturn, 1) := by decide +kernel
theorem dX9_why_49 : decode cX9_why 49 = .ok (.iload_n 3, 1) := by decide +kernel
theorem dX9_why_50 : decode cX9_why 50 = .ok (.ifCond .ne 11, 3) := by decide +kernel
theorem dX9_why_53 : decode cX9_why 53 = .ok (.aload_n 0, 1) := by decide +kernel
theorem dX9_why_54 : decode cX9_why 54 = .ok (.getfield 72, 3) := by decide +kernel
theorem dX9_why_57 : decode cX9_why 57 = .ok (.getfield 242, 3) := by decide +kernel
theorem dX9_why_60 : decode cX9_why 60 = .ok (.ireturn, 1) := by decide +kernel
theorem dX9_why_61 : decode cX9_why 61 = .ok (.iload_n 3, 1) := by decide +kernel
theorem dX9_why_62 : decode cX9_why 62 = .ok (.iconst 1, 1) := by decide +kernel
theorem dX9_why_63 : decode cX9_why 63 = .ok (.if_icmp .ne 13, 3) := by decide +kernel
theorem dX9_why_66 : decode cX9_why 66 = .ok (.aload_n 0, 1) := by decide +kernel
theorem dX9_why_67 : decode cX9_why 67 = .ok (.getfield 72, 3) := by decide +kernel
theorem dX9_why_70 : decode cX9_why 70 = .ok (.getfield 250, 3) := by decide +kernel
theorem dX9_why_73 : decode cX9_why 73 = .ok (.goto 10, 3) := by decide +kernel
theorem dX9_why_76 : decode cX9_why 76 = .ok (.aload_n 0, 1) := by decide +kernel
theorem dX9_why_77 : decode cX9_why 77 = .ok (.getfield 72, 3) := by decide +kernel
theorem dX9_why_80 : decode cX9_why 80 = .ok (.getfield 253, 3) := by decide +kernel
theorem dX9_why_83 : decode cX9_why 83 = .ok (.ireturn, 1) := by decide +kernel
theorem dX9_route_0 : decode cX9_route 0 = .ok (.aload_n 0, 1) := by decide +kernel
theorem dX9_route_1 : decode cX9_route 1 = .ok (.iload_n 1, 1) := by decide +kernel
theorem dX9_route_2 : decode cX9_route 2 = .ok (.iload_n 2, 1) := by decide +kernel
theorem dX9_route_3 : decode cX9_route 3 = .ok (.invokevirtual 128, 3) := by decide +kernel
theorem dX9_route_6 : decode cX9_route 6 = .ok (.ifCond .ne 6, 3) := by decide +kernel
theorem dX9_route_9 : decode cX9_route 9 = .ok (.bipush (-2), 2) := by decide +kernel
theorem dX9_route_11 : decode cX9_route 11 = .ok (.ireturn, 1) := by decide +kernel
theorem dX9_route_12 : decode cX9_route 12 = .ok (.aload_n 0, 1) := by decide +kernel
theorem dX9_route_13 : decode cX9_route 13 = .ok (.getfield 72, 3) := by decide +kernel
theorem dX9_route_16 : decode cX9_route 16 = .ok (.aload_n 0, 1) := by decide +kernel
theorem dX9_route_17 : decode cX9_route 17 = .ok (.getfield 37, 3) := by decide +kernel
theorem dX9_route_20 : decode cX9_route 20 = .ok (.iload_n 1, 1) := by decide +kernel
theorem dX9_route_21 : decode cX9_route 21 = .ok (.iload_n 2, 1) := by decide +kernel
theorem dX9_route_22 : decode cX9_route 22 = .ok (.invokevirtual 238, 3) := by decide +kernel
theorem dX9_route_25 : decode cX9_route 25 = .ok (.aload_n 0, 1) := by decide +kernel
theorem dX9_route_26 : decode cX9_route 26 = .ok (.getfield 72, 3) := by decide +kernel
theorem dX9_route_29 : decode cX9_route 29 = .ok (.getfield 242, 3) := by decide +kernel
theorem dX9_route_32 : decode cX9_route 32 = .ok (.ifCond .eq 6, 3) := by decide +kernel
theorem dX9_route_35 : decode cX9_route 35 = .ok (.bipush (-4), 2) := by decide +kernel
theorem dX9_route_37 : decode cX9_route 37 = .ok (.ireturn, 1) := by decide +kernel
theorem dX9_route_38 : decode cX9_route 38 = .ok (.aload_n 0, 1) := by decide +kernel
theorem dX9_route_39 : decode cX9_route 39 = .ok (.getfield 72, 3) := by decide +kernel
theorem dX9_route_42 : decode cX9_route 42 = .ok (.getfield 247, 3) := by decide +kernel
theorem dX9_route_45 : decode cX9_route 45 = .ok (.istore 4, 2) := by decide +kernel
theorem dX9_route_47 : decode cX9_route 47 = .ok (.aload_n 0, 1) := by decide +kernel
theorem dX9_route_48 : decode cX9_route 48 = .ok (.getfield 58, 3) := by decide +kernel
theorem dX9_route_51 : decode cX9_route 51 = .ok (.aload_n 0, 1) := by decide +kernel
theorem dX9_route_52 : decode cX9_route 52 = .ok (.getfield 10, 3) := by decide +kernel
theorem dX9_route_55 : decode cX9_route 55 = .ok (.invokevirtual 182, 3) := by decide +kernel
theorem dX9_route_58 : decode cX9_route 58 = .ok (.aload_n 0, 1) := by decide +kernel
theorem dX9_route_59 : decode cX9_route 59 = .ok (.getfield 58, 3) := by decide +kernel
theorem dX9_route_62 : decode cX9_route 62 = .ok (.iload_n 1, 1) := by decide +kernel
theorem dX9_route_63 : decode cX9_route 63 = .ok (.iload 4, 2) := by decide +kernel
theorem dX9_route_65 : decode cX9_route 65 = .ok (.invokevirtual 184, 3) := by decide +kernel
theorem dX9_route_68 : decode cX9_route 68 = .ok (.iconst (-1), 1) := by decide +kernel
theorem dX9_route_69 : decode cX9_route 69 = .ok (.if_icmp .eq 17, 3) := by decide +kernel
theorem dX9_route_72 : decode cX9_route 72 = .ok (.aload_n 0, 1) := by decide +kernel
theorem dX9_route_73 : decode cX9_route 73 = .ok (.getfield 58, 3) := by decide +kernel
theorem dX9_route_76 : decode cX9_route 76 = .ok (.iload 4, 2) := by decide +kernel
theorem dX9_route_78 : decode cX9_route 78 = .ok (.iload_n 2, 1) := by decide +kernel
theorem dX9_route_79 : decode cX9_route 79 = .ok (.invokevirtual 184, 3) := by decide +kernel
theorem dX9_route_82 : decode cX9_route 82 = .ok (.iconst (-1), 1) := by decide +kernel
theorem dX9_route_83 : decode cX9_route 83 = .ok (.if_icmp .ne 6, 3) := by decide +kernel
theorem dX9_route_86 : decode cX9_route 86 = .ok (.bipush (-4), 2) := by decide +kernel
theorem dX9_route_88 : decode cX9_route 88 = .ok (.ireturn, 1) := by decide +kernel
theorem dX9_route_89 : decode cX9_route 89 = .ok (.iload_n 3, 1) := by decide +kernel
theorem dX9_route_90 : decode cX9_route 90 = .ok (.ifCond .ge 5, 3) := by decide +kernel
theorem dX9_route_93 : decode cX9_route 93 = .ok (.iconst (-1), 1) := by decide +kernel
theorem dX9_route_94 : decode cX9_route 94 = .ok (.ireturn, 1) := by decide +kernel
theorem dX9_route_95 : decode cX9_route 95 = .ok (.aload_n 0, 1) := by decide +kernel
theorem dX9_route_96 : decode cX9_route 96 = .ok (.iload_n 1, 1) := by decide +kernel
theorem dX9_route_97 : decode cX9_route 97 = .ok (.iload 4, 2) := by decide +kernel
theorem dX9_route_99 : decode cX9_route 99 = .ok (.invokevirtual 256, 3) := by decide +kernel
theorem dX9_route_102 : decode cX9_route 102 = .ok (.istore 5, 2) := by decide +kernel
theorem dX9_route_104 : decode cX9_route 104 = .ok (.iload_n 3, 1) := by decide +kernel
theorem dX9_route_105 : decode cX9_route 105 = .ok (.iload 5, 2) := by decide +kernel
theorem dX9_route_107 : decode cX9_route 107 = .ok (.if_icmp .gt 12, 3) := by decide +kernel
theorem dX9_route_110 : decode cX9_route 110 = .ok (.aload_n 0, 1) := by decide +kernel
theorem dX9_route_111 : decode cX9_route 111 = .ok (.iload_n 1, 1) := by decide +kernel
theorem dX9_route_112 : decode cX9_route 112 = .ok (.iload 4, 2) := by decide +kernel
theorem dX9_route_114 : decode cX9_route 114 = .ok (.iload_n 3, 1) := by decide +kernel
theorem dX9_route_115 : decode cX9_route 115 = .ok (.invokevirtual 259, 3) := by decide +kernel
theorem dX9_route_118 : decode cX9_route 118 = .ok (.ireturn, 1) := by decide +kernel
theorem dX9_route_119 : decode cX9_route 119 = .ok (.iload_n 3, 1) := by decide +kernel
theorem dX9_route_120 : decode cX9_route 120 = .ok (.iload 5, 2) := by decide +kernel
theorem dX9_route_122 : decode cX9_route 122 = .ok (.isub, 1) := by decide +kernel
theorem dX9_route_123 : decode cX9_route 123 = .ok (.aload_n 0, 1) := by decide +kernel
theorem dX9_route_124 : decode cX9_route 124 = .ok (.iload 4, 2) := by decide +kernel
theorem dX9_route_126 : decode cX9_route 126 = .ok (.iload_n 2, 1) := by decide +kernel
theorem dX9_route_127 : decode cX9_route 127 = .ok (.invokevirtual 256, 3) := by decide +kernel
theorem dX9_route_130 : decode cX9_route 130 = .ok (.if_icmp .gt 17, 3) := by decide +kernel
theorem dX9_route_133 : decode cX9_route 133 = .ok (.aload_n 0, 1) := by decide +kernel
theorem dX9_route_134 : decode cX9_route 134 = .ok (.iload 4, 2) := by decide +kernel
theorem dX9_route_136 : decode cX9_route 136 = .ok (.iload_n 2, 1) := by decide +kernel
theorem dX9_route_137 : decode cX9_route 137 = .ok (.iload_n 3, 1) := by decide +kernel
theorem dX9_route_138 : decode cX9_route 138 = .ok (.iload 5, 2) := by decide +kernel
theorem dX9_route_140 : decode cX9_route 140 = .ok (.isub, 1) := by decide +kernel
theorem dX9_route_141 : decode cX9_route 141 = .ok (.invokevirtual 259, 3) := by decide +kernel
theorem dX9_route_144 : decode cX9_route 144 = .ok (.goto 4, 3) := by decide +kernel
theorem dX9_route_147 : decode cX9_route 147 = .ok (.iconst (-1), 1) := by decide +kernel
theorem dX9_route_148 : decode cX9_route 148 = .ok (.ireturn, 1) := by decide +kernel
theorem dX9_pairs_0 : decode cX9_pairs 0 = .ok (.iload_n 1, 1) := by decide +kernel
theorem dX9_pairs_1 : decode cX9_pairs 1 = .ok (.ifCond .lt 8, 3) := by decide +kernel
theorem dX9_pairs_4 : decode cX9_pairs 4 = .ok (.iload_n 1, 1) := by decide +kernel
theorem dX9_pairs_5 : decode cX9_pairs 5 = .ok (.iconst 3, 1) := by decide +kernel
theorem dX9_pairs_6 : decode cX9_pairs 6 = .ok (.if_icmp .le 6, 3) := by decide +kernel
theorem dX9_pairs_9 : decode cX9_pairs 9 = .ok (.bipush (-3), 2) := by decide +kernel
theorem dX9_pairs_11 : decode cX9_pairs 11 = .ok (.ireturn, 1) := by decide +kernel
theorem dX9_pairs_12 : decode cX9_pairs 12 = .ok (.aload_n 0, 1) := by decide +kernel
theorem dX9_pairs_13 : decode cX9_pairs 13 = .ok (.invokevirtual 263, 3) := by decide +kernel
theorem dX9_pairs_16 : decode cX9_pairs 16 = .ok (.istore_n 2, 1) := by decide +kernel
theorem dX9_pairs_17 : decode cX9_pairs 17 = .ok (.iload_n 1, 1) := by decide +kernel
theorem dX9_pairs_18 : decode cX9_pairs 18 = .ok (.iconst 3, 1) := by decide +kernel
theorem dX9_pairs_19 : decode cX9_pairs 19 = .ok (.if_icmp .ne 5, 3) := by decide +kernel
theorem dX9_pairs_22 : decode cX9_pairs 22 = .ok (.iload_n 2, 1) := by decide +kernel
theorem dX9_pairs_23 : decode cX9_pairs 23 = .ok (.ireturn, 1) := by decide +kernel
theorem dX9_pairs_24 : decode cX9_pairs 24 = .ok (.iload_n 1, 1) := by decide +kernel
theorem dX9_pairs_25 : decode cX9_pairs 25 = .ok (.iconst 2, 1) := by decide +kernel
theorem dX9_pairs_26 : decode cX9_pairs 26 = .ok (.if_icmp .ne 11, 3) := by decide +kernel
theorem dX9_pairs_29 : decode cX9_pairs 29 = .ok (.aload_n 0, 1) := by decide +kernel
theorem dX9_pairs_30 : decode cX9_pairs 30 = .ok (.getfield 79, 3) := by decide +kernel
theorem dX9_pairs_33 : decode cX9_pairs 33 = .ok (.getfield 209, 3) := by decide +kernel
theorem dX9_pairs_36 : decode cX9_pairs 36 = .ok (.ireturn, 1) := by decide +kernel
theorem dX9_pairs_37 : decode cX9_pairs 37 = .ok (.aload_n 0, 1) := by decide +kernel
theorem dX9_pairs_38 : decode cX9_pairs 38 = .ok (.getfield 79, 3) := by decide +kernel
theorem dX9_pairs_41 : decode cX9_pairs 41 = .ok (.getfield 209, 3) := by decide +kernel
theorem dX9_pairs_44 : decode cX9_pairs 44 = .ok (.ifCond .ne 5, 3) := by decide +kernel
theorem dX9_pairs_47 : decode cX9_pairs 47 = .ok (.iconst (-1), 1) := by decide +kernel
theorem dX9_pairs_48 : decode cX9_pairs 48 = .ok (.ireturn, 1) := by decide +kernel
theorem dX9_pairs_49 : decode cX9_pairs 49 = .ok (.iload_n 1, 1) := by decide +kernel
theorem dX9_pairs_50 : decode cX9_pairs 50 = .ok (.ifCond .ne 13, 3) := by decide +kernel
theorem dX9_pairs_53 : decode cX9_pairs 53 = .ok (.aload_n 0, 1) := by decide +kernel
theorem dX9_pairs_54 : decode cX9_pairs 54 = .ok (.getfield 79, 3) := by decide +kernel
theorem dX9_pairs_57 : decode cX9_pairs 57 = .ok (.getfield 266, 3) := by decide +kernel
theorem dX9_pairs_60 : decode cX9_pairs 60 = .ok (.goto 10, 3) := by decide +kernel
theorem dX9_pairs_63 : decode cX9_pairs 63 = .ok (.aload_n 0, 1) := by decide +kernel
theorem dX9_pairs_64 : decode cX9_pairs 64 = .ok (.getfield 79, 3) := by decide +kernel
theorem dX9_pairs_67 : decode cX9_pairs 67 = .ok (.getfield 269, 3) := by decide +kernel
theorem dX9_pairs_70 : decode cX9_pairs 70 = .ok (.ireturn, 1) := by decide +kernel
theorem dX9_count_0 : decode cX9_count 0 = .ok (.iload_n 1, 1) := by decide +kernel
theorem dX9_count_1 : decode cX9_count 1 = .ok (.tableswitch 135 0 11 #[63, 71, 79, 84, 89, 94, 99, 107, 115, 123, 123, 123], 63) := by decide +kernel
theorem dX9_count_64 : decode cX9_count 64 = .ok (.aload_n 0, 1) := by decide +kernel
theorem dX9_count_65 : decode cX9_count 65 = .ok (.getfield 10, 3) := by decide +kernel
theorem dX9_count_68 : decode cX9_count 68 = .ok (.getfield 152, 3) := by decide +kernel
theorem dX9_count_71 : decode cX9_count 71 = .ok (.ireturn, 1) := by decide +kernel
theorem dX9_count_72 : decode cX9_count 72 = .ok (.aload_n 0, 1) := by decide +kernel
theorem dX9_count_73 : decode cX9_count 73 = .ok (.getfield 10, 3) := by decide +kernel
theorem dX9_count_76 : decode cX9_count 76 = .ok (.getfield 142, 3) := by decide +kernel
theorem dX9_count_79 : decode cX9_count 79 = .ok (.ireturn, 1) := by decide +kernel
theorem dX9_count_80 : decode cX9_count 80 = .ok (.aload_n 0, 1) := by decide +kernel
theorem dX9_count_81 : decode cX9_count 81 = .ok (.invokevirtual 272, 3) := by decide +kernel
theorem dX9_count_84 : decode cX9_count 84 = .ok (.ireturn, 1) := by decide +kernel
theorem dX9_count_85 : decode cX9_count 85 = .ok (.aload_n 0, 1) := by decide +kernel
theorem dX9_count_86 : decode cX9_count 86 = .ok (.invokevirtual 179, 3) := by decide +kernel
theorem dX9_count_89 : decode cX9_count 89 = .ok (.ireturn, 1) := by decide +kernel
theorem dX9_count_90 : decode cX9_count 90 = .ok (.aload_n 0, 1) := by decide +kernel
theorem dX9_count_91 : decode cX9_count 91 = .ok (.invokevirtual 275, 3) := by decide +kernel
theorem dX9_count_94 : decode cX9_count 94 = .ok (.ireturn, 1) := by decide +kernel
theorem dX9_count_95 : decode cX9_count 95 = .ok (.aload_n 0, 1) := by decide +kernel
theorem dX9_count_96 : decode cX9_count 96 = .ok (.invokevirtual 278, 3) := by decide +kernel
theorem dX9_count_99 : decode cX9_count 99 = .ok (.ireturn, 1) := by decide +kernel
theorem dX9_count_100 : decode cX9_count 100 = .ok (.aload_n 0, 1) := by decide +kernel
theorem dX9_count_101 : decode cX9_count 101 = .ok (.getfield 29, 3) := by decide +kernel
theorem dX9_count_104 : decode cX9_count 104 = .ok (.getfield 106, 3) := by decide +kernel
theorem dX9_count_107 : decode cX9_count 107 = .ok (.ireturn, 1) := by decide +kernel
theorem dX9_count_108 : decode cX9_count 108 = .ok (.aload_n 0, 1) := by decide +kernel
theorem dX9_count_109 : decode cX9_count 109 = .ok (.getfield 22, 3) := by decide +kernel
theorem dX9_count_112 : decode cX9_count 112 = .ok (.getfield 83, 3) := by decide +kernel
theorem dX9_count_115 : decode cX9_count 115 = .ok (.ireturn, 1) := by decide +kernel
theorem dX9_count_116 : decode cX9_count 116 = .ok (.aload_n 0, 1) := by decide +kernel
theorem dX9_count_117 : decode cX9_count 117 = .ok (.getfield 10, 3) := by decide +kernel
theorem dX9_count_120 : decode cX9_count 120 = .ok (.getfield 281, 3) := by decide +kernel
theorem dX9_count_123 : decode cX9_count 123 = .ok (.ireturn, 1) := by decide +kernel
theorem dX9_count_124 : decode cX9_count 124 = .ok (.aload_n 0, 1) := by decide +kernel
theorem dX9_count_125 : decode cX9_count 125 = .ok (.getfield 10, 3) := by decide +kernel
theorem dX9_count_128 : decode cX9_count 128 = .ok (.iload_n 1, 1) := by decide +kernel
theorem dX9_count_129 : decode cX9_count 129 = .ok (.bipush 9, 2) := by decide +kernel
theorem dX9_count_131 : decode cX9_count 131 = .ok (.isub, 1) := by decide +kernel
theorem dX9_count_132 : decode cX9_count 132 = .ok (.invokevirtual 155, 3) := by decide +kernel
theorem dX9_count_135 : decode cX9_count 135 = .ok (.ireturn, 1) := by decide +kernel
theorem dX9_count_136 : decode cX9_count 136 = .ok (.bipush (-3), 2) := by decide +kernel
theorem dX9_count_138 : decode cX9_count 138 = .ok (.ireturn, 1) := by decide +kernel
theorem dX9_blankNotes_0 : decode cX9_blankNotes 0 = .ok (.bipush 12, 2) := by decide +kernel
theorem dX9_blankNotes_2 : decode cX9_blankNotes 2 = .ok (.anewarray 41, 3) := by decide +kernel
theorem dX9_blankNotes_5 : decode cX9_blankNotes 5 = .ok (.astore_n 0, 1) := by decide +kernel
theorem dX9_blankNotes_6 : decode cX9_blankNotes 6 = .ok (.iconst 0, 1) := by decide +kernel
theorem dX9_blankNotes_7 : decode cX9_blankNotes 7 = .ok (.istore_n 1, 1) := by decide +kernel
theorem dX9_blankNotes_8 : decode cX9_blankNotes 8 = .ok (.iload_n 1, 1) := by decide +kernel
theorem dX9_blankNotes_9 : decode cX9_blankNotes 9 = .ok (.bipush 12, 2) := by decide +kernel
theorem dX9_blankNotes_11 : decode cX9_blankNotes 11 = .ok (.if_icmp .ge 19, 3) := by decide +kernel
theorem dX9_blankNotes_14 : decode cX9_blankNotes 14 = .ok (.aload_n 0, 1) := by decide +kernel
theorem dX9_blankNotes_15 : decode cX9_blankNotes 15 = .ok (.iload_n 1, 1) := by decide +kernel
theorem dX9_blankNotes_16 : decode cX9_blankNotes 16 = .ok (.new 41, 3) := by decide +kernel
theorem dX9_blankNotes_19 : decode cX9_blankNotes 19 = .ok (.dup, 1) := by decide +kernel
theorem dX9_blankNotes_20 : decode cX9_blankNotes 20 = .ok (.invokespecial 43, 3) := by decide +kernel
theorem dX9_blankNotes_23 : decode cX9_blankNotes 23 = .ok (.aastore, 1) := by decide +kernel
theorem dX9_blankNotes_24 : decode cX9_blankNotes 24 = .ok (.iinc 1 1, 3) := by decide +kernel
theorem dX9_blankNotes_27 : decode cX9_blankNotes 27 = .ok (.goto (-19), 3) := by decide +kernel
theorem dX9_blankNotes_30 : decode cX9_blankNotes 30 = .ok (.aload_n 0, 1) := by decide +kernel
theorem dX9_blankNotes_31 : decode cX9_blankNotes 31 = .ok (.areturn, 1) := by decide +kernel
theorem dX9_copyNotes_0 : decode cX9_copyNotes 0 = .ok (.iconst 0, 1) := by decide +kernel
theorem dX9_copyNotes_1 : decode cX9_copyNotes 1 = .ok (.istore_n 2, 1) := by decide +kernel
theorem dX9_copyNotes_2 : decode cX9_copyNotes 2 = .ok (.iload_n 2, 1) := by decide +kernel
theorem dX9_copyNotes_3 : decode cX9_copyNotes 3 = .ok (.bipush 12, 2) := by decide +kernel
theorem dX9_copyNotes_5 : decode cX9_copyNotes 5 = .ok (.if_icmp .ge 18, 3) := by decide +kernel
theorem dX9_copyNotes_8 : decode cX9_copyNotes 8 = .ok (.aload_n 1, 1) := by decide +kernel
theorem dX9_copyNotes_9 : decode cX9_copyNotes 9 = .ok (.iload_n 2, 1) := by decide +kernel
theorem dX9_copyNotes_10 : decode cX9_copyNotes 10 = .ok (.aaload, 1) := by decide +kernel
theorem dX9_copyNotes_11 : decode cX9_copyNotes 11 = .ok (.aload_n 0, 1) := by decide +kernel
theorem dX9_copyNotes_12 : decode cX9_copyNotes 12 = .ok (.iload_n 2, 1) := by decide +kernel
theorem dX9_copyNotes_13 : decode cX9_copyNotes 13 = .ok (.aaload, 1) := by decide +kernel
theorem dX9_copyNotes_14 : decode cX9_copyNotes 14 = .ok (.invokevirtual 221, 3) := by decide +kernel
theorem dX9_copyNotes_17 : decode cX9_copyNotes 17 = .ok (.iinc 2 1, 3) := by decide +kernel
theorem dX9_copyNotes_20 : decode cX9_copyNotes 20 = .ok (.goto (-18), 3) := by decide +kernel
theorem dX9_copyNotes_23 : decode cX9_copyNotes 23 = .ok (.return_, 1) := by decide +kernel
theorem dX9_cell_0 : decode cX9_cell 0 = .ok (.iload_n 0, 1) := by decide +kernel
theorem dX9_cell_1 : decode cX9_cell 1 = .ok (.bipush 12, 2) := by decide +kernel
theorem dX9_cell_3 : decode cX9_cell 3 = .ok (.imul, 1) := by decide +kernel
theorem dX9_cell_4 : decode cX9_cell 4 = .ok (.iload_n 1, 1) := by decide +kernel
theorem dX9_cell_5 : decode cX9_cell 5 = .ok (.iadd, 1) := by decide +kernel
theorem dX9_cell_6 : decode cX9_cell 6 = .ok (.ireturn, 1) := by decide +kernel
theorem dX9_commonPart_0 : decode cX9_commonPart 0 = .ok (.iload_n 0, 1) := by decide +kernel
theorem dX9_commonPart_1 : decode cX9_commonPart 1 = .ok (.istore_n 2, 1) := by decide +kernel
theorem dX9_commonPart_2 : decode cX9_commonPart 2 = .ok (.iload_n 1, 1) := by decide +kernel
theorem dX9_commonPart_3 : decode cX9_commonPart 3 = .ok (.istore_n 3, 1) := by decide +kernel
theorem dX9_commonPart_4 : decode cX9_commonPart 4 = .ok (.iconst 0, 1) := by decide +kernel
theorem dX9_commonPart_5 : decode cX9_commonPart 5 = .ok (.istore 4, 2) := by decide +kernel
theorem dX9_commonPart_7 : decode cX9_commonPart 7 = .ok (.iload 4, 2) := by decide +kernel
theorem dX9_commonPart_9 : decode cX9_commonPart 9 = .ok (.bipush 64, 2) := by decide +kernel
theorem dX9_commonPart_11 : decode cX9_commonPart 11 = .ok (.if_icmp .ge 23, 3) := by decide +kernel
theorem dX9_commonPart_14 : decode cX9_commonPart 14 = .ok (.iload_n 3, 1) := by decide +kernel
theorem dX9_commonPart_15 : decode cX9_commonPart 15 = .ok (.ifCond .eq 19, 3) := by decide +kernel
theorem dX9_commonPart_18 : decode cX9_commonPart 18 = .ok (.iload_n 2, 1) := by decide +kernel
theorem dX9_commonPart_19 : decode cX9_commonPart 19 = .ok (.iload_n 3, 1) := by decide +kernel
theorem dX9_commonPart_20 : decode cX9_commonPart 20 = .ok (.irem, 1) := by decide +kernel
theorem dX9_commonPart_21 : decode cX9_commonPart 21 = .ok (.istore 5, 2) := by decide +kernel
theorem dX9_commonPart_23 : decode cX9_commonPart 23 = .ok (.iload_n 3, 1) := by decide +kernel
theorem dX9_commonPart_24 : decode cX9_commonPart 24 = .ok (.istore_n 2, 1) := by decide +kernel
theorem dX9_commonPart_25 : decode cX9_commonPart 25 = .ok (.iload 5, 2) := by decide +kernel
theorem dX9_commonPart_27 : decode cX9_commonPart 27 = .ok (.istore_n 3, 1) := by decide +kernel
theorem dX9_commonPart_28 : decode cX9_commonPart 28 = .ok (.iinc 4 1, 3) := by decide +kernel
theorem dX9_commonPart_31 : decode cX9_commonPart 31 = .ok (.goto (-24), 3) := by decide +kernel
theorem dX9_commonPart_34 : decode cX9_commonPart 34 = .ok (.iload_n 2, 1) := by decide +kernel
theorem dX9_commonPart_35 : decode cX9_commonPart 35 = .ok (.ireturn, 1) := by decide +kernel
theorem dX9_bothThere_0 : decode cX9_bothThere 0 = .ok (.aload_n 0, 1) := by decide +kernel
theorem dX9_bothThere_1 : decode cX9_bothThere 1 = .ok (.getfield 10, 3) := by decide +kernel
theorem dX9_bothThere_4 : decode cX9_bothThere 4 = .ok (.iload_n 1, 1) := by decide +kernel
theorem dX9_bothThere_5 : decode cX9_bothThere 5 = .ok (.invokevirtual 121, 3) := by decide +kernel
theorem dX9_bothThere_8 : decode cX9_bothThere 8 = .ok (.ifCond .eq 18, 3) := by decide +kernel
theorem dX9_bothThere_11 : decode cX9_bothThere 11 = .ok (.aload_n 0, 1) := by decide +kernel
theorem dX9_bothThere_12 : decode cX9_bothThere 12 = .ok (.getfield 10, 3) := by decide +kernel
theorem dX9_bothThere_15 : decode cX9_bothThere 15 = .ok (.iload_n 2, 1) := by decide +kernel
theorem dX9_bothThere_16 : decode cX9_bothThere 16 = .ok (.invokevirtual 121, 3) := by decide +kernel
theorem dX9_bothThere_19 : decode cX9_bothThere 19 = .ok (.ifCond .eq 7, 3) := by decide +kernel
theorem dX9_bothThere_22 : decode cX9_bothThere 22 = .ok (.iconst 1, 1) := by decide +kernel
theorem dX9_bothThere_23 : decode cX9_bothThere 23 = .ok (.goto 4, 3) := by decide +kernel
theorem dX9_bothThere_26 : decode cX9_bothThere 26 = .ok (.iconst 0, 1) := by decide +kernel
theorem dX9_bothThere_27 : decode cX9_bothThere 27 = .ok (.ireturn, 1) := by decide +kernel
theorem dX9_readText_0 : decode cX9_readText 0 = .ok (.aload_n 0, 1) := by decide +kernel
theorem dX9_readText_1 : decode cX9_readText 1 = .ok (.getfield 16, 3) := by decide +kernel
theorem dX9_readText_4 : decode cX9_readText 4 = .ok (.aload_n 0, 1) := by decide +kernel
theorem dX9_readText_5 : decode cX9_readText 5 = .ok (.getfield 10, 3) := by decide +kernel
theorem dX9_readText_8 : decode cX9_readText 8 = .ok (.invokevirtual 95, 3) := by decide +kernel
theorem dX9_readText_11 : decode cX9_readText 11 = .ok (.aload_n 0, 1) := by decide +kernel
theorem dX9_readText_12 : decode cX9_readText 12 = .ok (.getfield 22, 3) := by decide +kernel
theorem dX9_readText_15 : decode cX9_readText 15 = .ok (.aload_n 0, 1) := by decide +kernel
theorem dX9_readText_16 : decode cX9_readText 16 = .ok (.getfield 16, 3) := by decide +kernel
theorem dX9_readText_19 : decode cX9_readText 19 = .ok (.invokevirtual 284, 3) := by decide +kernel
theorem dX9_readText_22 : decode cX9_readText 22 = .ok (.ireturn, 1) := by decide +kernel
theorem dX9_blankAll_0 : decode cX9_blankAll 0 = .ok (.iconst 0, 1) := by decide +kernel
theorem dX9_blankAll_1 : decode cX9_blankAll 1 = .ok (.istore_n 1, 1) := by decide +kernel
theorem dX9_blankAll_2 : decode cX9_blankAll 2 = .ok (.iload_n 1, 1) := by decide +kernel
theorem dX9_blankAll_3 : decode cX9_blankAll 3 = .ok (.bipush 12, 2) := by decide +kernel
theorem dX9_blankAll_5 : decode cX9_blankAll 5 = .ok (.if_icmp .ge 19, 3) := by decide +kernel
theorem dX9_blankAll_8 : decode cX9_blankAll 8 = .ok (.aload_n 0, 1) := by decide +kernel
theorem dX9_blankAll_9 : decode cX9_blankAll 9 = .ok (.getfield 37, 3) := by decide +kernel
theorem dX9_blankAll_12 : decode cX9_blankAll 12 = .ok (.iload_n 1, 1) := by decide +kernel
theorem dX9_blankAll_13 : decode cX9_blankAll 13 = .ok (.aaload, 1) := by decide +kernel
theorem dX9_blankAll_14 : decode cX9_blankAll 14 = .ok (.iconst 0, 1) := by decide +kernel
theorem dX9_blankAll_15 : decode cX9_blankAll 15 = .ok (.putfield 232, 3) := by decide +kernel
theorem dX9_blankAll_18 : decode cX9_blankAll 18 = .ok (.iinc 1 1, 3) := by decide +kernel
theorem dX9_blankAll_21 : decode cX9_blankAll 21 = .ok (.goto (-19), 3) := by decide +kernel
theorem dX9_blankAll_24 : decode cX9_blankAll 24 = .ok (.return_, 1) := by decide +kernel
theorem dX9_forgetSlots_0 : decode cX9_forgetSlots 0 = .ok (.iconst 0, 1) := by decide +kernel
theorem dX9_forgetSlots_1 : decode cX9_forgetSlots 1 = .ok (.istore_n 1, 1) := by decide +kernel
theorem dX9_forgetSlots_2 : decode cX9_forgetSlots 2 = .ok (.iload_n 1, 1) := by decide +kernel
theorem dX9_forgetSlots_3 : decode cX9_forgetSlots 3 = .ok (.iconst 2, 1) := by decide +kernel
theorem dX9_forgetSlots_4 : decode cX9_forgetSlots 4 = .ok (.if_icmp .ge 19, 3) := by decide +kernel
theorem dX9_forgetSlots_7 : decode cX9_forgetSlots 7 = .ok (.aload_n 0, 1) := by decide +kernel
theorem dX9_forgetSlots_8 : decode cX9_forgetSlots 8 = .ok (.getfield 50, 3) := by decide +kernel
theorem dX9_forgetSlots_11 : decode cX9_forgetSlots 11 = .ok (.iload_n 1, 1) := by decide +kernel
theorem dX9_forgetSlots_12 : decode cX9_forgetSlots 12 = .ok (.aaload, 1) := by decide +kernel
theorem dX9_forgetSlots_13 : decode cX9_forgetSlots 13 = .ok (.iconst 0, 1) := by decide +kernel
theorem dX9_forgetSlots_14 : decode cX9_forgetSlots 14 = .ok (.putfield 168, 3) := by decide +kernel
theorem dX9_forgetSlots_17 : decode cX9_forgetSlots 17 = .ok (.iinc 1 1, 3) := by decide +kernel
theorem dX9_forgetSlots_20 : decode cX9_forgetSlots 20 = .ok (.goto (-18), 3) := by decide +kernel
theorem dX9_forgetSlots_23 : decode cX9_forgetSlots 23 = .ok (.return_, 1) := by decide +kernel
theorem dX9_writeDraft_0 : decode cX9_writeDraft 0 = .ok (.aload_n 0, 1) := by decide +kernel
theorem dX9_writeDraft_1 : decode cX9_writeDraft 1 = .ok (.getfield 58, 3) := by decide +kernel
theorem dX9_writeDraft_4 : decode cX9_writeDraft 4 = .ok (.aload_n 0, 1) := by decide +kernel
theorem dX9_writeDraft_5 : decode cX9_writeDraft 5 = .ok (.getfield 10, 3) := by decide +kernel
theorem dX9_writeDraft_8 : decode cX9_writeDraft 8 = .ok (.invokevirtual 182, 3) := by decide +kernel
theorem dX9_writeDraft_11 : decode cX9_writeDraft 11 = .ok (.aload_n 0, 1) := by decide +kernel
theorem dX9_writeDraft_12 : decode cX9_writeDraft 12 = .ok (.getfield 44, 3) := by decide +kernel
theorem dX9_writeDraft_15 : decode cX9_writeDraft 15 = .ok (.aload_n 0, 1) := by decide +kernel
theorem dX9_writeDraft_16 : decode cX9_writeDraft 16 = .ok (.getfield 10, 3) := by decide +kernel
theorem dX9_writeDraft_19 : decode cX9_writeDraft 19 = .ok (.aload_n 0, 1) := by decide +kernel
theorem dX9_writeDraft_20 : decode cX9_writeDraft 20 = .ok (.getfield 58, 3) := by decide +kernel
theorem dX9_writeDraft_23 : decode cX9_writeDraft 23 = .ok (.iload_n 1, 1) := by decide +kernel
theorem dX9_writeDraft_24 : decode cX9_writeDraft 24 = .ok (.invokevirtual 288, 3) := by decide +kernel
theorem dX9_writeDraft_27 : decode cX9_writeDraft 27 = .ok (.return_, 1) := by decide +kernel
theorem dX9_isFresh_0 : decode cX9_isFresh 0 = .ok (.aload_n 0, 1) := by decide +kernel
theorem dX9_isFresh_1 : decode cX9_isFresh 1 = .ok (.iload_n 1, 1) := by decide +kernel
theorem dX9_isFresh_2 : decode cX9_isFresh 2 = .ok (.invokevirtual 187, 3) := by decide +kernel
theorem dX9_isFresh_5 : decode cX9_isFresh 5 = .ok (.aload_n 0, 1) := by decide +kernel
theorem dX9_isFresh_6 : decode cX9_isFresh 6 = .ok (.getfield 37, 3) := by decide +kernel
theorem dX9_isFresh_9 : decode cX9_isFresh 9 = .ok (.iload_n 1, 1) := by decide +kernel
theorem dX9_isFresh_10 : decode cX9_isFresh 10 = .ok (.aaload, 1) := by decide +kernel
theorem dX9_isFresh_11 : decode cX9_isFresh 11 = .ok (.aload_n 0, 1) := by decide +kernel
theorem dX9_isFresh_12 : decode cX9_isFresh 12 = .ok (.getfield 44, 3) := by decide +kernel
theorem dX9_isFresh_15 : decode cX9_isFresh 15 = .ok (.invokevirtual 292, 3) := by decide +kernel
theorem dX9_isFresh_18 : decode cX9_isFresh 18 = .ok (.ireturn, 1) := by decide +kernel
theorem dX9_clusterOf_0 : decode cX9_clusterOf 0 = .ok (.iconst 0, 1) := by decide +kernel
theorem dX9_clusterOf_1 : decode cX9_clusterOf 1 = .ok (.istore_n 2, 1) := by decide +kernel
theorem dX9_clusterOf_2 : decode cX9_clusterOf 2 = .ok (.iconst 0, 1) := by decide +kernel
theorem dX9_clusterOf_3 : decode cX9_clusterOf 3 = .ok (.istore_n 3, 1) := by decide +kernel
theorem dX9_clusterOf_4 : decode cX9_clusterOf 4 = .ok (.iload_n 3, 1) := by decide +kernel
theorem dX9_clusterOf_5 : decode cX9_clusterOf 5 = .ok (.aload_n 0, 1) := by decide +kernel
theorem dX9_clusterOf_6 : decode cX9_clusterOf 6 = .ok (.getfield 10, 3) := by decide +kernel
theorem dX9_clusterOf_9 : decode cX9_clusterOf 9 = .ok (.getfield 152, 3) := by decide +kernel
theorem dX9_clusterOf_12 : decode cX9_clusterOf 12 = .ok (.if_icmp .ge 31, 3) := by decide +kernel
theorem dX9_clusterOf_15 : decode cX9_clusterOf 15 = .ok (.aload_n 0, 1) := by decide +kernel
theorem dX9_clusterOf_16 : decode cX9_clusterOf 16 = .ok (.iload_n 3, 1) := by decide +kernel
theorem dX9_clusterOf_17 : decode cX9_clusterOf 17 = .ok (.invokevirtual 187, 3) := by decide +kernel
theorem dX9_clusterOf_20 : decode cX9_clusterOf 20 = .ok (.aload_n 0, 1) := by decide +kernel
theorem dX9_clusterOf_21 : decode cX9_clusterOf 21 = .ok (.getfield 44, 3) := by decide +kernel
theorem dX9_clusterOf_24 : decode cX9_clusterOf 24 = .ok (.iload_n 1, 1) := by decide +kernel
theorem dX9_clusterOf_25 : decode cX9_clusterOf 25 = .ok (.invokevirtual 296, 3) := by decide +kernel
theorem dX9_clusterOf_28 : decode cX9_clusterOf 28 = .ok (.ifCond .eq 9, 3) := by decide +kernel
theorem dX9_clusterOf_31 : decode cX9_clusterOf 31 = .ok (.iload_n 2, 1) := by decide +kernel
theorem dX9_clusterOf_32 : decode cX9_clusterOf 32 = .ok (.iconst 1, 1) := by decide +kernel
theorem dX9_clusterOf_33 : decode cX9_clusterOf 33 = .ok (.iload_n 3, 1) := by decide +kernel
theorem dX9_clusterOf_34 : decode cX9_clusterOf 34 = .ok (.ishl, 1) := by decide +kernel
theorem dX9_clusterOf_35 : decode cX9_clusterOf 35 = .ok (.ior, 1) := by decide +kernel
theorem dX9_clusterOf_36 : decode cX9_clusterOf 36 = .ok (.istore_n 2, 1) := by decide +kernel
theorem dX9_clusterOf_37 : decode cX9_clusterOf 37 = .ok (.iinc 3 1, 3) := by decide +kernel
theorem dX9_clusterOf_40 : decode cX9_clusterOf 40 = .ok (.goto (-36), 3) := by decide +kernel
theorem dX9_clusterOf_43 : decode cX9_clusterOf 43 = .ok (.iload_n 2, 1) := by decide +kernel
theorem dX9_clusterOf_44 : decode cX9_clusterOf 44 = .ok (.ireturn, 1) := by decide +kernel
theorem dX9_stepTowards_0 : decode cX9_stepTowards 0 = .ok (.aload_n 0, 1) := by decide +kernel
theorem dX9_stepTowards_1 : decode cX9_stepTowards 1 = .ok (.getfield 58, 3) := by decide +kernel
theorem dX9_stepTowards_4 : decode cX9_stepTowards 4 = .ok (.aload_n 0, 1) := by decide +kernel
theorem dX9_stepTowards_5 : decode cX9_stepTowards 5 = .ok (.getfield 10, 3) := by decide +kernel
theorem dX9_stepTowards_8 : decode cX9_stepTowards 8 = .ok (.invokevirtual 182, 3) := by decide +kernel
theorem dX9_stepTowards_11 : decode cX9_stepTowards 11 = .ok (.aload_n 0, 1) := by decide +kernel
theorem dX9_stepTowards_12 : decode cX9_stepTowards 12 = .ok (.getfield 58, 3) := by decide +kernel
theorem dX9_stepTowards_15 : decode cX9_stepTowards 15 = .ok (.iload_n 1, 1) := by decide +kernel
theorem dX9_stepTowards_16 : decode cX9_stepTowards 16 = .ok (.iload_n 2, 1) := by decide +kernel
theorem dX9_stepTowards_17 : decode cX9_stepTowards 17 = .ok (.invokevirtual 184, 3) := by decide +kernel
theorem dX9_stepTowards_20 : decode cX9_stepTowards 20 = .ok (.istore_n 3, 1) := by decide +kernel
theorem dX9_stepTowards_21 : decode cX9_stepTowards 21 = .ok (.iload_n 1, 1) := by decide +kernel
theorem dX9_stepTowards_22 : decode cX9_stepTowards 22 = .ok (.iload_n 2, 1) := by decide +kernel
theorem dX9_stepTowards_23 : decode cX9_stepTowards 23 = .ok (.if_icmp .eq 8, 3) := by decide +kernel
theorem dX9_stepTowards_26 : decode cX9_stepTowards 26 = .ok (.iload_n 3, 1) := by decide +kernel
theorem dX9_stepTowards_27 : decode cX9_stepTowards 27 = .ok (.iconst (-1), 1) := by decide +kernel
theorem dX9_stepTowards_28 : decode cX9_stepTowards 28 = .ok (.if_icmp .ne 5, 3) := by decide +kernel
theorem dX9_stepTowards_31 : decode cX9_stepTowards 31 = .ok (.iconst (-1), 1) := by decide +kernel
theorem dX9_stepTowards_32 : decode cX9_stepTowards 32 = .ok (.ireturn, 1) := by decide +kernel
theorem dX9_stepTowards_33 : decode cX9_stepTowards 33 = .ok (.iconst 0, 1) := by decide +kernel
theorem dX9_stepTowards_34 : decode cX9_stepTowards 34 = .ok (.istore 4, 2) := by decide +kernel
theorem dX9_stepTowards_36 : decode cX9_stepTowards 36 = .ok (.iload 4, 2) := by decide +kernel
theorem dX9_stepTowards_38 : decode cX9_stepTowards 38 = .ok (.aload_n 0, 1) := by decide +kernel
theorem dX9_stepTowards_39 : decode cX9_stepTowards 39 = .ok (.getfield 10, 3) := by decide +kernel
theorem dX9_stepTowards_42 : decode cX9_stepTowards 42 = .ok (.getfield 152, 3) := by decide +kernel
theorem dX9_stepTowards_45 : decode cX9_stepTowards 45 = .ok (.if_icmp .ge 56, 3) := by decide +kernel
theorem dX9_stepTowards_48 : decode cX9_stepTowards 48 = .ok (.aload_n 0, 1) := by decide +kernel
theorem dX9_stepTowards_49 : decode cX9_stepTowards 49 = .ok (.getfield 10, 3) := by decide +kernel
theorem dX9_stepTowards_52 : decode cX9_stepTowards 52 = .ok (.iload_n 1, 1) := by decide +kernel
theorem dX9_stepTowards_53 : decode cX9_stepTowards 53 = .ok (.iload 4, 2) := by decide +kernel
theorem dX9_stepTowards_55 : decode cX9_stepTowards 55 = .ok (.invokevirtual 117, 3) := by decide +kernel
theorem dX9_stepTowards_58 : decode cX9_stepTowards 58 = .ok (.istore 5, 2) := by decide +kernel
theorem dX9_stepTowards_60 : decode cX9_stepTowards 60 = .ok (.aload_n 0, 1) := by decide +kernel
theorem dX9_stepTowards_61 : decode cX9_stepTowards 61 = .ok (.getfield 58, 3) := by decide +kernel
theorem dX9_stepTowards_64 : decode cX9_stepTowards 64 = .ok (.iload 4, 2) := by decide +kernel
theorem dX9_stepTowards_66 : decode cX9_stepTowards 66 = .ok (.iload_n 2, 1) := by decide +kernel
theorem dX9_stepTowards_67 : decode cX9_stepTowards 67 = .ok (.invokevirtual 184, 3) := by decide +kernel
theorem dX9_stepTowards_70 : decode cX9_stepTowards 70 = .ok (.istore 6, 2) := by decide +kernel
theorem dX9_stepTowards_72 : decode cX9_stepTowards 72 = .ok (.iload 5, 2) := by decide +kernel
theorem dX9_stepTowards_74 : decode cX9_stepTowards 74 = .ok (.ifCond .le 21, 3) := by decide +kernel
theorem dX9_stepTowards_77 : decode cX9_stepTowards 77 = .ok (.iload 6, 2) := by decide +kernel
theorem dX9_stepTowards_79 : decode cX9_stepTowards 79 = .ok (.iconst (-1), 1) := by decide +kernel
theorem dX9_stepTowards_80 : decode cX9_stepTowards 80 = .ok (.if_icmp .eq 15, 3) := by decide +kernel
theorem dX9_stepTowards_83 : decode cX9_stepTowards 83 = .ok (.iload 5, 2) := by decide +kernel
theorem dX9_stepTowards_85 : decode cX9_stepTowards 85 = .ok (.iload 6, 2) := by decide +kernel
theorem dX9_stepTowards_87 : decode cX9_stepTowards 87 = .ok (.iadd, 1) := by decide +kernel
theorem dX9_stepTowards_88 : decode cX9_stepTowards 88 = .ok (.iload_n 3, 1) := by decide +kernel
theorem dX9_stepTowards_89 : decode cX9_stepTowards 89 = .ok (.if_icmp .ne 6, 3) := by decide +kernel
theorem dX9_stepTowards_92 : decode cX9_stepTowards 92 = .ok (.iload 4, 2) := by decide +kernel
theorem dX9_stepTowards_94 : decode cX9_stepTowards 94 = .ok (.ireturn, 1) := by decide +kernel
theorem dX9_stepTowards_95 : decode cX9_stepTowards 95 = .ok (.iinc 4 1, 3) := by decide +kernel
theorem dX9_stepTowards_98 : decode cX9_stepTowards 98 = .ok (.goto (-62), 3) := by decide +kernel
theorem dX9_stepTowards_101 : decode cX9_stepTowards 101 = .ok (.iconst (-1), 1) := by decide +kernel
theorem dX9_stepTowards_102 : decode cX9_stepTowards 102 = .ok (.ireturn, 1) := by decide +kernel
theorem dX9_stepsBetween_0 : decode cX9_stepsBetween 0 = .ok (.iload_n 1, 1) := by decide +kernel
theorem dX9_stepsBetween_1 : decode cX9_stepsBetween 1 = .ok (.istore_n 3, 1) := by decide +kernel
theorem dX9_stepsBetween_2 : decode cX9_stepsBetween 2 = .ok (.iconst 0, 1) := by decide +kernel
theorem dX9_stepsBetween_3 : decode cX9_stepsBetween 3 = .ok (.istore 4, 2) := by decide +kernel
theorem dX9_stepsBetween_5 : decode cX9_stepsBetween 5 = .ok (.iload 4, 2) := by decide +kernel
theorem dX9_stepsBetween_7 : decode cX9_stepsBetween 7 = .ok (.bipush 12, 2) := by decide +kernel
theorem dX9_stepsBetween_9 : decode cX9_stepsBetween 9 = .ok (.if_icmp .ge 26, 3) := by decide +kernel
theorem dX9_stepsBetween_12 : decode cX9_stepsBetween 12 = .ok (.iload_n 3, 1) := by decide +kernel
theorem dX9_stepsBetween_13 : decode cX9_stepsBetween 13 = .ok (.iload_n 2, 1) := by decide +kernel
theorem dX9_stepsBetween_14 : decode cX9_stepsBetween 14 = .ok (.if_icmp .eq 21, 3) := by decide +kernel
theorem dX9_stepsBetween_17 : decode cX9_stepsBetween 17 = .ok (.iload_n 3, 1) := by decide +kernel
theorem dX9_stepsBetween_18 : decode cX9_stepsBetween 18 = .ok (.iconst (-1), 1) := by decide +kernel
theorem dX9_stepsBetween_19 : decode cX9_stepsBetween 19 = .ok (.if_icmp .eq 16, 3) := by decide +kernel
theorem dX9_stepsBetween_22 : decode cX9_stepsBetween 22 = .ok (.aload_n 0, 1) := by decide +kernel
theorem dX9_stepsBetween_23 : decode cX9_stepsBetween 23 = .ok (.iload_n 3, 1) := by decide +kernel
theorem dX9_stepsBetween_24 : decode cX9_stepsBetween 24 = .ok (.iload_n 2, 1) := by decide +kernel
theorem dX9_stepsBetween_25 : decode cX9_stepsBetween 25 = .ok (.invokevirtual 202, 3) := by decide +kernel
theorem dX9_stepsBetween_28 : decode cX9_stepsBetween 28 = .ok (.istore_n 3, 1) := by decide +kernel
theorem dX9_stepsBetween_29 : decode cX9_stepsBetween 29 = .ok (.iinc 4 1, 3) := by decide +kernel
theorem dX9_stepsBetween_32 : decode cX9_stepsBetween 32 = .ok (.goto (-27), 3) := by decide +kernel
theorem dX9_stepsBetween_35 : decode cX9_stepsBetween 35 = .ok (.iload 4, 2) := by decide +kernel
theorem dX9_stepsBetween_37 : decode cX9_stepsBetween 37 = .ok (.ireturn, 1) := by decide +kernel
theorem dX9_nodeAfter_0 : decode cX9_nodeAfter 0 = .ok (.iload_n 1, 1) := by decide +kernel
theorem dX9_nodeAfter_1 : decode cX9_nodeAfter 1 = .ok (.istore 4, 2) := by decide +kernel
theorem dX9_nodeAfter_3 : decode cX9_nodeAfter 3 = .ok (.iconst 0, 1) := by decide +kernel
theorem dX9_nodeAfter_4 : decode cX9_nodeAfter 4 = .ok (.istore 5, 2) := by decide +kernel
theorem dX9_nodeAfter_6 : decode cX9_nodeAfter 6 = .ok (.iload 5, 2) := by decide +kernel
theorem dX9_nodeAfter_8 : decode cX9_nodeAfter 8 = .ok (.iload_n 3, 1) := by decide +kernel
theorem dX9_nodeAfter_9 : decode cX9_nodeAfter 9 = .ok (.if_icmp .ge 31, 3) := by decide +kernel
theorem dX9_nodeAfter_12 : decode cX9_nodeAfter 12 = .ok (.iload 5, 2) := by decide +kernel
theorem dX9_nodeAfter_14 : decode cX9_nodeAfter 14 = .ok (.bipush 12, 2) := by decide +kernel
theorem dX9_nodeAfter_16 : decode cX9_nodeAfter 16 = .ok (.if_icmp .ge 24, 3) := by decide +kernel
theorem dX9_nodeAfter_19 : decode cX9_nodeAfter 19 = .ok (.iload 4, 2) := by decide +kernel
theorem dX9_nodeAfter_21 : decode cX9_nodeAfter 21 = .ok (.iconst (-1), 1) := by decide +kernel
theorem dX9_nodeAfter_22 : decode cX9_nodeAfter 22 = .ok (.if_icmp .eq 18, 3) := by decide +kernel
theorem dX9_nodeAfter_25 : decode cX9_nodeAfter 25 = .ok (.aload_n 0, 1) := by decide +kernel
theorem dX9_nodeAfter_26 : decode cX9_nodeAfter 26 = .ok (.iload 4, 2) := by decide +kernel
theorem dX9_nodeAfter_28 : decode cX9_nodeAfter 28 = .ok (.iload_n 2, 1) := by decide +kernel
theorem dX9_nodeAfter_29 : decode cX9_nodeAfter 29 = .ok (.invokevirtual 202, 3) := by decide +kernel
theorem dX9_nodeAfter_32 : decode cX9_nodeAfter 32 = .ok (.istore 4, 2) := by decide +kernel
theorem dX9_nodeAfter_34 : decode cX9_nodeAfter 34 = .ok (.iinc 5 1, 3) := by decide +kernel
theorem dX9_nodeAfter_37 : decode cX9_nodeAfter 37 = .ok (.goto (-31), 3) := by decide +kernel
theorem dX9_nodeAfter_40 : decode cX9_nodeAfter 40 = .ok (.iload 4, 2) := by decide +kernel
theorem dX9_nodeAfter_42 : decode cX9_nodeAfter 42 = .ok (.ireturn, 1) := by decide +kernel
theorem dX9_weighThinned_0 : decode cX9_weighThinned 0 = .ok (.aload_n 0, 1) := by decide +kernel
theorem dX9_weighThinned_1 : decode cX9_weighThinned 1 = .ok (.getfield 58, 3) := by decide +kernel
theorem dX9_weighThinned_4 : decode cX9_weighThinned 4 = .ok (.aload_n 0, 1) := by decide +kernel
theorem dX9_weighThinned_5 : decode cX9_weighThinned 5 = .ok (.getfield 10, 3) := by decide +kernel
theorem dX9_weighThinned_8 : decode cX9_weighThinned 8 = .ok (.invokevirtual 182, 3) := by decide +kernel
theorem dX9_weighThinned_11 : decode cX9_weighThinned 11 = .ok (.aload_n 0, 1) := by decide +kernel
theorem dX9_weighThinned_12 : decode cX9_weighThinned 12 = .ok (.getfield 65, 3) := by decide +kernel
theorem dX9_weighThinned_15 : decode cX9_weighThinned 15 = .ok (.aload_n 0, 1) := by decide +kernel
theorem dX9_weighThinned_16 : decode cX9_weighThinned 16 = .ok (.getfield 10, 3) := by decide +kernel
theorem dX9_weighThinned_19 : decode cX9_weighThinned 19 = .ok (.iload_n 1, 1) := by decide +kernel
theorem dX9_weighThinned_20 : decode cX9_weighThinned 20 = .ok (.invokevirtual 158, 3) := by decide +kernel
theorem dX9_weighThinned_23 : decode cX9_weighThinned 23 = .ok (.aload_n 0, 1) := by decide +kernel
theorem dX9_weighThinned_24 : decode cX9_weighThinned 24 = .ok (.getfield 79, 3) := by decide +kernel
theorem dX9_weighThinned_27 : decode cX9_weighThinned 27 = .ok (.invokevirtual 299, 3) := by decide +kernel
theorem dX9_weighThinned_30 : decode cX9_weighThinned 30 = .ok (.iconst 0, 1) := by decide +kernel
theorem dX9_weighThinned_31 : decode cX9_weighThinned 31 = .ok (.istore_n 2, 1) := by decide +kernel
theorem dX9_weighThinned_32 : decode cX9_weighThinned 32 = .ok (.iload_n 2, 1) := by decide +kernel
theorem dX9_weighThinned_33 : decode cX9_weighThinned 33 = .ok (.aload_n 0, 1) := by decide +kernel
theorem dX9_weighThinned_34 : decode cX9_weighThinned 34 = .ok (.getfield 10, 3) := by decide +kernel
theorem dX9_weighThinned_37 : decode cX9_weighThinned 37 = .ok (.getfield 152, 3) := by decide +kernel
theorem dX9_weighThinned_40 : decode cX9_weighThinned 40 = .ok (.if_icmp .ge 70, 3) := by decide +kernel
theorem dX9_weighThinned_43 : decode cX9_weighThinned 43 = .ok (.iload_n 2, 1) := by decide +kernel
theorem dX9_weighThinned_44 : decode cX9_weighThinned 44 = .ok (.iconst 1, 1) := by decide +kernel
theorem dX9_weighThinned_45 : decode cX9_weighThinned 45 = .ok (.iadd, 1) := by decide +kernel
theorem dX9_weighThinned_46 : decode cX9_weighThinned 46 = .ok (.istore_n 3, 1) := by decide +kernel
theorem dX9_weighThinned_47 : decode cX9_weighThinned 47 = .ok (.iload_n 3, 1) := by decide +kernel
theorem dX9_weighThinned_48 : decode cX9_weighThinned 48 = .ok (.aload_n 0, 1) := by decide +kernel
theorem dX9_weighThinned_49 : decode cX9_weighThinned 49 = .ok (.getfield 10, 3) := by decide +kernel
theorem dX9_weighThinned_52 : decode cX9_weighThinned 52 = .ok (.getfield 152, 3) := by decide +kernel
theorem dX9_weighThinned_55 : decode cX9_weighThinned 55 = .ok (.if_icmp .ge 49, 3) := by decide +kernel
