theorem dX10_lift_23 : decode cX10_lift 23 = .ok (.bipush (-3), 2) := by decide +kernel
theorem dX10_lift_25 : decode cX10_lift 25 = .ok (.ireturn, 1) := by decide +kernel
theorem dX10_lift_26 : decode cX10_lift 26 = .ok (.aload_n 0, 1) := by decide +kernel
theorem dX10_lift_27 : decode cX10_lift 27 = .ok (.invokevirtual 186, 3) := by decide +kernel
theorem dX10_lift_30 : decode cX10_lift 30 = .ok (.aload_n 0, 1) := by decide +kernel
theorem dX10_lift_31 : decode cX10_lift 31 = .ok (.getfield 7, 3) := by decide +kernel
theorem dX10_lift_34 : decode cX10_lift 34 = .ok (.sipush 144, 3) := by decide +kernel
theorem dX10_lift_37 : decode cX10_lift 37 = .ok (.iload_n 1, 1) := by decide +kernel
theorem dX10_lift_38 : decode cX10_lift 38 = .ok (.iadd, 1) := by decide +kernel
theorem dX10_lift_39 : decode cX10_lift 39 = .ok (.iaload, 1) := by decide +kernel
theorem dX10_lift_40 : decode cX10_lift 40 = .ok (.istore_n 3, 1) := by decide +kernel
theorem dX10_lift_41 : decode cX10_lift 41 = .ok (.aload_n 0, 1) := by decide +kernel
theorem dX10_lift_42 : decode cX10_lift 42 = .ok (.getfield 7, 3) := by decide +kernel
theorem dX10_lift_45 : decode cX10_lift 45 = .ok (.sipush 144, 3) := by decide +kernel
theorem dX10_lift_48 : decode cX10_lift 48 = .ok (.iload_n 1, 1) := by decide +kernel
theorem dX10_lift_49 : decode cX10_lift 49 = .ok (.iadd, 1) := by decide +kernel
theorem dX10_lift_50 : decode cX10_lift 50 = .ok (.iload_n 2, 1) := by decide +kernel
theorem dX10_lift_51 : decode cX10_lift 51 = .ok (.iastore, 1) := by decide +kernel
theorem dX10_lift_52 : decode cX10_lift 52 = .ok (.iload_n 3, 1) := by decide +kernel
theorem dX10_lift_53 : decode cX10_lift 53 = .ok (.ireturn, 1) := by decide +kernel
theorem dX10_draw_0 : decode cX10_draw 0 = .ok (.aload_n 0, 1) := by decide +kernel
theorem dX10_draw_1 : decode cX10_draw 1 = .ok (.invokevirtual 186, 3) := by decide +kernel
theorem dX10_draw_4 : decode cX10_draw 4 = .ok (.aload_n 0, 1) := by decide +kernel
theorem dX10_draw_5 : decode cX10_draw 5 = .ok (.getfield 7, 3) := by decide +kernel
theorem dX10_draw_8 : decode cX10_draw 8 = .ok (.sipush 156, 3) := by decide +kernel
theorem dX10_draw_11 : decode cX10_draw 11 = .ok (.iload_n 1, 1) := by decide +kernel
theorem dX10_draw_12 : decode cX10_draw 12 = .ok (.iastore, 1) := by decide +kernel
theorem dX10_draw_13 : decode cX10_draw 13 = .ok (.iconst 0, 1) := by decide +kernel
theorem dX10_draw_14 : decode cX10_draw 14 = .ok (.istore_n 2, 1) := by decide +kernel
theorem dX10_draw_15 : decode cX10_draw 15 = .ok (.iconst 0, 1) := by decide +kernel
theorem dX10_draw_16 : decode cX10_draw 16 = .ok (.istore_n 3, 1) := by decide +kernel
theorem dX10_draw_17 : decode cX10_draw 17 = .ok (.iload_n 3, 1) := by decide +kernel
theorem dX10_draw_18 : decode cX10_draw 18 = .ok (.aload_n 0, 1) := by decide +kernel
theorem dX10_draw_19 : decode cX10_draw 19 = .ok (.getfield 13, 3) := by decide +kernel
theorem dX10_draw_22 : decode cX10_draw 22 = .ok (.if_icmp .ge 90, 3) := by decide +kernel
theorem dX10_draw_25 : decode cX10_draw 25 = .ok (.aload_n 0, 1) := by decide +kernel
theorem dX10_draw_26 : decode cX10_draw 26 = .ok (.getfield 7, 3) := by decide +kernel
theorem dX10_draw_29 : decode cX10_draw 29 = .ok (.sipush 156, 3) := by decide +kernel
theorem dX10_draw_32 : decode cX10_draw 32 = .ok (.aload_n 0, 1) := by decide +kernel
theorem dX10_draw_33 : decode cX10_draw 33 = .ok (.getfield 7, 3) := by decide +kernel
theorem dX10_draw_36 : decode cX10_draw 36 = .ok (.sipush 156, 3) := by decide +kernel
theorem dX10_draw_39 : decode cX10_draw 39 = .ok (.iaload, 1) := by decide +kernel
theorem dX10_draw_40 : decode cX10_draw 40 = .ok (.ldc 189, 2) := by decide +kernel
theorem dX10_draw_42 : decode cX10_draw 42 = .ok (.imul, 1) := by decide +kernel
theorem dX10_draw_43 : decode cX10_draw 43 = .ok (.iconst 1, 1) := by decide +kernel
theorem dX10_draw_44 : decode cX10_draw 44 = .ok (.iadd, 1) := by decide +kernel
theorem dX10_draw_45 : decode cX10_draw 45 = .ok (.iastore, 1) := by decide +kernel
theorem dX10_draw_46 : decode cX10_draw 46 = .ok (.aload_n 0, 1) := by decide +kernel
theorem dX10_draw_47 : decode cX10_draw 47 = .ok (.getfield 7, 3) := by decide +kernel
theorem dX10_draw_50 : decode cX10_draw 50 = .ok (.sipush 156, 3) := by decide +kernel
theorem dX10_draw_53 : decode cX10_draw 53 = .ok (.iaload, 1) := by decide +kernel
theorem dX10_draw_54 : decode cX10_draw 54 = .ok (.bipush 16, 2) := by decide +kernel
theorem dX10_draw_56 : decode cX10_draw 56 = .ok (.iushr, 1) := by decide +kernel
theorem dX10_draw_57 : decode cX10_draw 57 = .ok (.bipush 8, 2) := by decide +kernel
theorem dX10_draw_59 : decode cX10_draw 59 = .ok (.irem, 1) := by decide +kernel
theorem dX10_draw_60 : decode cX10_draw 60 = .ok (.istore 4, 2) := by decide +kernel
theorem dX10_draw_62 : decode cX10_draw 62 = .ok (.aload_n 0, 1) := by decide +kernel
theorem dX10_draw_63 : decode cX10_draw 63 = .ok (.getfield 7, 3) := by decide +kernel
theorem dX10_draw_66 : decode cX10_draw 66 = .ok (.sipush 144, 3) := by decide +kernel
theorem dX10_draw_69 : decode cX10_draw 69 = .ok (.iload_n 3, 1) := by decide +kernel
theorem dX10_draw_70 : decode cX10_draw 70 = .ok (.iadd, 1) := by decide +kernel
theorem dX10_draw_71 : decode cX10_draw 71 = .ok (.iload 4, 2) := by decide +kernel
theorem dX10_draw_73 : decode cX10_draw 73 = .ok (.ifCond .ne 7, 3) := by decide +kernel
theorem dX10_draw_76 : decode cX10_draw 76 = .ok (.iconst 2, 1) := by decide +kernel
theorem dX10_draw_77 : decode cX10_draw 77 = .ok (.goto 14, 3) := by decide +kernel
theorem dX10_draw_80 : decode cX10_draw 80 = .ok (.iload 4, 2) := by decide +kernel
theorem dX10_draw_82 : decode cX10_draw 82 = .ok (.iconst 3, 1) := by decide +kernel
theorem dX10_draw_83 : decode cX10_draw 83 = .ok (.if_icmp .ge 7, 3) := by decide +kernel
theorem dX10_draw_86 : decode cX10_draw 86 = .ok (.iconst 1, 1) := by decide +kernel
theorem dX10_draw_87 : decode cX10_draw 87 = .ok (.goto 4, 3) := by decide +kernel
theorem dX10_draw_90 : decode cX10_draw 90 = .ok (.iconst 0, 1) := by decide +kernel
theorem dX10_draw_91 : decode cX10_draw 91 = .ok (.iastore, 1) := by decide +kernel
theorem dX10_draw_92 : decode cX10_draw 92 = .ok (.iload_n 2, 1) := by decide +kernel
theorem dX10_draw_93 : decode cX10_draw 93 = .ok (.iload 4, 2) := by decide +kernel
theorem dX10_draw_95 : decode cX10_draw 95 = .ok (.iconst 3, 1) := by decide +kernel
theorem dX10_draw_96 : decode cX10_draw 96 = .ok (.if_icmp .ge 7, 3) := by decide +kernel
theorem dX10_draw_99 : decode cX10_draw 99 = .ok (.iconst 1, 1) := by decide +kernel
theorem dX10_draw_100 : decode cX10_draw 100 = .ok (.goto 4, 3) := by decide +kernel
theorem dX10_draw_103 : decode cX10_draw 103 = .ok (.iconst 0, 1) := by decide +kernel
theorem dX10_draw_104 : decode cX10_draw 104 = .ok (.iadd, 1) := by decide +kernel
theorem dX10_draw_105 : decode cX10_draw 105 = .ok (.istore_n 2, 1) := by decide +kernel
theorem dX10_draw_106 : decode cX10_draw 106 = .ok (.iinc 3 1, 3) := by decide +kernel
theorem dX10_draw_109 : decode cX10_draw 109 = .ok (.goto (-92), 3) := by decide +kernel
theorem dX10_draw_112 : decode cX10_draw 112 = .ok (.iload_n 2, 1) := by decide +kernel
theorem dX10_draw_113 : decode cX10_draw 113 = .ok (.ireturn, 1) := by decide +kernel
theorem dX10_thin_0 : decode cX10_thin 0 = .ok (.iload_n 1, 1) := by decide +kernel
theorem dX10_thin_1 : decode cX10_thin 1 = .ok (.i2l, 1) := by decide +kernel
theorem dX10_thin_2 : decode cX10_thin 2 = .ok (.lconst 1, 1) := by decide +kernel
theorem dX10_thin_3 : decode cX10_thin 3 = .ok (.ldc2_w 173, 3) := by decide +kernel
theorem dX10_thin_6 : decode cX10_thin 6 = .ok (.invokestatic 48, 3) := by decide +kernel
theorem dX10_thin_9 : decode cX10_thin 9 = .ok (.ifCond .ne 6, 3) := by decide +kernel
theorem dX10_thin_12 : decode cX10_thin 12 = .ok (.bipush (-3), 2) := by decide +kernel
theorem dX10_thin_14 : decode cX10_thin 14 = .ok (.ireturn, 1) := by decide +kernel
theorem dX10_thin_15 : decode cX10_thin 15 = .ok (.aload_n 0, 1) := by decide +kernel
theorem dX10_thin_16 : decode cX10_thin 16 = .ok (.iload_n 1, 1) := by decide +kernel
theorem dX10_thin_17 : decode cX10_thin 17 = .ok (.invokevirtual 175, 3) := by decide +kernel
theorem dX10_thin_20 : decode cX10_thin 20 = .ok (.aload_n 0, 1) := by decide +kernel
theorem dX10_thin_21 : decode cX10_thin 21 = .ok (.invokevirtual 186, 3) := by decide +kernel
theorem dX10_thin_24 : decode cX10_thin 24 = .ok (.iconst 0, 1) := by decide +kernel
theorem dX10_thin_25 : decode cX10_thin 25 = .ok (.istore_n 2, 1) := by decide +kernel
theorem dX10_thin_26 : decode cX10_thin 26 = .ok (.iload_n 2, 1) := by decide +kernel
theorem dX10_thin_27 : decode cX10_thin 27 = .ok (.sipush 144, 3) := by decide +kernel
theorem dX10_thin_30 : decode cX10_thin 30 = .ok (.if_icmp .ge 34, 3) := by decide +kernel
theorem dX10_thin_33 : decode cX10_thin 33 = .ok (.aload_n 0, 1) := by decide +kernel
theorem dX10_thin_34 : decode cX10_thin 34 = .ok (.getfield 7, 3) := by decide +kernel
theorem dX10_thin_37 : decode cX10_thin 37 = .ok (.iload_n 2, 1) := by decide +kernel
theorem dX10_thin_38 : decode cX10_thin 38 = .ok (.aload_n 0, 1) := by decide +kernel
theorem dX10_thin_39 : decode cX10_thin 39 = .ok (.getfield 39, 3) := by decide +kernel
theorem dX10_thin_42 : decode cX10_thin 42 = .ok (.iload_n 2, 1) := by decide +kernel
theorem dX10_thin_43 : decode cX10_thin 43 = .ok (.baload, 1) := by decide +kernel
theorem dX10_thin_44 : decode cX10_thin 44 = .ok (.ifCond .eq 12, 3) := by decide +kernel
theorem dX10_thin_47 : decode cX10_thin 47 = .ok (.aload_n 0, 1) := by decide +kernel
theorem dX10_thin_48 : decode cX10_thin 48 = .ok (.getfield 7, 3) := by decide +kernel
theorem dX10_thin_51 : decode cX10_thin 51 = .ok (.iload_n 2, 1) := by decide +kernel
theorem dX10_thin_52 : decode cX10_thin 52 = .ok (.iaload, 1) := by decide +kernel
theorem dX10_thin_53 : decode cX10_thin 53 = .ok (.goto 4, 3) := by decide +kernel
theorem dX10_thin_56 : decode cX10_thin 56 = .ok (.iconst 0, 1) := by decide +kernel
theorem dX10_thin_57 : decode cX10_thin 57 = .ok (.iastore, 1) := by decide +kernel
theorem dX10_thin_58 : decode cX10_thin 58 = .ok (.iinc 2 1, 3) := by decide +kernel
theorem dX10_thin_61 : decode cX10_thin 61 = .ok (.goto (-35), 3) := by decide +kernel
theorem dX10_thin_64 : decode cX10_thin 64 = .ok (.aload_n 0, 1) := by decide +kernel
theorem dX10_thin_65 : decode cX10_thin 65 = .ok (.invokevirtual 123, 3) := by decide +kernel
theorem dX10_thin_68 : decode cX10_thin 68 = .ok (.ireturn, 1) := by decide +kernel
theorem dX10_undo_0 : decode cX10_undo 0 = .ok (.aload_n 0, 1) := by decide +kernel
theorem dX10_undo_1 : decode cX10_undo 1 = .ok (.getfield 133, 3) := by decide +kernel
theorem dX10_undo_4 : decode cX10_undo 4 = .ok (.ifCond .ne 6, 3) := by decide +kernel
theorem dX10_undo_7 : decode cX10_undo 7 = .ok (.bipush (-4), 2) := by decide +kernel
theorem dX10_undo_9 : decode cX10_undo 9 = .ok (.ireturn, 1) := by decide +kernel
theorem dX10_undo_10 : decode cX10_undo 10 = .ok (.aload_n 0, 1) := by decide +kernel
theorem dX10_undo_11 : decode cX10_undo 11 = .ok (.dup, 1) := by decide +kernel
theorem dX10_undo_12 : decode cX10_undo 12 = .ok (.getfield 133, 3) := by decide +kernel
theorem dX10_undo_15 : decode cX10_undo 15 = .ok (.iconst 1, 1) := by decide +kernel
theorem dX10_undo_16 : decode cX10_undo 16 = .ok (.isub, 1) := by decide +kernel
theorem dX10_undo_17 : decode cX10_undo 17 = .ok (.putfield 133, 3) := by decide +kernel
theorem dX10_undo_20 : decode cX10_undo 20 = .ok (.aload_n 0, 1) := by decide +kernel
theorem dX10_undo_21 : decode cX10_undo 21 = .ok (.sipush 157, 3) := by decide +kernel
theorem dX10_undo_24 : decode cX10_undo 24 = .ok (.sipush 157, 3) := by decide +kernel
theorem dX10_undo_27 : decode cX10_undo 27 = .ok (.aload_n 0, 1) := by decide +kernel
theorem dX10_undo_28 : decode cX10_undo 28 = .ok (.getfield 133, 3) := by decide +kernel
theorem dX10_undo_31 : decode cX10_undo 31 = .ok (.imul, 1) := by decide +kernel
theorem dX10_undo_32 : decode cX10_undo 32 = .ok (.iadd, 1) := by decide +kernel
theorem dX10_undo_33 : decode cX10_undo 33 = .ok (.iconst 0, 1) := by decide +kernel
theorem dX10_undo_34 : decode cX10_undo 34 = .ok (.invokevirtual 181, 3) := by decide +kernel
theorem dX10_undo_37 : decode cX10_undo 37 = .ok (.aload_n 0, 1) := by decide +kernel
theorem dX10_undo_38 : decode cX10_undo 38 = .ok (.getfield 133, 3) := by decide +kernel
theorem dX10_undo_41 : decode cX10_undo 41 = .ok (.ireturn, 1) := by decide +kernel
theorem dX10_isWritten_0 : decode cX10_isWritten 0 = .ok (.aload_n 0, 1) := by decide +kernel
theorem dX10_isWritten_1 : decode cX10_isWritten 1 = .ok (.getfield 17, 3) := by decide +kernel
theorem dX10_isWritten_4 : decode cX10_isWritten 4 = .ok (.bipush 20, 2) := by decide +kernel
theorem dX10_isWritten_6 : decode cX10_isWritten 6 = .ok (.iload_n 1, 1) := by decide +kernel
theorem dX10_isWritten_7 : decode cX10_isWritten 7 = .ok (.imul, 1) := by decide +kernel
theorem dX10_isWritten_8 : decode cX10_isWritten 8 = .ok (.iaload, 1) := by decide +kernel
theorem dX10_isWritten_9 : decode cX10_isWritten 9 = .ok (.iconst 1, 1) := by decide +kernel
theorem dX10_isWritten_10 : decode cX10_isWritten 10 = .ok (.if_icmp .ne 7, 3) := by decide +kernel
theorem dX10_isWritten_13 : decode cX10_isWritten 13 = .ok (.iconst 1, 1) := by decide +kernel
theorem dX10_isWritten_14 : decode cX10_isWritten 14 = .ok (.goto 4, 3) := by decide +kernel
theorem dX10_isWritten_17 : decode cX10_isWritten 17 = .ok (.iconst 0, 1) := by decide +kernel
theorem dX10_isWritten_18 : decode cX10_isWritten 18 = .ok (.ireturn, 1) := by decide +kernel
theorem dX10_written_0 : decode cX10_written 0 = .ok (.iconst 0, 1) := by decide +kernel
theorem dX10_written_1 : decode cX10_written 1 = .ok (.istore_n 1, 1) := by decide +kernel
theorem dX10_written_2 : decode cX10_written 2 = .ok (.iconst 0, 1) := by decide +kernel
theorem dX10_written_3 : decode cX10_written 3 = .ok (.istore_n 2, 1) := by decide +kernel
theorem dX10_written_4 : decode cX10_written 4 = .ok (.iload_n 2, 1) := by decide +kernel
theorem dX10_written_5 : decode cX10_written 5 = .ok (.aload_n 0, 1) := by decide +kernel
theorem dX10_written_6 : decode cX10_written 6 = .ok (.getfield 13, 3) := by decide +kernel
theorem dX10_written_9 : decode cX10_written 9 = .ok (.if_icmp .ge 25, 3) := by decide +kernel
theorem dX10_written_12 : decode cX10_written 12 = .ok (.iload_n 1, 1) := by decide +kernel
theorem dX10_written_13 : decode cX10_written 13 = .ok (.aload_n 0, 1) := by decide +kernel
theorem dX10_written_14 : decode cX10_written 14 = .ok (.iload_n 2, 1) := by decide +kernel
theorem dX10_written_15 : decode cX10_written 15 = .ok (.invokevirtual 190, 3) := by decide +kernel
theorem dX10_written_18 : decode cX10_written 18 = .ok (.ifCond .eq 7, 3) := by decide +kernel
theorem dX10_written_21 : decode cX10_written 21 = .ok (.iconst 1, 1) := by decide +kernel
theorem dX10_written_22 : decode cX10_written 22 = .ok (.goto 4, 3) := by decide +kernel
theorem dX10_written_25 : decode cX10_written 25 = .ok (.iconst 0, 1) := by decide +kernel
theorem dX10_written_26 : decode cX10_written 26 = .ok (.iadd, 1) := by decide +kernel
theorem dX10_written_27 : decode cX10_written 27 = .ok (.istore_n 1, 1) := by decide +kernel
theorem dX10_written_28 : decode cX10_written 28 = .ok (.iinc 2 1, 3) := by decide +kernel
theorem dX10_written_31 : decode cX10_written 31 = .ok (.goto (-27), 3) := by decide +kernel
theorem dX10_written_34 : decode cX10_written 34 = .ok (.iload_n 1, 1) := by decide +kernel
theorem dX10_written_35 : decode cX10_written 35 = .ok (.ireturn, 1) := by decide +kernel
theorem dX10_keep_0 : decode cX10_keep 0 = .ok (.iload_n 1, 1) := by decide +kernel
theorem dX10_keep_1 : decode cX10_keep 1 = .ok (.i2l, 1) := by decide +kernel
theorem dX10_keep_2 : decode cX10_keep 2 = .ok (.lconst 0, 1) := by decide +kernel
theorem dX10_keep_3 : decode cX10_keep 3 = .ok (.lconst 1, 1) := by decide +kernel
theorem dX10_keep_4 : decode cX10_keep 4 = .ok (.invokestatic 48, 3) := by decide +kernel
theorem dX10_keep_7 : decode cX10_keep 7 = .ok (.ifCond .ne 6, 3) := by decide +kernel
theorem dX10_keep_10 : decode cX10_keep 10 = .ok (.bipush (-3), 2) := by decide +kernel
theorem dX10_keep_12 : decode cX10_keep 12 = .ok (.ireturn, 1) := by decide +kernel
theorem dX10_keep_13 : decode cX10_keep 13 = .ok (.aload_n 0, 1) := by decide +kernel
theorem dX10_keep_14 : decode cX10_keep 14 = .ok (.iconst 0, 1) := by decide +kernel
theorem dX10_keep_15 : decode cX10_keep 15 = .ok (.sipush 1413, 3) := by decide +kernel
theorem dX10_keep_18 : decode cX10_keep 18 = .ok (.sipush 157, 3) := by decide +kernel
theorem dX10_keep_21 : decode cX10_keep 21 = .ok (.iload_n 1, 1) := by decide +kernel
theorem dX10_keep_22 : decode cX10_keep 22 = .ok (.imul, 1) := by decide +kernel
theorem dX10_keep_23 : decode cX10_keep 23 = .ok (.iadd, 1) := by decide +kernel
theorem dX10_keep_24 : decode cX10_keep 24 = .ok (.invokevirtual 181, 3) := by decide +kernel
theorem dX10_keep_27 : decode cX10_keep 27 = .ok (.iconst 0, 1) := by decide +kernel
theorem dX10_keep_28 : decode cX10_keep 28 = .ok (.istore_n 2, 1) := by decide +kernel
theorem dX10_keep_29 : decode cX10_keep 29 = .ok (.iload_n 2, 1) := by decide +kernel
theorem dX10_keep_30 : decode cX10_keep 30 = .ok (.sipush 240, 3) := by decide +kernel
theorem dX10_keep_33 : decode cX10_keep 33 = .ok (.if_icmp .ge 31, 3) := by decide +kernel
theorem dX10_keep_36 : decode cX10_keep 36 = .ok (.aload_n 0, 1) := by decide +kernel
theorem dX10_keep_37 : decode cX10_keep 37 = .ok (.getfield 17, 3) := by decide +kernel
theorem dX10_keep_40 : decode cX10_keep 40 = .ok (.sipush 240, 3) := by decide +kernel
theorem dX10_keep_43 : decode cX10_keep 43 = .ok (.sipush 240, 3) := by decide +kernel
theorem dX10_keep_46 : decode cX10_keep 46 = .ok (.iload_n 1, 1) := by decide +kernel
theorem dX10_keep_47 : decode cX10_keep 47 = .ok (.imul, 1) := by decide +kernel
theorem dX10_keep_48 : decode cX10_keep 48 = .ok (.iadd, 1) := by decide +kernel
theorem dX10_keep_49 : decode cX10_keep 49 = .ok (.iload_n 2, 1) := by decide +kernel
theorem dX10_keep_50 : decode cX10_keep 50 = .ok (.iadd, 1) := by decide +kernel
theorem dX10_keep_51 : decode cX10_keep 51 = .ok (.aload_n 0, 1) := by decide +kernel
theorem dX10_keep_52 : decode cX10_keep 52 = .ok (.getfield 17, 3) := by decide +kernel
theorem dX10_keep_55 : decode cX10_keep 55 = .ok (.iload_n 2, 1) := by decide +kernel
theorem dX10_keep_56 : decode cX10_keep 56 = .ok (.iaload, 1) := by decide +kernel
theorem dX10_keep_57 : decode cX10_keep 57 = .ok (.iastore, 1) := by decide +kernel
theorem dX10_keep_58 : decode cX10_keep 58 = .ok (.iinc 2 1, 3) := by decide +kernel
theorem dX10_keep_61 : decode cX10_keep 61 = .ok (.goto (-32), 3) := by decide +kernel
theorem dX10_keep_64 : decode cX10_keep 64 = .ok (.aload_n 0, 1) := by decide +kernel
theorem dX10_keep_65 : decode cX10_keep 65 = .ok (.getfield 20, 3) := by decide +kernel
theorem dX10_keep_68 : decode cX10_keep 68 = .ok (.iload_n 1, 1) := by decide +kernel
theorem dX10_keep_69 : decode cX10_keep 69 = .ok (.iconst 1, 1) := by decide +kernel
theorem dX10_keep_70 : decode cX10_keep 70 = .ok (.bastore, 1) := by decide +kernel
theorem dX10_keep_71 : decode cX10_keep 71 = .ok (.aload_n 0, 1) := by decide +kernel
theorem dX10_keep_72 : decode cX10_keep 72 = .ok (.invokevirtual 193, 3) := by decide +kernel
theorem dX10_keep_75 : decode cX10_keep 75 = .ok (.ireturn, 1) := by decide +kernel
theorem dX10_back_0 : decode cX10_back 0 = .ok (.iload_n 1, 1) := by decide +kernel
theorem dX10_back_1 : decode cX10_back 1 = .ok (.i2l, 1) := by decide +kernel
theorem dX10_back_2 : decode cX10_back 2 = .ok (.lconst 0, 1) := by decide +kernel
theorem dX10_back_3 : decode cX10_back 3 = .ok (.lconst 1, 1) := by decide +kernel
theorem dX10_back_4 : decode cX10_back 4 = .ok (.invokestatic 48, 3) := by decide +kernel
theorem dX10_back_7 : decode cX10_back 7 = .ok (.ifCond .ne 6, 3) := by decide +kernel
theorem dX10_back_10 : decode cX10_back 10 = .ok (.bipush (-3), 2) := by decide +kernel
theorem dX10_back_12 : decode cX10_back 12 = .ok (.ireturn, 1) := by decide +kernel
theorem dX10_back_13 : decode cX10_back 13 = .ok (.aload_n 0, 1) := by decide +kernel
theorem dX10_back_14 : decode cX10_back 14 = .ok (.getfield 20, 3) := by decide +kernel
theorem dX10_back_17 : decode cX10_back 17 = .ok (.iload_n 1, 1) := by decide +kernel
theorem dX10_back_18 : decode cX10_back 18 = .ok (.baload, 1) := by decide +kernel
theorem dX10_back_19 : decode cX10_back 19 = .ok (.ifCond .ne 6, 3) := by decide +kernel
theorem dX10_back_22 : decode cX10_back 22 = .ok (.bipush (-4), 2) := by decide +kernel
theorem dX10_back_24 : decode cX10_back 24 = .ok (.ireturn, 1) := by decide +kernel
theorem dX10_back_25 : decode cX10_back 25 = .ok (.aload_n 0, 1) := by decide +kernel
theorem dX10_back_26 : decode cX10_back 26 = .ok (.sipush 1413, 3) := by decide +kernel
theorem dX10_back_29 : decode cX10_back 29 = .ok (.sipush 157, 3) := by decide +kernel
theorem dX10_back_32 : decode cX10_back 32 = .ok (.iload_n 1, 1) := by decide +kernel
theorem dX10_back_33 : decode cX10_back 33 = .ok (.imul, 1) := by decide +kernel
theorem dX10_back_34 : decode cX10_back 34 = .ok (.iadd, 1) := by decide +kernel
theorem dX10_back_35 : decode cX10_back 35 = .ok (.iconst 0, 1) := by decide +kernel
theorem dX10_back_36 : decode cX10_back 36 = .ok (.invokevirtual 181, 3) := by decide +kernel
theorem dX10_back_39 : decode cX10_back 39 = .ok (.iconst 0, 1) := by decide +kernel
theorem dX10_back_40 : decode cX10_back 40 = .ok (.istore_n 2, 1) := by decide +kernel
theorem dX10_back_41 : decode cX10_back 41 = .ok (.iload_n 2, 1) := by decide +kernel
theorem dX10_back_42 : decode cX10_back 42 = .ok (.sipush 240, 3) := by decide +kernel
theorem dX10_back_45 : decode cX10_back 45 = .ok (.if_icmp .ge 31, 3) := by decide +kernel
theorem dX10_back_48 : decode cX10_back 48 = .ok (.aload_n 0, 1) := by decide +kernel
theorem dX10_back_49 : decode cX10_back 49 = .ok (.getfield 17, 3) := by decide +kernel
theorem dX10_back_52 : decode cX10_back 52 = .ok (.iload_n 2, 1) := by decide +kernel
theorem dX10_back_53 : decode cX10_back 53 = .ok (.aload_n 0, 1) := by decide +kernel
theorem dX10_back_54 : decode cX10_back 54 = .ok (.getfield 17, 3) := by decide +kernel
theorem dX10_back_57 : decode cX10_back 57 = .ok (.sipush 240, 3) := by decide +kernel
theorem dX10_back_60 : decode cX10_back 60 = .ok (.sipush 240, 3) := by decide +kernel
theorem dX10_back_63 : decode cX10_back 63 = .ok (.iload_n 1, 1) := by decide +kernel
theorem dX10_back_64 : decode cX10_back 64 = .ok (.imul, 1) := by decide +kernel
theorem dX10_back_65 : decode cX10_back 65 = .ok (.iadd, 1) := by decide +kernel
theorem dX10_back_66 : decode cX10_back 66 = .ok (.iload_n 2, 1) := by decide +kernel
theorem dX10_back_67 : decode cX10_back 67 = .ok (.iadd, 1) := by decide +kernel
theorem dX10_back_68 : decode cX10_back 68 = .ok (.iaload, 1) := by decide +kernel
theorem dX10_back_69 : decode cX10_back 69 = .ok (.iastore, 1) := by decide +kernel
theorem dX10_back_70 : decode cX10_back 70 = .ok (.iinc 2 1, 3) := by decide +kernel
theorem dX10_back_73 : decode cX10_back 73 = .ok (.goto (-32), 3) := by decide +kernel
theorem dX10_back_76 : decode cX10_back 76 = .ok (.aload_n 0, 1) := by decide +kernel
theorem dX10_back_77 : decode cX10_back 77 = .ok (.iconst 0, 1) := by decide +kernel
theorem dX10_back_78 : decode cX10_back 78 = .ok (.putfield 133, 3) := by decide +kernel
theorem dX10_back_81 : decode cX10_back 81 = .ok (.aload_n 0, 1) := by decide +kernel
theorem dX10_back_82 : decode cX10_back 82 = .ok (.invokevirtual 193, 3) := by decide +kernel
theorem dX10_back_85 : decode cX10_back 85 = .ok (.ireturn, 1) := by decide +kernel
theorem dX10_freshens_0 : decode cX10_freshens 0 = .ok (.aload_n 0, 1) := by decide +kernel
theorem dX10_freshens_1 : decode cX10_freshens 1 = .ok (.getfield 45, 3) := by decide +kernel
theorem dX10_freshens_4 : decode cX10_freshens 4 = .ok (.iconst 0, 1) := by decide +kernel
theorem dX10_freshens_5 : decode cX10_freshens 5 = .ok (.iconst 1, 1) := by decide +kernel
theorem dX10_freshens_6 : decode cX10_freshens 6 = .ok (.iastore, 1) := by decide +kernel
theorem dX10_freshens_7 : decode cX10_freshens 7 = .ok (.iconst 0, 1) := by decide +kernel
theorem dX10_freshens_8 : decode cX10_freshens 8 = .ok (.istore_n 2, 1) := by decide +kernel
theorem dX10_freshens_9 : decode cX10_freshens 9 = .ok (.iload_n 2, 1) := by decide +kernel
theorem dX10_freshens_10 : decode cX10_freshens 10 = .ok (.iconst 3, 1) := by decide +kernel
theorem dX10_freshens_11 : decode cX10_freshens 11 = .ok (.if_icmp .ge 53, 3) := by decide +kernel
theorem dX10_freshens_14 : decode cX10_freshens 14 = .ok (.aload_n 0, 1) := by decide +kernel
theorem dX10_freshens_15 : decode cX10_freshens 15 = .ok (.iload_n 1, 1) := by decide +kernel
theorem dX10_freshens_16 : decode cX10_freshens 16 = .ok (.iload_n 2, 1) := by decide +kernel
theorem dX10_freshens_17 : decode cX10_freshens 17 = .ok (.invokevirtual 152, 3) := by decide +kernel
theorem dX10_freshens_20 : decode cX10_freshens 20 = .ok (.istore_n 3, 1) := by decide +kernel
theorem dX10_freshens_21 : decode cX10_freshens 21 = .ok (.aload_n 0, 1) := by decide +kernel
theorem dX10_freshens_22 : decode cX10_freshens 22 = .ok (.getfield 45, 3) := by decide +kernel
theorem dX10_freshens_25 : decode cX10_freshens 25 = .ok (.iconst 1, 1) := by decide +kernel
theorem dX10_freshens_26 : decode cX10_freshens 26 = .ok (.iload_n 2, 1) := by decide +kernel
theorem dX10_freshens_27 : decode cX10_freshens 27 = .ok (.iadd, 1) := by decide +kernel
theorem dX10_freshens_28 : decode cX10_freshens 28 = .ok (.iload_n 3, 1) := by decide +kernel
theorem dX10_freshens_29 : decode cX10_freshens 29 = .ok (.iastore, 1) := by decide +kernel
theorem dX10_freshens_30 : decode cX10_freshens 30 = .ok (.aload_n 0, 1) := by decide +kernel
theorem dX10_freshens_31 : decode cX10_freshens 31 = .ok (.getfield 45, 3) := by decide +kernel
theorem dX10_freshens_34 : decode cX10_freshens 34 = .ok (.iconst 4, 1) := by decide +kernel
theorem dX10_freshens_35 : decode cX10_freshens 35 = .ok (.iload_n 2, 1) := by decide +kernel
theorem dX10_freshens_36 : decode cX10_freshens 36 = .ok (.iadd, 1) := by decide +kernel
theorem dX10_freshens_37 : decode cX10_freshens 37 = .ok (.iload_n 3, 1) := by decide +kernel
theorem dX10_freshens_38 : decode cX10_freshens 38 = .ok (.iconst (-1), 1) := by decide +kernel
theorem dX10_freshens_39 : decode cX10_freshens 39 = .ok (.if_icmp .ne 7, 3) := by decide +kernel
theorem dX10_freshens_42 : decode cX10_freshens 42 = .ok (.iconst (-1), 1) := by decide +kernel
theorem dX10_freshens_43 : decode cX10_freshens 43 = .ok (.goto 14, 3) := by decide +kernel
theorem dX10_freshens_46 : decode cX10_freshens 46 = .ok (.aload_n 0, 1) := by decide +kernel
theorem dX10_freshens_47 : decode cX10_freshens 47 = .ok (.getfield 36, 3) := by decide +kernel
theorem dX10_freshens_50 : decode cX10_freshens 50 = .ok (.bipush 12, 2) := by decide +kernel
theorem dX10_freshens_52 : decode cX10_freshens 52 = .ok (.iload_n 1, 1) := by decide +kernel
theorem dX10_freshens_53 : decode cX10_freshens 53 = .ok (.imul, 1) := by decide +kernel
theorem dX10_freshens_54 : decode cX10_freshens 54 = .ok (.iload_n 3, 1) := by decide +kernel
theorem dX10_freshens_55 : decode cX10_freshens 55 = .ok (.iadd, 1) := by decide +kernel
theorem dX10_freshens_56 : decode cX10_freshens 56 = .ok (.iaload, 1) := by decide +kernel
theorem dX10_freshens_57 : decode cX10_freshens 57 = .ok (.iastore, 1) := by decide +kernel
theorem dX10_freshens_58 : decode cX10_freshens 58 = .ok (.iinc 2 1, 3) := by decide +kernel
theorem dX10_freshens_61 : decode cX10_freshens 61 = .ok (.goto (-52), 3) := by decide +kernel
theorem dX10_freshens_64 : decode cX10_freshens 64 = .ok (.aload_n 0, 1) := by decide +kernel
theorem dX10_freshens_65 : decode cX10_freshens 65 = .ok (.getfield 45, 3) := by decide +kernel
theorem dX10_freshens_68 : decode cX10_freshens 68 = .ok (.bipush 7, 2) := by decide +kernel
theorem dX10_freshens_70 : decode cX10_freshens 70 = .ok (.aload_n 0, 1) := by decide +kernel
theorem dX10_freshens_71 : decode cX10_freshens 71 = .ok (.iload_n 1, 1) := by decide +kernel
theorem dX10_freshens_72 : decode cX10_freshens 72 = .ok (.invokevirtual 161, 3) := by decide +kernel
theorem dX10_freshens_75 : decode cX10_freshens 75 = .ok (.iastore, 1) := by decide +kernel
theorem dX10_freshens_76 : decode cX10_freshens 76 = .ok (.iconst 0, 1) := by decide +kernel
theorem dX10_freshens_77 : decode cX10_freshens 77 = .ok (.istore_n 2, 1) := by decide +kernel
theorem dX10_freshens_78 : decode cX10_freshens 78 = .ok (.iload_n 2, 1) := by decide +kernel
theorem dX10_freshens_79 : decode cX10_freshens 79 = .ok (.bipush 12, 2) := by decide +kernel
theorem dX10_freshens_81 : decode cX10_freshens 81 = .ok (.if_icmp .ge 47, 3) := by decide +kernel
theorem dX10_freshens_84 : decode cX10_freshens 84 = .ok (.aload_n 0, 1) := by decide +kernel
theorem dX10_freshens_85 : decode cX10_freshens 85 = .ok (.getfield 45, 3) := by decide +kernel
theorem dX10_freshens_88 : decode cX10_freshens 88 = .ok (.bipush 8, 2) := by decide +kernel
theorem dX10_freshens_90 : decode cX10_freshens 90 = .ok (.iload_n 2, 1) := by decide +kernel
theorem dX10_freshens_91 : decode cX10_freshens 91 = .ok (.iadd, 1) := by decide +kernel
theorem dX10_freshens_92 : decode cX10_freshens 92 = .ok (.aload_n 0, 1) := by decide +kernel
theorem dX10_freshens_93 : decode cX10_freshens 93 = .ok (.getfield 45, 3) := by decide +kernel
theorem dX10_freshens_96 : decode cX10_freshens 96 = .ok (.bipush 7, 2) := by decide +kernel
theorem dX10_freshens_98 : decode cX10_freshens 98 = .ok (.iaload, 1) := by decide +kernel
theorem dX10_freshens_99 : decode cX10_freshens 99 = .ok (.iload_n 2, 1) := by decide +kernel
theorem dX10_freshens_100 : decode cX10_freshens 100 = .ok (.invokestatic 196, 3) := by decide +kernel
theorem dX10_freshens_103 : decode cX10_freshens 103 = .ok (.ifCond .eq 17, 3) := by decide +kernel
theorem dX10_freshens_106 : decode cX10_freshens 106 = .ok (.aload_n 0, 1) := by decide +kernel
theorem dX10_freshens_107 : decode cX10_freshens 107 = .ok (.getfield 36, 3) := by decide +kernel
theorem dX10_freshens_110 : decode cX10_freshens 110 = .ok (.bipush 12, 2) := by decide +kernel
theorem dX10_freshens_112 : decode cX10_freshens 112 = .ok (.iload_n 1, 1) := by decide +kernel
theorem dX10_freshens_113 : decode cX10_freshens 113 = .ok (.imul, 1) := by decide +kernel
theorem dX10_freshens_114 : decode cX10_freshens 114 = .ok (.iload_n 2, 1) := by decide +kernel
theorem dX10_freshens_115 : decode cX10_freshens 115 = .ok (.iadd, 1) := by decide +kernel
theorem dX10_freshens_116 : decode cX10_freshens 116 = .ok (.iaload, 1) := by decide +kernel
theorem dX10_freshens_117 : decode cX10_freshens 117 = .ok (.goto 4, 3) := by decide +kernel
theorem dX10_freshens_120 : decode cX10_freshens 120 = .ok (.iconst (-1), 1) := by decide +kernel
theorem dX10_freshens_121 : decode cX10_freshens 121 = .ok (.iastore, 1) := by decide +kernel
theorem dX10_freshens_122 : decode cX10_freshens 122 = .ok (.iinc 2 1, 3) := by decide +kernel
theorem dX10_freshens_125 : decode cX10_freshens 125 = .ok (.goto (-47), 3) := by decide +kernel
theorem dX10_freshens_128 : decode cX10_freshens 128 = .ok (.return_, 1) := by decide +kernel
theorem dX10_isFresh_0 : decode cX10_isFresh 0 = .ok (.aload_n 0, 1) := by decide +kernel
theorem dX10_isFresh_1 : decode cX10_isFresh 1 = .ok (.iload_n 1, 1) := by decide +kernel
theorem dX10_isFresh_2 : decode cX10_isFresh 2 = .ok (.invokevirtual 199, 3) := by decide +kernel
theorem dX10_isFresh_5 : decode cX10_isFresh 5 = .ok (.iconst 1, 1) := by decide +kernel
theorem dX10_isFresh_6 : decode cX10_isFresh 6 = .ok (.istore_n 2, 1) := by decide +kernel
theorem dX10_isFresh_7 : decode cX10_isFresh 7 = .ok (.iconst 0, 1) := by decide +kernel
theorem dX10_isFresh_8 : decode cX10_isFresh 8 = .ok (.istore_n 3, 1) := by decide +kernel
theorem dX10_isFresh_9 : decode cX10_isFresh 9 = .ok (.iload_n 3, 1) := by decide +kernel
theorem dX10_isFresh_10 : decode cX10_isFresh 10 = .ok (.bipush 20, 2) := by decide +kernel
theorem dX10_isFresh_12 : decode cX10_isFresh 12 = .ok (.if_icmp .ge 39, 3) := by decide +kernel
theorem dX10_isFresh_15 : decode cX10_isFresh 15 = .ok (.iload_n 2, 1) := by decide +kernel
theorem dX10_isFresh_16 : decode cX10_isFresh 16 = .ok (.ifCond .eq 27, 3) := by decide +kernel
theorem dX10_isFresh_19 : decode cX10_isFresh 19 = .ok (.aload_n 0, 1) := by decide +kernel
theorem dX10_isFresh_20 : decode cX10_isFresh 20 = .ok (.getfield 17, 3) := by decide +kernel
theorem dX10_isFresh_23 : decode cX10_isFresh 23 = .ok (.bipush 20, 2) := by decide +kernel
theorem dX10_isFresh_25 : decode cX10_isFresh 25 = .ok (.iload_n 1, 1) := by decide +kernel
theorem dX10_isFresh_26 : decode cX10_isFresh 26 = .ok (.imul, 1) := by decide +kernel
theorem dX10_isFresh_27 : decode cX10_isFresh 27 = .ok (.iload_n 3, 1) := by decide +kernel
theorem dX10_isFresh_28 : decode cX10_isFresh 28 = .ok (.iadd, 1) := by decide +kernel
theorem dX10_isFresh_29 : decode cX10_isFresh 29 = .ok (.iaload, 1) := by decide +kernel
theorem dX10_isFresh_30 : decode cX10_isFresh 30 = .ok (.aload_n 0, 1) := by decide +kernel
theorem dX10_isFresh_31 : decode cX10_isFresh 31 = .ok (.getfield 45, 3) := by decide +kernel
theorem dX10_isFresh_34 : decode cX10_isFresh 34 = .ok (.iload_n 3, 1) := by decide +kernel
theorem dX10_isFresh_35 : decode cX10_isFresh 35 = .ok (.iaload, 1) := by decide +kernel
theorem dX10_isFresh_36 : decode cX10_isFresh 36 = .ok (.if_icmp .ne 7, 3) := by decide +kernel
theorem dX10_isFresh_39 : decode cX10_isFresh 39 = .ok (.iconst 1, 1) := by decide +kernel
theorem dX10_isFresh_40 : decode cX10_isFresh 40 = .ok (.goto 4, 3) := by decide +kernel
theorem dX10_isFresh_43 : decode cX10_isFresh 43 = .ok (.iconst 0, 1) := by decide +kernel
theorem dX10_isFresh_44 : decode cX10_isFresh 44 = .ok (.istore_n 2, 1) := by decide +kernel
theorem dX10_isFresh_45 : decode cX10_isFresh 45 = .ok (.iinc 3 1, 3) := by decide +kernel
theorem dX10_isFresh_48 : decode cX10_isFresh 48 = .ok (.goto (-39), 3) := by decide +kernel
theorem dX10_isFresh_51 : decode cX10_isFresh 51 = .ok (.iload_n 2, 1) := by decide +kernel
theorem dX10_isFresh_52 : decode cX10_isFresh 52 = .ok (.ireturn, 1) := by decide +kernel
theorem dX10_writes_0 : decode cX10_writes 0 = .ok (.aload_n 0, 1) := by decide +kernel
theorem dX10_writes_1 : decode cX10_writes 1 = .ok (.iload_n 1, 1) := by decide +kernel
theorem dX10_writes_2 : decode cX10_writes 2 = .ok (.invokevirtual 199, 3) := by decide +kernel
theorem dX10_writes_5 : decode cX10_writes 5 = .ok (.iconst 0, 1) := by decide +kernel
theorem dX10_writes_6 : decode cX10_writes 6 = .ok (.istore_n 2, 1) := by decide +kernel
theorem dX10_writes_7 : decode cX10_writes 7 = .ok (.iload_n 2, 1) := by decide +kernel
theorem dX10_writes_8 : decode cX10_writes 8 = .ok (.bipush 20, 2) := by decide +kernel
theorem dX10_writes_10 : decode cX10_writes 10 = .ok (.if_icmp .ge 26, 3) := by decide +kernel
theorem dX10_writes_13 : decode cX10_writes 13 = .ok (.aload_n 0, 1) := by decide +kernel
theorem dX10_writes_14 : decode cX10_writes 14 = .ok (.getfield 17, 3) := by decide +kernel
theorem dX10_writes_17 : decode cX10_writes 17 = .ok (.bipush 20, 2) := by decide +kernel
theorem dX10_writes_19 : decode cX10_writes 19 = .ok (.iload_n 1, 1) := by decide +kernel
theorem dX10_writes_20 : decode cX10_writes 20 = .ok (.imul, 1) := by decide +kernel
theorem dX10_writes_21 : decode cX10_writes 21 = .ok (.iload_n 2, 1) := by decide +kernel
theorem dX10_writes_22 : decode cX10_writes 22 = .ok (.iadd, 1) := by decide +kernel
theorem dX10_writes_23 : decode cX10_writes 23 = .ok (.aload_n 0, 1) := by decide +kernel
theorem dX10_writes_24 : decode cX10_writes 24 = .ok (.getfield 45, 3) := by decide +kernel
theorem dX10_writes_27 : decode cX10_writes 27 = .ok (.iload_n 2, 1) := by decide +kernel
theorem dX10_writes_28 : decode cX10_writes 28 = .ok (.iaload, 1) := by decide +kernel
theorem dX10_writes_29 : decode cX10_writes 29 = .ok (.iastore, 1) := by decide +kernel
theorem dX10_writes_30 : decode cX10_writes 30 = .ok (.iinc 2 1, 3) := by decide +kernel
theorem dX10_writes_33 : decode cX10_writes 33 = .ok (.goto (-26), 3) := by decide +kernel
theorem dX10_writes_36 : decode cX10_writes 36 = .ok (.return_, 1) := by decide +kernel
theorem dX10_note_0 : decode cX10_note 0 = .ok (.aload_n 0, 1) := by decide +kernel
theorem dX10_note_1 : decode cX10_note 1 = .ok (.iload_n 1, 1) := by decide +kernel
theorem dX10_note_2 : decode cX10_note 2 = .ok (.invokevirtual 140, 3) := by decide +kernel
theorem dX10_note_5 : decode cX10_note 5 = .ok (.ifCond .ne 6, 3) := by decide +kernel
theorem dX10_note_8 : decode cX10_note 8 = .ok (.bipush (-2), 2) := by decide +kernel
theorem dX10_note_10 : decode cX10_note 10 = .ok (.ireturn, 1) := by decide +kernel
theorem dX10_note_11 : decode cX10_note 11 = .ok (.aload_n 0, 1) := by decide +kernel
theorem dX10_note_12 : decode cX10_note 12 = .ok (.iconst 0, 1) := by decide +kernel
theorem dX10_note_13 : decode cX10_note 13 = .ok (.invokevirtual 144, 3) := by decide +kernel
theorem dX10_note_16 : decode cX10_note 16 = .ok (.aload_n 0, 1) := by decide +kernel
theorem dX10_note_17 : decode cX10_note 17 = .ok (.iload_n 1, 1) := by decide +kernel
theorem dX10_note_18 : decode cX10_note 18 = .ok (.invokevirtual 202, 3) := by decide +kernel
theorem dX10_note_21 : decode cX10_note 21 = .ok (.aload_n 0, 1) := by decide +kernel
theorem dX10_note_22 : decode cX10_note 22 = .ok (.getfield 17, 3) := by decide +kernel
theorem dX10_note_25 : decode cX10_note 25 = .ok (.bipush 20, 2) := by decide +kernel
theorem dX10_note_27 : decode cX10_note 27 = .ok (.iload_n 1, 1) := by decide +kernel
theorem dX10_note_28 : decode cX10_note 28 = .ok (.imul, 1) := by decide +kernel
theorem dX10_note_29 : decode cX10_note 29 = .ok (.bipush 7, 2) := by decide +kernel
theorem dX10_note_31 : decode cX10_note 31 = .ok (.iadd, 1) := by decide +kernel
theorem dX10_note_32 : decode cX10_note 32 = .ok (.iaload, 1) := by decide +kernel
theorem dX10_note_33 : decode cX10_note 33 = .ok (.invokestatic 205, 3) := by decide +kernel
theorem dX10_note_36 : decode cX10_note 36 = .ok (.ireturn, 1) := by decide +kernel
theorem dX10_mend_0 : decode cX10_mend 0 = .ok (.aload_n 0, 1) := by decide +kernel
theorem dX10_mend_1 : decode cX10_mend 1 = .ok (.iconst 0, 1) := by decide +kernel
theorem dX10_mend_2 : decode cX10_mend 2 = .ok (.invokevirtual 144, 3) := by decide +kernel
theorem dX10_mend_5 : decode cX10_mend 5 = .ok (.iconst 0, 1) := by decide +kernel
theorem dX10_mend_6 : decode cX10_mend 6 = .ok (.istore_n 1, 1) := by decide +kernel
theorem dX10_mend_7 : decode cX10_mend 7 = .ok (.iconst 0, 1) := by decide +kernel
theorem dX10_mend_8 : decode cX10_mend 8 = .ok (.istore_n 2, 1) := by decide +kernel
theorem dX10_mend_9 : decode cX10_mend 9 = .ok (.iload_n 2, 1) := by decide +kernel
theorem dX10_mend_10 : decode cX10_mend 10 = .ok (.aload_n 0, 1) := by decide +kernel
theorem dX10_mend_11 : decode cX10_mend 11 = .ok (.getfield 13, 3) := by decide +kernel
theorem dX10_mend_14 : decode cX10_mend 14 = .ok (.if_icmp .ge 25, 3) := by decide +kernel
theorem dX10_mend_17 : decode cX10_mend 17 = .ok (.aload_n 0, 1) := by decide +kernel
theorem dX10_mend_18 : decode cX10_mend 18 = .ok (.iload_n 2, 1) := by decide +kernel
theorem dX10_mend_19 : decode cX10_mend 19 = .ok (.invokevirtual 208, 3) := by decide +kernel
theorem dX10_mend_22 : decode cX10_mend 22 = .ok (.ifCond .ne 11, 3) := by decide +kernel
theorem dX10_mend_25 : decode cX10_mend 25 = .ok (.aload_n 0, 1) := by decide +kernel
theorem dX10_mend_26 : decode cX10_mend 26 = .ok (.iload_n 2, 1) := by decide +kernel
theorem dX10_mend_27 : decode cX10_mend 27 = .ok (.invokevirtual 202, 3) := by decide +kernel
theorem dX10_mend_30 : decode cX10_mend 30 = .ok (.iinc 1 1, 3) := by decide +kernel
theorem dX10_mend_33 : decode cX10_mend 33 = .ok (.iinc 2 1, 3) := by decide +kernel
theorem dX10_mend_36 : decode cX10_mend 36 = .ok (.goto (-27), 3) := by decide +kernel
theorem dX10_mend_39 : decode cX10_mend 39 = .ok (.iload_n 1, 1) := by decide +kernel
theorem dX10_mend_40 : decode cX10_mend 40 = .ok (.ireturn, 1) := by decide +kernel
theorem dX10_tear_0 : decode cX10_tear 0 = .ok (.aload_n 0, 1) := by decide +kernel
theorem dX10_tear_1 : decode cX10_tear 1 = .ok (.iload_n 1, 1) := by decide +kernel
theorem dX10_tear_2 : decode cX10_tear 2 = .ok (.invokevirtual 140, 3) := by decide +kernel
theorem dX10_tear_5 : decode cX10_tear 5 = .ok (.ifCond .ne 6, 3) := by decide +kernel
theorem dX10_tear_8 : decode cX10_tear 8 = .ok (.bipush (-2), 2) := by decide +kernel
theorem dX10_tear_10 : decode cX10_tear 10 = .ok (.ireturn, 1) := by decide +kernel
theorem dX10_tear_11 : decode cX10_tear 11 = .ok (.aload_n 0, 1) := by decide +kernel
theorem dX10_tear_12 : decode cX10_tear 12 = .ok (.getfield 17, 3) := by decide +kernel
theorem dX10_tear_15 : decode cX10_tear 15 = .ok (.bipush 20, 2) := by decide +kernel
theorem dX10_tear_17 : decode cX10_tear 17 = .ok (.iload_n 1, 1) := by decide +kernel
theorem dX10_tear_18 : decode cX10_tear 18 = .ok (.imul, 1) := by decide +kernel
theorem dX10_tear_19 : decode cX10_tear 19 = .ok (.iaload, 1) := by decide +kernel
theorem dX10_tear_20 : decode cX10_tear 20 = .ok (.istore_n 2, 1) := by decide +kernel
theorem dX10_tear_21 : decode cX10_tear 21 = .ok (.iconst 0, 1) := by decide +kernel
theorem dX10_tear_22 : decode cX10_tear 22 = .ok (.istore_n 3, 1) := by decide +kernel
theorem dX10_tear_23 : decode cX10_tear 23 = .ok (.iload_n 3, 1) := by decide +kernel
theorem dX10_tear_24 : decode cX10_tear 24 = .ok (.bipush 20, 2) := by decide +kernel
theorem dX10_tear_26 : decode cX10_tear 26 = .ok (.if_icmp .ge 21, 3) := by decide +kernel
theorem dX10_tear_29 : decode cX10_tear 29 = .ok (.aload_n 0, 1) := by decide +kernel
theorem dX10_tear_30 : decode cX10_tear 30 = .ok (.getfield 17, 3) := by decide +kernel
theorem dX10_tear_33 : decode cX10_tear 33 = .ok (.bipush 20, 2) := by decide +kernel
theorem dX10_tear_35 : decode cX10_tear 35 = .ok (.iload_n 1, 1) := by decide +kernel
theorem dX10_tear_36 : decode cX10_tear 36 = .ok (.imul, 1) := by decide +kernel
theorem dX10_tear_37 : decode cX10_tear 37 = .ok (.iload_n 3, 1) := by decide +kernel
theorem dX10_tear_38 : decode cX10_tear 38 = .ok (.iadd, 1) := by decide +kernel
theorem dX10_tear_39 : decode cX10_tear 39 = .ok (.iconst 0, 1) := by decide +kernel
theorem dX10_tear_40 : decode cX10_tear 40 = .ok (.iastore, 1) := by decide +kernel
theorem dX10_tear_41 : decode cX10_tear 41 = .ok (.iinc 3 1, 3) := by decide +kernel
theorem dX10_tear_44 : decode cX10_tear 44 = .ok (.goto (-21), 3) := by decide +kernel
theorem dX10_tear_47 : decode cX10_tear 47 = .ok (.iload_n 2, 1) := by decide +kernel
theorem dX10_tear_48 : decode cX10_tear 48 = .ok (.ireturn, 1) := by decide +kernel
theorem dX10_noted_0 : decode cX10_noted 0 = .ok (.aload_n 0, 1) := by decide +kernel
theorem dX10_noted_1 : decode cX10_noted 1 = .ok (.iload_n 1, 1) := by decide +kernel
theorem dX10_noted_2 : decode cX10_noted 2 = .ok (.invokevirtual 140, 3) := by decide +kernel
theorem dX10_noted_5 : decode cX10_noted 5 = .ok (.ifCond .ne 6, 3) := by decide +kernel
theorem dX10_noted_8 : decode cX10_noted 8 = .ok (.bipush (-2), 2) := by decide +kernel
theorem dX10_noted_10 : decode cX10_noted 10 = .ok (.ireturn, 1) := by decide +kernel
theorem dX10_noted_11 : decode cX10_noted 11 = .ok (.iload_n 2, 1) := by decide +kernel
theorem dX10_noted_12 : decode cX10_noted 12 = .ok (.i2l, 1) := by decide +kernel
theorem dX10_noted_13 : decode cX10_noted 13 = .ok (.lconst 0, 1) := by decide +kernel
theorem dX10_noted_14 : decode cX10_noted 14 = .ok (.ldc2_w 211, 3) := by decide +kernel
theorem dX10_noted_17 : decode cX10_noted 17 = .ok (.invokestatic 48, 3) := by decide +kernel
theorem dX10_noted_20 : decode cX10_noted 20 = .ok (.ifCond .ne 6, 3) := by decide +kernel
theorem dX10_noted_23 : decode cX10_noted 23 = .ok (.bipush (-3), 2) := by decide +kernel
theorem dX10_noted_25 : decode cX10_noted 25 = .ok (.ireturn, 1) := by decide +kernel
theorem dX10_noted_26 : decode cX10_noted 26 = .ok (.iload_n 2, 1) := by decide +kernel
theorem dX10_noted_27 : decode cX10_noted 27 = .ok (.ifCond .ne 22, 3) := by decide +kernel
theorem dX10_noted_30 : decode cX10_noted 30 = .ok (.aload_n 0, 1) := by decide +kernel
theorem dX10_noted_31 : decode cX10_noted 31 = .ok (.iconst 0, 1) := by decide +kernel
theorem dX10_noted_32 : decode cX10_noted 32 = .ok (.invokevirtual 144, 3) := by decide +kernel
theorem dX10_noted_35 : decode cX10_noted 35 = .ok (.aload_n 0, 1) := by decide +kernel
theorem dX10_noted_36 : decode cX10_noted 36 = .ok (.iload_n 1, 1) := by decide +kernel
theorem dX10_noted_37 : decode cX10_noted 37 = .ok (.invokevirtual 208, 3) := by decide +kernel
theorem dX10_noted_40 : decode cX10_noted 40 = .ok (.ifCond .eq 7, 3) := by decide +kernel
theorem dX10_noted_43 : decode cX10_noted 43 = .ok (.iconst 1, 1) := by decide +kernel
theorem dX10_noted_44 : decode cX10_noted 44 = .ok (.goto 4, 3) := by decide +kernel
theorem dX10_noted_47 : decode cX10_noted 47 = .ok (.iconst 0, 1) := by decide +kernel
theorem dX10_noted_48 : decode cX10_noted 48 = .ok (.ireturn, 1) := by decide +kernel
theorem dX10_noted_49 : decode cX10_noted 49 = .ok (.aload_n 0, 1) := by decide +kernel
theorem dX10_noted_50 : decode cX10_noted 50 = .ok (.iload_n 1, 1) := by decide +kernel
theorem dX10_noted_51 : decode cX10_noted 51 = .ok (.invokevirtual 190, 3) := by decide +kernel
theorem dX10_noted_54 : decode cX10_noted 54 = .ok (.ifCond .eq 17, 3) := by decide +kernel
theorem dX10_noted_57 : decode cX10_noted 57 = .ok (.aload_n 0, 1) := by decide +kernel
theorem dX10_noted_58 : decode cX10_noted 58 = .ok (.getfield 17, 3) := by decide +kernel
theorem dX10_noted_61 : decode cX10_noted 61 = .ok (.bipush 20, 2) := by decide +kernel
theorem dX10_noted_63 : decode cX10_noted 63 = .ok (.iload_n 1, 1) := by decide +kernel
theorem dX10_noted_64 : decode cX10_noted 64 = .ok (.imul, 1) := by decide +kernel
theorem dX10_noted_65 : decode cX10_noted 65 = .ok (.iload_n 2, 1) := by decide +kernel
theorem dX10_noted_66 : decode cX10_noted 66 = .ok (.iadd, 1) := by decide +kernel
theorem dX10_noted_67 : decode cX10_noted 67 = .ok (.iaload, 1) := by decide +kernel
theorem dX10_noted_68 : decode cX10_noted 68 = .ok (.goto 5, 3) := by decide +kernel
theorem dX10_noted_71 : decode cX10_noted 71 = .ok (.bipush (-4), 2) := by decide +kernel
theorem dX10_noted_73 : decode cX10_noted 73 = .ok (.ireturn, 1) := by decide +kernel
theorem dX10_notedFar_0 : decode cX10_notedFar 0 = .ok (.aload_n 0, 1) := by decide +kernel
theorem dX10_notedFar_1 : decode cX10_notedFar 1 = .ok (.iload_n 1, 1) := by decide +kernel
theorem dX10_notedFar_2 : decode cX10_notedFar 2 = .ok (.invokevirtual 140, 3) := by decide +kernel
theorem dX10_notedFar_5 : decode cX10_notedFar 5 = .ok (.ifCond .eq 11, 3) := by decide +kernel
theorem dX10_notedFar_8 : decode cX10_notedFar 8 = .ok (.aload_n 0, 1) := by decide +kernel
theorem dX10_notedFar_9 : decode cX10_notedFar 9 = .ok (.iload_n 2, 1) := by decide +kernel
theorem dX10_notedFar_10 : decode cX10_notedFar 10 = .ok (.invokevirtual 140, 3) := by decide +kernel
theorem dX10_notedFar_13 : decode cX10_notedFar 13 = .ok (.ifCond .ne 6, 3) := by decide +kernel
theorem dX10_notedFar_16 : decode cX10_notedFar 16 = .ok (.bipush (-2), 2) := by decide +kernel
theorem dX10_notedFar_18 : decode cX10_notedFar 18 = .ok (.ireturn, 1) := by decide +kernel
theorem dX10_notedFar_19 : decode cX10_notedFar 19 = .ok (.aload_n 0, 1) := by decide +kernel
theorem dX10_notedFar_20 : decode cX10_notedFar 20 = .ok (.iload_n 1, 1) := by decide +kernel
theorem dX10_notedFar_21 : decode cX10_notedFar 21 = .ok (.invokevirtual 190, 3) := by decide +kernel
theorem dX10_notedFar_24 : decode cX10_notedFar 24 = .ok (.ifCond .eq 20, 3) := by decide +kernel
theorem dX10_notedFar_27 : decode cX10_notedFar 27 = .ok (.aload_n 0, 1) := by decide +kernel
theorem dX10_notedFar_28 : decode cX10_notedFar 28 = .ok (.getfield 17, 3) := by decide +kernel
theorem dX10_notedFar_31 : decode cX10_notedFar 31 = .ok (.bipush 20, 2) := by decide +kernel
theorem dX10_notedFar_33 : decode cX10_notedFar 33 = .ok (.iload_n 1, 1) := by decide +kernel
theorem dX10_notedFar_34 : decode cX10_notedFar 34 = .ok (.imul, 1) := by decide +kernel
theorem dX10_notedFar_35 : decode cX10_notedFar 35 = .ok (.bipush 8, 2) := by decide +kernel
theorem dX10_notedFar_37 : decode cX10_notedFar 37 = .ok (.iadd, 1) := by decide +kernel
theorem dX10_notedFar_38 : decode cX10_notedFar 38 = .ok (.iload_n 2, 1) := by decide +kernel
theorem dX10_notedFar_39 : decode cX10_notedFar 39 = .ok (.iadd, 1) := by decide +kernel
theorem dX10_notedFar_40 : decode cX10_notedFar 40 = .ok (.iaload, 1) := by decide +kernel
theorem dX10_notedFar_41 : decode cX10_notedFar 41 = .ok (.goto 4, 3) := by decide +kernel
theorem dX10_notedFar_44 : decode cX10_notedFar 44 = .ok (.iconst (-1), 1) := by decide +kernel
theorem dX10_notedFar_45 : decode cX10_notedFar 45 = .ok (.ireturn, 1) := by decide +kernel
theorem dX10_untold_0 : decode cX10_untold 0 = .ok (.aload_n 0, 1) := by decide +kernel
theorem dX10_untold_1 : decode cX10_untold 1 = .ok (.iload_n 1, 1) := by decide +kernel
theorem dX10_untold_2 : decode cX10_untold 2 = .ok (.putfield 213, 3) := by decide +kernel
theorem dX10_untold_5 : decode cX10_untold 5 = .ok (.aload_n 0, 1) := by decide +kernel
theorem dX10_untold_6 : decode cX10_untold 6 = .ok (.iload_n 2, 1) := by decide +kernel
theorem dX10_untold_7 : decode cX10_untold 7 = .ok (.putfield 216, 3) := by decide +kernel
theorem dX10_untold_10 : decode cX10_untold 10 = .ok (.aload_n 0, 1) := by decide +kernel
theorem dX10_untold_11 : decode cX10_untold 11 = .ok (.iconst (-1), 1) := by decide +kernel
theorem dX10_untold_12 : decode cX10_untold 12 = .ok (.putfield 219, 3) := by decide +kernel
theorem dX10_untold_15 : decode cX10_untold 15 = .ok (.aload_n 0, 1) := by decide +kernel
theorem dX10_untold_16 : decode cX10_untold 16 = .ok (.iconst (-1), 1) := by decide +kernel
theorem dX10_untold_17 : decode cX10_untold 17 = .ok (.putfield 222, 3) := by decide +kernel
theorem dX10_untold_20 : decode cX10_untold 20 = .ok (.iconst 0, 1) := by decide +kernel
theorem dX10_untold_21 : decode cX10_untold 21 = .ok (.ireturn, 1) := by decide +kernel
theorem dX10_tells_0 : decode cX10_tells 0 = .ok (.iload_n 1, 1) := by decide +kernel
theorem dX10_tells_1 : decode cX10_tells 1 = .ok (.istore_n 3, 1) := by decide +kernel
theorem dX10_tells_2 : decode cX10_tells 2 = .ok (.iload_n 2, 1) := by decide +kernel
theorem dX10_tells_3 : decode cX10_tells 3 = .ok (.istore 4, 2) := by decide +kernel
theorem dX10_tells_5 : decode cX10_tells 5 = .ok (.iconst 0, 1) := by decide +kernel
theorem dX10_tells_6 : decode cX10_tells 6 = .ok (.istore 5, 2) := by decide +kernel
theorem dX10_tells_8 : decode cX10_tells 8 = .ok (.iload 5, 2) := by decide +kernel
theorem dX10_tells_10 : decode cX10_tells 10 = .ok (.iconst 3, 1) := by decide +kernel
theorem dX10_tells_11 : decode cX10_tells 11 = .ok (.if_icmp .ge 155, 3) := by decide +kernel
theorem dX10_tells_14 : decode cX10_tells 14 = .ok (.aload_n 0, 1) := by decide +kernel
theorem dX10_tells_15 : decode cX10_tells 15 = .ok (.iload 5, 2) := by decide +kernel
theorem dX10_tells_17 : decode cX10_tells 17 = .ok (.putfield 225, 3) := by decide +kernel
theorem dX10_tells_20 : decode cX10_tells 20 = .ok (.aload_n 0, 1) := by decide +kernel
theorem dX10_tells_21 : decode cX10_tells 21 = .ok (.iload_n 3, 1) := by decide +kernel
theorem dX10_tells_22 : decode cX10_tells 22 = .ok (.invokevirtual 190, 3) := by decide +kernel
theorem dX10_tells_25 : decode cX10_tells 25 = .ok (.ifCond .ne 10, 3) := by decide +kernel
theorem dX10_tells_28 : decode cX10_tells 28 = .ok (.aload_n 0, 1) := by decide +kernel
theorem dX10_tells_29 : decode cX10_tells 29 = .ok (.iconst 1, 1) := by decide +kernel
theorem dX10_tells_30 : decode cX10_tells 30 = .ok (.iload_n 3, 1) := by decide +kernel
theorem dX10_tells_31 : decode cX10_tells 31 = .ok (.invokevirtual 228, 3) := by decide +kernel
theorem dX10_tells_34 : decode cX10_tells 34 = .ok (.ireturn, 1) := by decide +kernel
theorem dX10_tells_35 : decode cX10_tells 35 = .ok (.aload_n 0, 1) := by decide +kernel
theorem dX10_tells_36 : decode cX10_tells 36 = .ok (.getfield 17, 3) := by decide +kernel
theorem dX10_tells_39 : decode cX10_tells 39 = .ok (.bipush 20, 2) := by decide +kernel
theorem dX10_tells_41 : decode cX10_tells 41 = .ok (.iload_n 3, 1) := by decide +kernel
theorem dX10_tells_42 : decode cX10_tells 42 = .ok (.imul, 1) := by decide +kernel
theorem dX10_tells_43 : decode cX10_tells 43 = .ok (.iconst 1, 1) := by decide +kernel
theorem dX10_tells_44 : decode cX10_tells 44 = .ok (.iadd, 1) := by decide +kernel
theorem dX10_tells_45 : decode cX10_tells 45 = .ok (.iload 5, 2) := by decide +kernel
theorem dX10_tells_47 : decode cX10_tells 47 = .ok (.iadd, 1) := by decide +kernel
theorem dX10_tells_48 : decode cX10_tells 48 = .ok (.iaload, 1) := by decide +kernel
theorem dX10_tells_49 : decode cX10_tells 49 = .ok (.istore 6, 2) := by decide +kernel
theorem dX10_tells_51 : decode cX10_tells 51 = .ok (.iload 6, 2) := by decide +kernel
theorem dX10_tells_53 : decode cX10_tells 53 = .ok (.iconst (-1), 1) := by decide +kernel
theorem dX10_tells_54 : decode cX10_tells 54 = .ok (.if_icmp .ne 10, 3) := by decide +kernel
theorem dX10_tells_57 : decode cX10_tells 57 = .ok (.aload_n 0, 1) := by decide +kernel
theorem dX10_tells_58 : decode cX10_tells 58 = .ok (.iconst 2, 1) := by decide +kernel
theorem dX10_tells_59 : decode cX10_tells 59 = .ok (.iload_n 3, 1) := by decide +kernel
theorem dX10_tells_60 : decode cX10_tells 60 = .ok (.invokevirtual 228, 3) := by decide +kernel
theorem dX10_tells_63 : decode cX10_tells 63 = .ok (.ireturn, 1) := by decide +kernel
theorem dX10_tells_64 : decode cX10_tells 64 = .ok (.aload_n 0, 1) := by decide +kernel
theorem dX10_tells_65 : decode cX10_tells 65 = .ok (.iload 4, 2) := by decide +kernel
theorem dX10_tells_67 : decode cX10_tells 67 = .ok (.invokevirtual 190, 3) := by decide +kernel
theorem dX10_tells_70 : decode cX10_tells 70 = .ok (.ifCond .ne 11, 3) := by decide +kernel
theorem dX10_tells_73 : decode cX10_tells 73 = .ok (.aload_n 0, 1) := by decide +kernel
theorem dX10_tells_74 : decode cX10_tells 74 = .ok (.iconst 1, 1) := by decide +kernel
theorem dX10_tells_75 : decode cX10_tells 75 = .ok (.iload 4, 2) := by decide +kernel
theorem dX10_tells_77 : decode cX10_tells 77 = .ok (.invokevirtual 228, 3) := by decide +kernel
theorem dX10_tells_80 : decode cX10_tells 80 = .ok (.ireturn, 1) := by decide +kernel
theorem dX10_tells_81 : decode cX10_tells 81 = .ok (.aload_n 0, 1) := by decide +kernel
theorem dX10_tells_82 : decode cX10_tells 82 = .ok (.getfield 17, 3) := by decide +kernel
theorem dX10_tells_85 : decode cX10_tells 85 = .ok (.bipush 20, 2) := by decide +kernel
theorem dX10_tells_87 : decode cX10_tells 87 = .ok (.iload 4, 2) := by decide +kernel
theorem dX10_tells_89 : decode cX10_tells 89 = .ok (.imul, 1) := by decide +kernel
theorem dX10_tells_90 : decode cX10_tells 90 = .ok (.bipush 8, 2) := by decide +kernel
theorem dX10_tells_92 : decode cX10_tells 92 = .ok (.iadd, 1) := by decide +kernel
theorem dX10_tells_93 : decode cX10_tells 93 = .ok (.iload 6, 2) := by decide +kernel
theorem dX10_tells_95 : decode cX10_tells 95 = .ok (.iadd, 1) := by decide +kernel
theorem dX10_tells_96 : decode cX10_tells 96 = .ok (.iaload, 1) := by decide +kernel
theorem dX10_tells_97 : decode cX10_tells 97 = .ok (.iconst (-1), 1) := by decide +kernel
theorem dX10_tells_98 : decode cX10_tells 98 = .ok (.if_icmp .eq 46, 3) := by decide +kernel
theorem dX10_tells_101 : decode cX10_tells 101 = .ok (.aload_n 0, 1) := by decide +kernel
theorem dX10_tells_102 : decode cX10_tells 102 = .ok (.iload 6, 2) := by decide +kernel
theorem dX10_tells_104 : decode cX10_tells 104 = .ok (.putfield 222, 3) := by decide +kernel
theorem dX10_tells_107 : decode cX10_tells 107 = .ok (.aload_n 0, 1) := by decide +kernel
theorem dX10_tells_108 : decode cX10_tells 108 = .ok (.aload_n 0, 1) := by decide +kernel
theorem dX10_tells_109 : decode cX10_tells 109 = .ok (.getfield 17, 3) := by decide +kernel
theorem dX10_tells_112 : decode cX10_tells 112 = .ok (.bipush 20, 2) := by decide +kernel
theorem dX10_tells_114 : decode cX10_tells 114 = .ok (.iload 4, 2) := by decide +kernel
theorem dX10_tells_116 : decode cX10_tells 116 = .ok (.imul, 1) := by decide +kernel
theorem dX10_tells_117 : decode cX10_tells 117 = .ok (.bipush 8, 2) := by decide +kernel
theorem dX10_tells_119 : decode cX10_tells 119 = .ok (.iadd, 1) := by decide +kernel
theorem dX10_tells_120 : decode cX10_tells 120 = .ok (.iload 6, 2) := by decide +kernel
theorem dX10_tells_122 : decode cX10_tells 122 = .ok (.iadd, 1) := by decide +kernel
theorem dX10_tells_123 : decode cX10_tells 123 = .ok (.iaload, 1) := by decide +kernel
theorem dX10_tells_124 : decode cX10_tells 124 = .ok (.aload_n 0, 1) := by decide +kernel
theorem dX10_tells_125 : decode cX10_tells 125 = .ok (.getfield 17, 3) := by decide +kernel
theorem dX10_tells_128 : decode cX10_tells 128 = .ok (.bipush 20, 2) := by decide +kernel
theorem dX10_tells_130 : decode cX10_tells 130 = .ok (.iload_n 3, 1) := by decide +kernel
theorem dX10_tells_131 : decode cX10_tells 131 = .ok (.imul, 1) := by decide +kernel
theorem dX10_tells_132 : decode cX10_tells 132 = .ok (.iconst 4, 1) := by decide +kernel
theorem dX10_tells_133 : decode cX10_tells 133 = .ok (.iadd, 1) := by decide +kernel
theorem dX10_tells_134 : decode cX10_tells 134 = .ok (.iload 5, 2) := by decide +kernel
theorem dX10_tells_136 : decode cX10_tells 136 = .ok (.iadd, 1) := by decide +kernel
theorem dX10_tells_137 : decode cX10_tells 137 = .ok (.iaload, 1) := by decide +kernel
theorem dX10_tells_138 : decode cX10_tells 138 = .ok (.iadd, 1) := by decide +kernel
theorem dX10_tells_139 : decode cX10_tells 139 = .ok (.putfield 219, 3) := by decide +kernel
theorem dX10_tells_142 : decode cX10_tells 142 = .ok (.iconst 1, 1) := by decide +kernel
theorem dX10_tells_143 : decode cX10_tells 143 = .ok (.ireturn, 1) := by decide +kernel
theorem dX10_tells_144 : decode cX10_tells 144 = .ok (.aload_n 0, 1) := by decide +kernel
theorem dX10_tells_145 : decode cX10_tells 145 = .ok (.iload 4, 2) := by decide +kernel
theorem dX10_tells_147 : decode cX10_tells 147 = .ok (.putfield 216, 3) := by decide +kernel
theorem dX10_tells_150 : decode cX10_tells 150 = .ok (.iload_n 3, 1) := by decide +kernel
theorem dX10_tells_151 : decode cX10_tells 151 = .ok (.istore 7, 2) := by decide +kernel
theorem dX10_tells_153 : decode cX10_tells 153 = .ok (.iload 4, 2) := by decide +kernel
theorem dX10_tells_155 : decode cX10_tells 155 = .ok (.istore_n 3, 1) := by decide +kernel
theorem dX10_tells_156 : decode cX10_tells 156 = .ok (.iload 7, 2) := by decide +kernel
theorem dX10_tells_158 : decode cX10_tells 158 = .ok (.istore 4, 2) := by decide +kernel
theorem dX10_tells_160 : decode cX10_tells 160 = .ok (.iinc 5 1, 3) := by decide +kernel
theorem dX10_tells_163 : decode cX10_tells 163 = .ok (.goto (-155), 3) := by decide +kernel
theorem dX10_tells_166 : decode cX10_tells 166 = .ok (.aload_n 0, 1) := by decide +kernel
theorem dX10_tells_167 : decode cX10_tells 167 = .ok (.iconst 3, 1) := by decide +kernel
theorem dX10_tells_168 : decode cX10_tells 168 = .ok (.aload_n 0, 1) := by decide +kernel
theorem dX10_tells_169 : decode cX10_tells 169 = .ok (.getfield 216, 3) := by decide +kernel
theorem dX10_tells_172 : decode cX10_tells 172 = .ok (.invokevirtual 228, 3) := by decide +kernel
theorem dX10_tells_175 : decode cX10_tells 175 = .ok (.ireturn, 1) := by decide +kernel
theorem dX10_told_0 : decode cX10_told 0 = .ok (.aload_n 0, 1) := by decide +kernel
theorem dX10_told_1 : decode cX10_told 1 = .ok (.iload_n 1, 1) := by decide +kernel
theorem dX10_told_2 : decode cX10_told 2 = .ok (.invokevirtual 140, 3) := by decide +kernel
theorem dX10_told_5 : decode cX10_told 5 = .ok (.ifCond .eq 11, 3) := by decide +kernel
theorem dX10_told_8 : decode cX10_told 8 = .ok (.aload_n 0, 1) := by decide +kernel
theorem dX10_told_9 : decode cX10_told 9 = .ok (.iload_n 2, 1) := by decide +kernel
theorem dX10_told_10 : decode cX10_told 10 = .ok (.invokevirtual 140, 3) := by decide +kernel
theorem dX10_told_13 : decode cX10_told 13 = .ok (.ifCond .ne 6, 3) := by decide +kernel
theorem dX10_told_16 : decode cX10_told 16 = .ok (.bipush (-2), 2) := by decide +kernel
theorem dX10_told_18 : decode cX10_told 18 = .ok (.ireturn, 1) := by decide +kernel
theorem dX10_told_19 : decode cX10_told 19 = .ok (.iload_n 3, 1) := by decide +kernel
theorem dX10_told_20 : decode cX10_told 20 = .ok (.i2l, 1) := by decide +kernel
theorem dX10_told_21 : decode cX10_told 21 = .ok (.lconst 0, 1) := by decide +kernel
theorem dX10_told_22 : decode cX10_told 22 = .ok (.ldc2_w 159, 3) := by decide +kernel
theorem dX10_told_25 : decode cX10_told 25 = .ok (.invokestatic 48, 3) := by decide +kernel
theorem dX10_told_28 : decode cX10_told 28 = .ok (.ifCond .ne 6, 3) := by decide +kernel
theorem dX10_told_31 : decode cX10_told 31 = .ok (.bipush (-3), 2) := by decide +kernel
theorem dX10_told_33 : decode cX10_told 33 = .ok (.ireturn, 1) := by decide +kernel
theorem dX10_told_34 : decode cX10_told 34 = .ok (.aload_n 0, 1) := by decide +kernel
theorem dX10_told_35 : decode cX10_told 35 = .ok (.iload_n 1, 1) := by decide +kernel
theorem dX10_told_36 : decode cX10_told 36 = .ok (.iload_n 2, 1) := by decide +kernel
theorem dX10_told_37 : decode cX10_told 37 = .ok (.invokevirtual 231, 3) := by decide +kernel
theorem dX10_told_40 : decode cX10_told 40 = .ok (.istore 4, 2) := by decide +kernel
theorem dX10_told_42 : decode cX10_told 42 = .ok (.iload 4, 2) := by decide +kernel
theorem dX10_told_44 : decode cX10_told 44 = .ok (.ifCond .ne 7, 3) := by decide +kernel
theorem dX10_told_47 : decode cX10_told 47 = .ok (.iconst (-1), 1) := by decide +kernel
theorem dX10_told_48 : decode cX10_told 48 = .ok (.goto 30, 3) := by decide +kernel
theorem dX10_told_51 : decode cX10_told 51 = .ok (.iload_n 3, 1) := by decide +kernel
theorem dX10_told_52 : decode cX10_told 52 = .ok (.ifCond .ne 10, 3) := by decide +kernel
theorem dX10_told_55 : decode cX10_told 55 = .ok (.aload_n 0, 1) := by decide +kernel
theorem dX10_told_56 : decode cX10_told 56 = .ok (.getfield 219, 3) := by decide +kernel
theorem dX10_told_59 : decode cX10_told 59 = .ok (.goto 19, 3) := by decide +kernel
theorem dX10_told_62 : decode cX10_told 62 = .ok (.iload_n 3, 1) := by decide +kernel
theorem dX10_told_63 : decode cX10_told 63 = .ok (.iconst 1, 1) := by decide +kernel
theorem dX10_told_64 : decode cX10_told 64 = .ok (.if_icmp .ne 10, 3) := by decide +kernel
theorem dX10_told_67 : decode cX10_told 67 = .ok (.aload_n 0, 1) := by decide +kernel
theorem dX10_told_68 : decode cX10_told 68 = .ok (.getfield 222, 3) := by decide +kernel
theorem dX10_told_71 : decode cX10_told 71 = .ok (.goto 7, 3) := by decide +kernel
theorem dX10_told_74 : decode cX10_told 74 = .ok (.aload_n 0, 1) := by decide +kernel
theorem dX10_told_75 : decode cX10_told 75 = .ok (.getfield 225, 3) := by decide +kernel
theorem dX10_told_78 : decode cX10_told 78 = .ok (.ireturn, 1) := by decide +kernel
theorem dX10_why_0 : decode cX10_why 0 = .ok (.aload_n 0, 1) := by decide +kernel
theorem dX10_why_1 : decode cX10_why 1 = .ok (.iload_n 1, 1) := by decide +kernel
theorem dX10_why_2 : decode cX10_why 2 = .ok (.invokevirtual 140, 3) := by decide +kernel
theorem dX10_why_5 : decode cX10_why 5 = .ok (.ifCond .eq 11, 3) := by decide +kernel
theorem dX10_why_8 : decode cX10_why 8 = .ok (.aload_n 0, 1) := by decide +kernel
theorem dX10_why_9 : decode cX10_why 9 = .ok (.iload_n 2, 1) := by decide +kernel
theorem dX10_why_10 : decode cX10_why 10 = .ok (.invokevirtual 140, 3) := by decide +kernel
theorem dX10_why_13 : decode cX10_why 13 = .ok (.ifCond .ne 6, 3) := by decide +kernel
theorem dX10_why_16 : decode cX10_why 16 = .ok (.bipush (-2), 2) := by decide +kernel
theorem dX10_why_18 : decode cX10_why 18 = .ok (.ireturn, 1) := by decide +kernel
theorem dX10_why_19 : decode cX10_why 19 = .ok (.iload_n 3, 1) := by decide +kernel
theorem dX10_why_20 : decode cX10_why 20 = .ok (.i2l, 1) := by decide +kernel
theorem dX10_why_21 : decode cX10_why 21 = .ok (.lconst 0, 1) := by decide +kernel
theorem dX10_why_22 : decode cX10_why 22 = .ok (.ldc2_w 159, 3) := by decide +kernel
theorem dX10_why_25 : decode cX10_why 25 = .ok (.invokestatic 48, 3) := by decide +kernel
theorem dX10_why_28 : decode cX10_why 28 = .ok (.ifCond .ne 6, 3) := by decide +kernel
theorem dX10_why_31 : decode cX10_why 31 = .ok (.bipush (-3), 2) := by decide +kernel
theorem dX10_why_33 : decode cX10_why 33 = .ok (.ireturn, 1) := by decide +kernel
theorem dX10_why_34 : decode cX10_why 34 = .ok (.aload_n 0, 1) := by decide +kernel
theorem dX10_why_35 : decode cX10_why 35 = .ok (.iload_n 1, 1) := by decide +kernel
theorem dX10_why_36 : decode cX10_why 36 = .ok (.iload_n 2, 1) := by decide +kernel
theorem dX10_why_37 : decode cX10_why 37 = .ok (.invokevirtual 231, 3) := by decide +kernel
theorem dX10_why_40 : decode cX10_why 40 = .ok (.istore 4, 2) := by decide +kernel
theorem dX10_why_42 : decode cX10_why 42 = .ok (.iload 4, 2) := by decide +kernel
theorem dX10_why_44 : decode cX10_why 44 = .ok (.ifCond .eq 7, 3) := by decide +kernel
theorem dX10_why_47 : decode cX10_why 47 = .ok (.iconst (-1), 1) := by decide +kernel
theorem dX10_why_48 : decode cX10_why 48 = .ok (.goto 30, 3) := by decide +kernel
theorem dX10_why_51 : decode cX10_why 51 = .ok (.iload_n 3, 1) := by decide +kernel
theorem dX10_why_52 : decode cX10_why 52 = .ok (.ifCond .ne 10, 3) := by decide +kernel
theorem dX10_why_55 : decode cX10_why 55 = .ok (.aload_n 0, 1) := by decide +kernel
theorem dX10_why_56 : decode cX10_why 56 = .ok (.getfield 213, 3) := by decide +kernel
theorem dX10_why_59 : decode cX10_why 59 = .ok (.goto 19, 3) := by decide +kernel
theorem dX10_why_62 : decode cX10_why 62 = .ok (.iload_n 3, 1) := by decide +kernel
theorem dX10_why_63 : decode cX10_why 63 = .ok (.iconst 1, 1) := by decide +kernel
theorem dX10_why_64 : decode cX10_why 64 = .ok (.if_icmp .ne 10, 3) := by decide +kernel
theorem dX10_why_67 : decode cX10_why 67 = .ok (.aload_n 0, 1) := by decide +kernel
theorem dX10_why_68 : decode cX10_why 68 = .ok (.getfield 225, 3) := by decide +kernel
theorem dX10_why_71 : decode cX10_why 71 = .ok (.goto 7, 3) := by decide +kernel
theorem dX10_why_74 : decode cX10_why 74 = .ok (.aload_n 0, 1) := by decide +kernel
theorem dX10_why_75 : decode cX10_why 75 = .ok (.getfield 216, 3) := by decide +kernel
theorem dX10_why_78 : decode cX10_why 78 = .ok (.ireturn, 1) := by decide +kernel
theorem dX10_route_0 : decode cX10_route 0 = .ok (.aload_n 0, 1) := by decide +kernel
theorem dX10_route_1 : decode cX10_route 1 = .ok (.iload_n 1, 1) := by decide +kernel
theorem dX10_route_2 : decode cX10_route 2 = .ok (.invokevirtual 140, 3) := by decide +kernel
theorem dX10_route_5 : decode cX10_route 5 = .ok (.ifCond .eq 11, 3) := by decide +kernel
theorem dX10_route_8 : decode cX10_route 8 = .ok (.aload_n 0, 1) := by decide +kernel
theorem dX10_route_9 : decode cX10_route 9 = .ok (.iload_n 2, 1) := by decide +kernel
theorem dX10_route_10 : decode cX10_route 10 = .ok (.invokevirtual 140, 3) := by decide +kernel
theorem dX10_route_13 : decode cX10_route 13 = .ok (.ifCond .ne 6, 3) := by decide +kernel
theorem dX10_route_16 : decode cX10_route 16 = .ok (.bipush (-2), 2) := by decide +kernel
theorem dX10_route_18 : decode cX10_route 18 = .ok (.ireturn, 1) := by decide +kernel
theorem dX10_route_19 : decode cX10_route 19 = .ok (.aload_n 0, 1) := by decide +kernel
theorem dX10_route_20 : decode cX10_route 20 = .ok (.iconst 0, 1) := by decide +kernel
theorem dX10_route_21 : decode cX10_route 21 = .ok (.invokevirtual 144, 3) := by decide +kernel
theorem dX10_route_24 : decode cX10_route 24 = .ok (.aload_n 0, 1) := by decide +kernel
theorem dX10_route_25 : decode cX10_route 25 = .ok (.iload_n 1, 1) := by decide +kernel
theorem dX10_route_26 : decode cX10_route 26 = .ok (.iload_n 2, 1) := by decide +kernel
theorem dX10_route_27 : decode cX10_route 27 = .ok (.invokevirtual 231, 3) := by decide +kernel
theorem dX10_route_30 : decode cX10_route 30 = .ok (.ifCond .eq 27, 3) := by decide +kernel
theorem dX10_route_33 : decode cX10_route 33 = .ok (.aload_n 0, 1) := by decide +kernel
theorem dX10_route_34 : decode cX10_route 34 = .ok (.iload_n 1, 1) := by decide +kernel
theorem dX10_route_35 : decode cX10_route 35 = .ok (.aload_n 0, 1) := by decide +kernel
theorem dX10_route_36 : decode cX10_route 36 = .ok (.getfield 222, 3) := by decide +kernel
theorem dX10_route_39 : decode cX10_route 39 = .ok (.invokevirtual 148, 3) := by decide +kernel
theorem dX10_route_42 : decode cX10_route 42 = .ok (.ifCond .eq 15, 3) := by decide +kernel
theorem dX10_route_45 : decode cX10_route 45 = .ok (.aload_n 0, 1) := by decide +kernel
theorem dX10_route_46 : decode cX10_route 46 = .ok (.aload_n 0, 1) := by decide +kernel
theorem dX10_route_47 : decode cX10_route 47 = .ok (.getfield 222, 3) := by decide +kernel
theorem dX10_route_50 : decode cX10_route 50 = .ok (.iload_n 2, 1) := by decide +kernel
theorem dX10_route_51 : decode cX10_route 51 = .ok (.invokevirtual 148, 3) := by decide +kernel
theorem dX10_route_54 : decode cX10_route 54 = .ok (.ifCond .ne 6, 3) := by decide +kernel
theorem dX10_route_57 : decode cX10_route 57 = .ok (.bipush (-4), 2) := by decide +kernel
theorem dX10_route_59 : decode cX10_route 59 = .ok (.ireturn, 1) := by decide +kernel
theorem dX10_route_60 : decode cX10_route 60 = .ok (.iload_n 3, 1) := by decide +kernel
theorem dX10_route_61 : decode cX10_route 61 = .ok (.ifCond .ge 5, 3) := by decide +kernel
theorem dX10_route_64 : decode cX10_route 64 = .ok (.iconst (-1), 1) := by decide +kernel
theorem dX10_route_65 : decode cX10_route 65 = .ok (.ireturn, 1) := by decide +kernel
theorem dX10_route_66 : decode cX10_route 66 = .ok (.iload_n 1, 1) := by decide +kernel
theorem dX10_route_67 : decode cX10_route 67 = .ok (.istore 4, 2) := by decide +kernel
theorem dX10_route_69 : decode cX10_route 69 = .ok (.iload 4, 2) := by decide +kernel
theorem dX10_route_71 : decode cX10_route 71 = .ok (.aload_n 0, 1) := by decide +kernel
theorem dX10_route_72 : decode cX10_route 72 = .ok (.getfield 222, 3) := by decide +kernel
theorem dX10_route_75 : decode cX10_route 75 = .ok (.if_icmp .ne 7, 3) := by decide +kernel
theorem dX10_route_78 : decode cX10_route 78 = .ok (.iconst 1, 1) := by decide +kernel
theorem dX10_route_79 : decode cX10_route 79 = .ok (.goto 4, 3) := by decide +kernel
theorem dX10_route_82 : decode cX10_route 82 = .ok (.iconst 0, 1) := by decide +kernel
theorem dX10_route_83 : decode cX10_route 83 = .ok (.istore 5, 2) := by decide +kernel
theorem dX10_route_85 : decode cX10_route 85 = .ok (.iconst 0, 1) := by decide +kernel
theorem dX10_route_86 : decode cX10_route 86 = .ok (.istore 6, 2) := by decide +kernel
theorem dX10_route_88 : decode cX10_route 88 = .ok (.iload 6, 2) := by decide +kernel
theorem dX10_route_90 : decode cX10_route 90 = .ok (.iload_n 3, 1) := by decide +kernel
theorem dX10_route_91 : decode cX10_route 91 = .ok (.if_icmp .ge 64, 3) := by decide +kernel
theorem dX10_route_94 : decode cX10_route 94 = .ok (.iload 5, 2) := by decide +kernel
theorem dX10_route_96 : decode cX10_route 96 = .ok (.ifCond .eq 11, 3) := by decide +kernel
theorem dX10_route_99 : decode cX10_route 99 = .ok (.iload 4, 2) := by decide +kernel
theorem dX10_route_101 : decode cX10_route 101 = .ok (.iload_n 2, 1) := by decide +kernel
theorem dX10_route_102 : decode cX10_route 102 = .ok (.if_icmp .ne 5, 3) := by decide +kernel
theorem dX10_route_105 : decode cX10_route 105 = .ok (.iconst (-1), 1) := by decide +kernel
theorem dX10_route_106 : decode cX10_route 106 = .ok (.ireturn, 1) := by decide +kernel
theorem dX10_route_107 : decode cX10_route 107 = .ok (.aload_n 0, 1) := by decide +kernel
theorem dX10_route_108 : decode cX10_route 108 = .ok (.iload 4, 2) := by decide +kernel
theorem dX10_route_110 : decode cX10_route 110 = .ok (.iload 5, 2) := by decide +kernel
theorem dX10_route_112 : decode cX10_route 112 = .ok (.ifCond .eq 7, 3) := by decide +kernel
theorem dX10_route_115 : decode cX10_route 115 = .ok (.iload_n 2, 1) := by decide +kernel
theorem dX10_route_116 : decode cX10_route 116 = .ok (.goto 7, 3) := by decide +kernel
theorem dX10_route_119 : decode cX10_route 119 = .ok (.aload_n 0, 1) := by decide +kernel
theorem dX10_route_120 : decode cX10_route 120 = .ok (.getfield 222, 3) := by decide +kernel
theorem dX10_route_123 : decode cX10_route 123 = .ok (.invokevirtual 166, 3) := by decide +kernel
theorem dX10_route_126 : decode cX10_route 126 = .ok (.istore 4, 2) := by decide +kernel
theorem dX10_route_128 : decode cX10_route 128 = .ok (.iload 5, 2) := by decide +kernel
theorem dX10_route_130 : decode cX10_route 130 = .ok (.ifCond .ne 12, 3) := by decide +kernel
theorem dX10_route_133 : decode cX10_route 133 = .ok (.iload 4, 2) := by decide +kernel
theorem dX10_route_135 : decode cX10_route 135 = .ok (.aload_n 0, 1) := by decide +kernel
theorem dX10_route_136 : decode cX10_route 136 = .ok (.getfield 222, 3) := by decide +kernel
theorem dX10_route_139 : decode cX10_route 139 = .ok (.if_icmp .ne 7, 3) := by decide +kernel
theorem dX10_route_142 : decode cX10_route 142 = .ok (.iconst 1, 1) := by decide +kernel
theorem dX10_route_143 : decode cX10_route 143 = .ok (.goto 4, 3) := by decide +kernel
theorem dX10_route_146 : decode cX10_route 146 = .ok (.iconst 0, 1) := by decide +kernel
theorem dX10_route_147 : decode cX10_route 147 = .ok (.istore 5, 2) := by decide +kernel
theorem dX10_route_149 : decode cX10_route 149 = .ok (.iinc 6 1, 3) := by decide +kernel
theorem dX10_route_152 : decode cX10_route 152 = .ok (.goto (-64), 3) := by decide +kernel
theorem dX10_route_155 : decode cX10_route 155 = .ok (.iload 4, 2) := by decide +kernel
theorem dX10_route_157 : decode cX10_route 157 = .ok (.ireturn, 1) := by decide +kernel
theorem dX10_pairs_0 : decode cX10_pairs 0 = .ok (.iload_n 1, 1) := by decide +kernel
theorem dX10_pairs_1 : decode cX10_pairs 1 = .ok (.i2l, 1) := by decide +kernel
theorem dX10_pairs_2 : decode cX10_pairs 2 = .ok (.lconst 0, 1) := by decide +kernel
theorem dX10_pairs_3 : decode cX10_pairs 3 = .ok (.ldc2_w 234, 3) := by decide +kernel
theorem dX10_pairs_6 : decode cX10_pairs 6 = .ok (.invokestatic 48, 3) := by decide +kernel
theorem dX10_pairs_9 : decode cX10_pairs 9 = .ok (.ifCond .ne 6, 3) := by decide +kernel
theorem dX10_pairs_12 : decode cX10_pairs 12 = .ok (.bipush (-3), 2) := by decide +kernel
theorem dX10_pairs_14 : decode cX10_pairs 14 = .ok (.ireturn, 1) := by decide +kernel
theorem dX10_pairs_15 : decode cX10_pairs 15 = .ok (.aload_n 0, 1) := by decide +kernel
theorem dX10_pairs_16 : decode cX10_pairs 16 = .ok (.iconst 0, 1) := by decide +kernel
theorem dX10_pairs_17 : decode cX10_pairs 17 = .ok (.invokevirtual 144, 3) := by decide +kernel
theorem dX10_pairs_20 : decode cX10_pairs 20 = .ok (.iconst (-1), 1) := by decide +kernel
theorem dX10_pairs_21 : decode cX10_pairs 21 = .ok (.istore_n 2, 1) := by decide +kernel
theorem dX10_pairs_22 : decode cX10_pairs 22 = .ok (.iconst (-1), 1) := by decide +kernel
theorem dX10_pairs_23 : decode cX10_pairs 23 = .ok (.istore_n 3, 1) := by decide +kernel
theorem dX10_pairs_24 : decode cX10_pairs 24 = .ok (.iconst (-1), 1) := by decide +kernel
theorem dX10_pairs_25 : decode cX10_pairs 25 = .ok (.istore 4, 2) := by decide +kernel
theorem dX10_pairs_27 : decode cX10_pairs 27 = .ok (.iconst 1, 1) := by decide +kernel
theorem dX10_pairs_28 : decode cX10_pairs 28 = .ok (.istore 5, 2) := by decide +kernel
theorem dX10_pairs_30 : decode cX10_pairs 30 = .ok (.iconst 0, 1) := by decide +kernel
theorem dX10_pairs_31 : decode cX10_pairs 31 = .ok (.istore 6, 2) := by decide +kernel
theorem dX10_pairs_33 : decode cX10_pairs 33 = .ok (.iconst 0, 1) := by decide +kernel
theorem dX10_pairs_34 : decode cX10_pairs 34 = .ok (.istore 7, 2) := by decide +kernel
theorem dX10_pairs_36 : decode cX10_pairs 36 = .ok (.iconst 0, 1) := by decide +kernel
theorem dX10_pairs_37 : decode cX10_pairs 37 = .ok (.istore 8, 2) := by decide +kernel
theorem dX10_pairs_39 : decode cX10_pairs 39 = .ok (.iload 8, 2) := by decide +kernel
theorem dX10_pairs_41 : decode cX10_pairs 41 = .ok (.aload_n 0, 1) := by decide +kernel
theorem dX10_pairs_42 : decode cX10_pairs 42 = .ok (.getfield 13, 3) := by decide +kernel
theorem dX10_pairs_45 : decode cX10_pairs 45 = .ok (.if_icmp .ge 118, 3) := by decide +kernel
theorem dX10_pairs_48 : decode cX10_pairs 48 = .ok (.iload 8, 2) := by decide +kernel
theorem dX10_pairs_50 : decode cX10_pairs 50 = .ok (.iconst 1, 1) := by decide +kernel
theorem dX10_pairs_51 : decode cX10_pairs 51 = .ok (.iadd, 1) := by decide +kernel
theorem dX10_pairs_52 : decode cX10_pairs 52 = .ok (.istore 9, 2) := by decide +kernel
theorem dX10_pairs_54 : decode cX10_pairs 54 = .ok (.iload 9, 2) := by decide +kernel
theorem dX10_pairs_56 : decode cX10_pairs 56 = .ok (.aload_n 0, 1) := by decide +kernel
theorem dX10_pairs_57 : decode cX10_pairs 57 = .ok (.getfield 13, 3) := by decide +kernel
theorem dX10_pairs_60 : decode cX10_pairs 60 = .ok (.if_icmp .ge 97, 3) := by decide +kernel
theorem dX10_pairs_63 : decode cX10_pairs 63 = .ok (.aload_n 0, 1) := by decide +kernel
theorem dX10_pairs_64 : decode cX10_pairs 64 = .ok (.getfield 36, 3) := by decide +kernel
theorem dX10_pairs_67 : decode cX10_pairs 67 = .ok (.bipush 12, 2) := by decide +kernel
theorem dX10_pairs_69 : decode cX10_pairs 69 = .ok (.iload 8, 2) := by decide +kernel
theorem dX10_pairs_71 : decode cX10_pairs 71 = .ok (.imul, 1) := by decide +kernel
theorem dX10_pairs_72 : decode cX10_pairs 72 = .ok (.iload 9, 2) := by decide +kernel
theorem dX10_pairs_74 : decode cX10_pairs 74 = .ok (.iadd, 1) := by decide +kernel
theorem dX10_pairs_75 : decode cX10_pairs 75 = .ok (.iaload, 1) := by decide +kernel
theorem dX10_pairs_76 : decode cX10_pairs 76 = .ok (.istore 10, 2) := by decide +kernel
theorem dX10_pairs_78 : decode cX10_pairs 78 = .ok (.aload_n 0, 1) := by decide +kernel
theorem dX10_pairs_79 : decode cX10_pairs 79 = .ok (.iload 8, 2) := by decide +kernel
theorem dX10_pairs_81 : decode cX10_pairs 81 = .ok (.iload 9, 2) := by decide +kernel
theorem dX10_pairs_83 : decode cX10_pairs 83 = .ok (.invokevirtual 148, 3) := by decide +kernel
theorem dX10_pairs_86 : decode cX10_pairs 86 = .ok (.ifCond .eq 51, 3) := by decide +kernel
theorem dX10_pairs_89 : decode cX10_pairs 89 = .ok (.aload_n 0, 1) := by decide +kernel
theorem dX10_pairs_90 : decode cX10_pairs 90 = .ok (.iload 8, 2) := by decide +kernel
theorem dX10_pairs_92 : decode cX10_pairs 92 = .ok (.iload 9, 2) := by decide +kernel
theorem dX10_pairs_94 : decode cX10_pairs 94 = .ok (.invokevirtual 231, 3) := by decide +kernel
theorem dX10_pairs_97 : decode cX10_pairs 97 = .ok (.ifCond .eq 40, 3) := by decide +kernel
theorem dX10_pairs_100 : decode cX10_pairs 100 = .ok (.iinc 6 1, 3) := by decide +kernel
theorem dX10_pairs_103 : decode cX10_pairs 103 = .ok (.aload_n 0, 1) := by decide +kernel
theorem dX10_pairs_104 : decode cX10_pairs 104 = .ok (.getfield 219, 3) := by decide +kernel
theorem dX10_pairs_107 : decode cX10_pairs 107 = .ok (.iload 5, 2) := by decide +kernel
theorem dX10_pairs_109 : decode cX10_pairs 109 = .ok (.imul, 1) := by decide +kernel
theorem dX10_pairs_110 : decode cX10_pairs 110 = .ok (.iload 4, 2) := by decide +kernel
theorem dX10_pairs_112 : decode cX10_pairs 112 = .ok (.iload 10, 2) := by decide +kernel
theorem dX10_pairs_114 : decode cX10_pairs 114 = .ok (.imul, 1) := by decide +kernel
theorem dX10_pairs_115 : decode cX10_pairs 115 = .ok (.if_icmp .le 36, 3) := by decide +kernel
theorem dX10_pairs_118 : decode cX10_pairs 118 = .ok (.aload_n 0, 1) := by decide +kernel
theorem dX10_pairs_119 : decode cX10_pairs 119 = .ok (.getfield 219, 3) := by decide +kernel
theorem dX10_pairs_122 : decode cX10_pairs 122 = .ok (.istore 4, 2) := by decide +kernel
theorem dX10_pairs_124 : decode cX10_pairs 124 = .ok (.iload 10, 2) := by decide +kernel
theorem dX10_pairs_126 : decode cX10_pairs 126 = .ok (.istore 5, 2) := by decide +kernel
theorem dX10_pairs_128 : decode cX10_pairs 128 = .ok (.iload 8, 2) := by decide +kernel
theorem dX10_pairs_130 : decode cX10_pairs 130 = .ok (.istore_n 2, 1) := by decide +kernel
theorem dX10_pairs_131 : decode cX10_pairs 131 = .ok (.iload 9, 2) := by decide +kernel
theorem dX10_pairs_133 : decode cX10_pairs 133 = .ok (.istore_n 3, 1) := by decide +kernel
theorem dX10_pairs_134 : decode cX10_pairs 134 = .ok (.goto 17, 3) := by decide +kernel
theorem dX10_pairs_137 : decode cX10_pairs 137 = .ok (.aload_n 0, 1) := by decide +kernel
theorem dX10_pairs_138 : decode cX10_pairs 138 = .ok (.iload 8, 2) := by decide +kernel
theorem dX10_pairs_140 : decode cX10_pairs 140 = .ok (.iload 9, 2) := by decide +kernel
theorem dX10_pairs_142 : decode cX10_pairs 142 = .ok (.invokevirtual 148, 3) := by decide +kernel
theorem dX10_pairs_145 : decode cX10_pairs 145 = .ok (.ifCond .eq 6, 3) := by decide +kernel
theorem dX10_pairs_148 : decode cX10_pairs 148 = .ok (.iinc 7 1, 3) := by decide +kernel
theorem dX10_pairs_151 : decode cX10_pairs 151 = .ok (.iinc 9 1, 3) := by decide +kernel
theorem dX10_pairs_154 : decode cX10_pairs 154 = .ok (.goto (-100), 3) := by decide +kernel
theorem dX10_pairs_157 : decode cX10_pairs 157 = .ok (.iinc 8 1, 3) := by decide +kernel
theorem dX10_pairs_160 : decode cX10_pairs 160 = .ok (.goto (-121), 3) := by decide +kernel
theorem dX10_pairs_163 : decode cX10_pairs 163 = .ok (.iload_n 1, 1) := by decide +kernel
theorem dX10_pairs_164 : decode cX10_pairs 164 = .ok (.ifCond .ne 7, 3) := by decide +kernel
theorem dX10_pairs_167 : decode cX10_pairs 167 = .ok (.iload_n 2, 1) := by decide +kernel
theorem dX10_pairs_168 : decode cX10_pairs 168 = .ok (.goto 24, 3) := by decide +kernel
theorem dX10_pairs_171 : decode cX10_pairs 171 = .ok (.iload_n 1, 1) := by decide +kernel
theorem dX10_pairs_172 : decode cX10_pairs 172 = .ok (.iconst 1, 1) := by decide +kernel
theorem dX10_pairs_173 : decode cX10_pairs 173 = .ok (.if_icmp .ne 7, 3) := by decide +kernel
theorem dX10_pairs_176 : decode cX10_pairs 176 = .ok (.iload_n 3, 1) := by decide +kernel
theorem dX10_pairs_177 : decode cX10_pairs 177 = .ok (.goto 15, 3) := by decide +kernel
theorem dX10_pairs_180 : decode cX10_pairs 180 = .ok (.iload_n 1, 1) := by decide +kernel
theorem dX10_pairs_181 : decode cX10_pairs 181 = .ok (.iconst 2, 1) := by decide +kernel
theorem dX10_pairs_182 : decode cX10_pairs 182 = .ok (.if_icmp .ne 8, 3) := by decide +kernel
theorem dX10_pairs_185 : decode cX10_pairs 185 = .ok (.iload 6, 2) := by decide +kernel
theorem dX10_pairs_187 : decode cX10_pairs 187 = .ok (.goto 5, 3) := by decide +kernel
theorem dX10_pairs_190 : decode cX10_pairs 190 = .ok (.iload 7, 2) := by decide +kernel
theorem dX10_pairs_192 : decode cX10_pairs 192 = .ok (.ireturn, 1) := by decide +kernel
theorem dX10_parts_0 : decode cX10_parts 0 = .ok (.aload_n 0, 1) := by decide +kernel
theorem dX10_parts_1 : decode cX10_parts 1 = .ok (.iconst 0, 1) := by decide +kernel
theorem dX10_parts_2 : decode cX10_parts 2 = .ok (.invokevirtual 144, 3) := by decide +kernel
theorem dX10_parts_5 : decode cX10_parts 5 = .ok (.iconst 0, 1) := by decide +kernel
theorem dX10_parts_6 : decode cX10_parts 6 = .ok (.istore_n 1, 1) := by decide +kernel
theorem dX10_parts_7 : decode cX10_parts 7 = .ok (.iconst 0, 1) := by decide +kernel
theorem dX10_parts_8 : decode cX10_parts 8 = .ok (.istore_n 2, 1) := by decide +kernel
theorem dX10_parts_9 : decode cX10_parts 9 = .ok (.iload_n 2, 1) := by decide +kernel
theorem dX10_parts_10 : decode cX10_parts 10 = .ok (.aload_n 0, 1) := by decide +kernel
theorem dX10_parts_11 : decode cX10_parts 11 = .ok (.getfield 13, 3) := by decide +kernel
theorem dX10_parts_14 : decode cX10_parts 14 = .ok (.if_icmp .ge 58, 3) := by decide +kernel
theorem dX10_parts_17 : decode cX10_parts 17 = .ok (.iconst 1, 1) := by decide +kernel
theorem dX10_parts_18 : decode cX10_parts 18 = .ok (.istore_n 3, 1) := by decide +kernel
theorem dX10_parts_19 : decode cX10_parts 19 = .ok (.iconst 0, 1) := by decide +kernel
theorem dX10_parts_20 : decode cX10_parts 20 = .ok (.istore 4, 2) := by decide +kernel
theorem dX10_parts_22 : decode cX10_parts 22 = .ok (.iload 4, 2) := by decide +kernel
theorem dX10_parts_24 : decode cX10_parts 24 = .ok (.iload_n 2, 1) := by decide +kernel
theorem dX10_parts_25 : decode cX10_parts 25 = .ok (.if_icmp .ge 29, 3) := by decide +kernel
theorem dX10_parts_28 : decode cX10_parts 28 = .ok (.iload_n 3, 1) := by decide +kernel
theorem dX10_parts_29 : decode cX10_parts 29 = .ok (.ifCond .eq 17, 3) := by decide +kernel
theorem dX10_parts_32 : decode cX10_parts 32 = .ok (.aload_n 0, 1) := by decide +kernel
theorem dX10_parts_33 : decode cX10_parts 33 = .ok (.iload_n 2, 1) := by decide +kernel
theorem dX10_parts_34 : decode cX10_parts 34 = .ok (.iload 4, 2) := by decide +kernel
theorem dX10_parts_36 : decode cX10_parts 36 = .ok (.invokevirtual 148, 3) := by decide +kernel
theorem dX10_parts_39 : decode cX10_parts 39 = .ok (.ifCond .ne 7, 3) := by decide +kernel
theorem dX10_parts_42 : decode cX10_parts 42 = .ok (.iconst 1, 1) := by decide +kernel
theorem dX10_parts_43 : decode cX10_parts 43 = .ok (.goto 4, 3) := by decide +kernel
theorem dX10_parts_46 : decode cX10_parts 46 = .ok (.iconst 0, 1) := by decide +kernel
theorem dX10_parts_47 : decode cX10_parts 47 = .ok (.istore_n 3, 1) := by decide +kernel
theorem dX10_parts_48 : decode cX10_parts 48 = .ok (.iinc 4 1, 3) := by decide +kernel
theorem dX10_parts_51 : decode cX10_parts 51 = .ok (.goto (-29), 3) := by decide +kernel
theorem dX10_parts_54 : decode cX10_parts 54 = .ok (.iload_n 1, 1) := by decide +kernel
theorem dX10_parts_55 : decode cX10_parts 55 = .ok (.iload_n 3, 1) := by decide +kernel
theorem dX10_parts_56 : decode cX10_parts 56 = .ok (.ifCond .eq 7, 3) := by decide +kernel
theorem dX10_parts_59 : decode cX10_parts 59 = .ok (.iconst 1, 1) := by decide +kernel
theorem dX10_parts_60 : decode cX10_parts 60 = .ok (.goto 4, 3) := by decide +kernel
theorem dX10_parts_63 : decode cX10_parts 63 = .ok (.iconst 0, 1) := by decide +kernel
theorem dX10_parts_64 : decode cX10_parts 64 = .ok (.iadd, 1) := by decide +kernel
theorem dX10_parts_65 : decode cX10_parts 65 = .ok (.istore_n 1, 1) := by decide +kernel
theorem dX10_parts_66 : decode cX10_parts 66 = .ok (.iinc 2 1, 3) := by decide +kernel
theorem dX10_parts_69 : decode cX10_parts 69 = .ok (.goto (-60), 3) := by decide +kernel
theorem dX10_parts_72 : decode cX10_parts 72 = .ok (.iload_n 1, 1) := by decide +kernel
theorem dX10_parts_73 : decode cX10_parts 73 = .ok (.ireturn, 1) := by decide +kernel
theorem dX10_freshNotes_0 : decode cX10_freshNotes 0 = .ok (.aload_n 0, 1) := by decide +kernel
theorem dX10_freshNotes_1 : decode cX10_freshNotes 1 = .ok (.iconst 0, 1) := by decide +kernel
theorem dX10_freshNotes_2 : decode cX10_freshNotes 2 = .ok (.invokevirtual 144, 3) := by decide +kernel
theorem dX10_freshNotes_5 : decode cX10_freshNotes 5 = .ok (.iconst 0, 1) := by decide +kernel
theorem dX10_freshNotes_6 : decode cX10_freshNotes 6 = .ok (.istore_n 1, 1) := by decide +kernel
theorem dX10_freshNotes_7 : decode cX10_freshNotes 7 = .ok (.iconst 0, 1) := by decide +kernel
theorem dX10_freshNotes_8 : decode cX10_freshNotes 8 = .ok (.istore_n 2, 1) := by decide +kernel
theorem dX10_freshNotes_9 : decode cX10_freshNotes 9 = .ok (.iload_n 2, 1) := by decide +kernel
theorem dX10_freshNotes_10 : decode cX10_freshNotes 10 = .ok (.aload_n 0, 1) := by decide +kernel
theorem dX10_freshNotes_11 : decode cX10_freshNotes 11 = .ok (.getfield 13, 3) := by decide +kernel
theorem dX10_freshNotes_14 : decode cX10_freshNotes 14 = .ok (.if_icmp .ge 25, 3) := by decide +kernel
theorem dX10_freshNotes_17 : decode cX10_freshNotes 17 = .ok (.iload_n 1, 1) := by decide +kernel
theorem dX10_freshNotes_18 : decode cX10_freshNotes 18 = .ok (.aload_n 0, 1) := by decide +kernel
theorem dX10_freshNotes_19 : decode cX10_freshNotes 19 = .ok (.iload_n 2, 1) := by decide +kernel
theorem dX10_freshNotes_20 : decode cX10_freshNotes 20 = .ok (.invokevirtual 208, 3) := by decide +kernel
