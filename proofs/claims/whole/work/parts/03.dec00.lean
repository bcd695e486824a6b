theorem dX0_init_0 : decode cX0_init 0 = .ok (.aload_n 0, 1) := by decide +kernel
theorem dX0_init_1 : decode cX0_init 1 = .ok (.invokespecial 3, 3) := by decide +kernel
theorem dX0_init_4 : decode cX0_init 4 = .ok (.aload_n 0, 1) := by decide +kernel
theorem dX0_init_5 : decode cX0_init 5 = .ok (.bipush 12, 2) := by decide +kernel
theorem dX0_init_7 : decode cX0_init 7 = .ok (.bipush 12, 2) := by decide +kernel
theorem dX0_init_9 : decode cX0_init 9 = .ok (.multianewarray 9 2, 4) := by decide +kernel
theorem dX0_init_13 : decode cX0_init 13 = .ok (.putfield 11, 3) := by decide +kernel
theorem dX0_init_16 : decode cX0_init 16 = .ok (.return_, 1) := by decide +kernel
theorem dX0_follow_0 : decode cX0_follow 0 = .ok (.aload_n 0, 1) := by decide +kernel
theorem dX0_follow_1 : decode cX0_follow 1 = .ok (.getfield 16, 3) := by decide +kernel
theorem dX0_follow_4 : decode cX0_follow 4 = .ok (.aload_n 1, 1) := by decide +kernel
theorem dX0_follow_5 : decode cX0_follow 5 = .ok (.getfield 20, 3) := by decide +kernel
theorem dX0_follow_8 : decode cX0_follow 8 = .ok (.if_icmp .ne 4, 3) := by decide +kernel
theorem dX0_follow_11 : decode cX0_follow 11 = .ok (.return_, 1) := by decide +kernel
theorem dX0_follow_12 : decode cX0_follow 12 = .ok (.aload_n 0, 1) := by decide +kernel
theorem dX0_follow_13 : decode cX0_follow 13 = .ok (.aload_n 1, 1) := by decide +kernel
theorem dX0_follow_14 : decode cX0_follow 14 = .ok (.getfield 25, 3) := by decide +kernel
theorem dX0_follow_17 : decode cX0_follow 17 = .ok (.invokevirtual 28, 3) := by decide +kernel
theorem dX0_follow_20 : decode cX0_follow 20 = .ok (.iconst 0, 1) := by decide +kernel
theorem dX0_follow_21 : decode cX0_follow 21 = .ok (.istore_n 2, 1) := by decide +kernel
theorem dX0_follow_22 : decode cX0_follow 22 = .ok (.iload_n 2, 1) := by decide +kernel
theorem dX0_follow_23 : decode cX0_follow 23 = .ok (.aload_n 0, 1) := by decide +kernel
theorem dX0_follow_24 : decode cX0_follow 24 = .ok (.getfield 32, 3) := by decide +kernel
theorem dX0_follow_27 : decode cX0_follow 27 = .ok (.if_icmp .ge 48, 3) := by decide +kernel
theorem dX0_follow_30 : decode cX0_follow 30 = .ok (.iload_n 2, 1) := by decide +kernel
theorem dX0_follow_31 : decode cX0_follow 31 = .ok (.iconst 1, 1) := by decide +kernel
theorem dX0_follow_32 : decode cX0_follow 32 = .ok (.iadd, 1) := by decide +kernel
theorem dX0_follow_33 : decode cX0_follow 33 = .ok (.istore_n 3, 1) := by decide +kernel
theorem dX0_follow_34 : decode cX0_follow 34 = .ok (.iload_n 3, 1) := by decide +kernel
theorem dX0_follow_35 : decode cX0_follow 35 = .ok (.aload_n 0, 1) := by decide +kernel
theorem dX0_follow_36 : decode cX0_follow 36 = .ok (.getfield 32, 3) := by decide +kernel
theorem dX0_follow_39 : decode cX0_follow 39 = .ok (.if_icmp .ge 30, 3) := by decide +kernel
theorem dX0_follow_42 : decode cX0_follow 42 = .ok (.aload_n 1, 1) := by decide +kernel
theorem dX0_follow_43 : decode cX0_follow 43 = .ok (.iload_n 2, 1) := by decide +kernel
theorem dX0_follow_44 : decode cX0_follow 44 = .ok (.iload_n 3, 1) := by decide +kernel
theorem dX0_follow_45 : decode cX0_follow 45 = .ok (.invokevirtual 33, 3) := by decide +kernel
theorem dX0_follow_48 : decode cX0_follow 48 = .ok (.istore 4, 2) := by decide +kernel
theorem dX0_follow_50 : decode cX0_follow 50 = .ok (.iload 4, 2) := by decide +kernel
theorem dX0_follow_52 : decode cX0_follow 52 = .ok (.ifCond .le 11, 3) := by decide +kernel
theorem dX0_follow_55 : decode cX0_follow 55 = .ok (.aload_n 0, 1) := by decide +kernel
theorem dX0_follow_56 : decode cX0_follow 56 = .ok (.iload_n 2, 1) := by decide +kernel
theorem dX0_follow_57 : decode cX0_follow 57 = .ok (.iload_n 3, 1) := by decide +kernel
theorem dX0_follow_58 : decode cX0_follow 58 = .ok (.iload 4, 2) := by decide +kernel
theorem dX0_follow_60 : decode cX0_follow 60 = .ok (.invokevirtual 37, 3) := by decide +kernel
theorem dX0_follow_63 : decode cX0_follow 63 = .ok (.iinc 3 1, 3) := by decide +kernel
theorem dX0_follow_66 : decode cX0_follow 66 = .ok (.goto (-32), 3) := by decide +kernel
theorem dX0_follow_69 : decode cX0_follow 69 = .ok (.iinc 2 1, 3) := by decide +kernel
theorem dX0_follow_72 : decode cX0_follow 72 = .ok (.goto (-50), 3) := by decide +kernel
theorem dX0_follow_75 : decode cX0_follow 75 = .ok (.aload_n 0, 1) := by decide +kernel
theorem dX0_follow_76 : decode cX0_follow 76 = .ok (.aload_n 1, 1) := by decide +kernel
theorem dX0_follow_77 : decode cX0_follow 77 = .ok (.getfield 20, 3) := by decide +kernel
theorem dX0_follow_80 : decode cX0_follow 80 = .ok (.putfield 16, 3) := by decide +kernel
theorem dX0_follow_83 : decode cX0_follow 83 = .ok (.return_, 1) := by decide +kernel
theorem dX0_clear_0 : decode cX0_clear 0 = .ok (.aload_n 0, 1) := by decide +kernel
theorem dX0_clear_1 : decode cX0_clear 1 = .ok (.iload_n 1, 1) := by decide +kernel
theorem dX0_clear_2 : decode cX0_clear 2 = .ok (.bipush 12, 2) := by decide +kernel
theorem dX0_clear_4 : decode cX0_clear 4 = .ok (.invokestatic 41, 3) := by decide +kernel
theorem dX0_clear_7 : decode cX0_clear 7 = .ok (.putfield 32, 3) := by decide +kernel
theorem dX0_clear_10 : decode cX0_clear 10 = .ok (.iconst 0, 1) := by decide +kernel
theorem dX0_clear_11 : decode cX0_clear 11 = .ok (.istore_n 2, 1) := by decide +kernel
theorem dX0_clear_12 : decode cX0_clear 12 = .ok (.iload_n 2, 1) := by decide +kernel
theorem dX0_clear_13 : decode cX0_clear 13 = .ok (.aload_n 0, 1) := by decide +kernel
theorem dX0_clear_14 : decode cX0_clear 14 = .ok (.getfield 32, 3) := by decide +kernel
theorem dX0_clear_17 : decode cX0_clear 17 = .ok (.if_icmp .ge 29, 3) := by decide +kernel
theorem dX0_clear_20 : decode cX0_clear 20 = .ok (.aload_n 0, 1) := by decide +kernel
theorem dX0_clear_21 : decode cX0_clear 21 = .ok (.getfield 11, 3) := by decide +kernel
theorem dX0_clear_24 : decode cX0_clear 24 = .ok (.iload_n 2, 1) := by decide +kernel
theorem dX0_clear_25 : decode cX0_clear 25 = .ok (.aaload, 1) := by decide +kernel
theorem dX0_clear_26 : decode cX0_clear 26 = .ok (.ldc 46, 2) := by decide +kernel
theorem dX0_clear_28 : decode cX0_clear 28 = .ok (.invokestatic 47, 3) := by decide +kernel
theorem dX0_clear_31 : decode cX0_clear 31 = .ok (.aload_n 0, 1) := by decide +kernel
theorem dX0_clear_32 : decode cX0_clear 32 = .ok (.getfield 11, 3) := by decide +kernel
theorem dX0_clear_35 : decode cX0_clear 35 = .ok (.iload_n 2, 1) := by decide +kernel
theorem dX0_clear_36 : decode cX0_clear 36 = .ok (.aaload, 1) := by decide +kernel
theorem dX0_clear_37 : decode cX0_clear 37 = .ok (.iload_n 2, 1) := by decide +kernel
theorem dX0_clear_38 : decode cX0_clear 38 = .ok (.iconst 0, 1) := by decide +kernel
theorem dX0_clear_39 : decode cX0_clear 39 = .ok (.iastore, 1) := by decide +kernel
theorem dX0_clear_40 : decode cX0_clear 40 = .ok (.iinc 2 1, 3) := by decide +kernel
theorem dX0_clear_43 : decode cX0_clear 43 = .ok (.goto (-31), 3) := by decide +kernel
theorem dX0_clear_46 : decode cX0_clear 46 = .ok (.return_, 1) := by decide +kernel
theorem dX0_between_0 : decode cX0_between 0 = .ok (.iload_n 1, 1) := by decide +kernel
theorem dX0_between_1 : decode cX0_between 1 = .ok (.ifCond .lt 23, 3) := by decide +kernel
theorem dX0_between_4 : decode cX0_between 4 = .ok (.iload_n 1, 1) := by decide +kernel
theorem dX0_between_5 : decode cX0_between 5 = .ok (.aload_n 0, 1) := by decide +kernel
theorem dX0_between_6 : decode cX0_between 6 = .ok (.getfield 32, 3) := by decide +kernel
theorem dX0_between_9 : decode cX0_between 9 = .ok (.if_icmp .ge 15, 3) := by decide +kernel
theorem dX0_between_12 : decode cX0_between 12 = .ok (.iload_n 2, 1) := by decide +kernel
theorem dX0_between_13 : decode cX0_between 13 = .ok (.ifCond .lt 11, 3) := by decide +kernel
theorem dX0_between_16 : decode cX0_between 16 = .ok (.iload_n 2, 1) := by decide +kernel
theorem dX0_between_17 : decode cX0_between 17 = .ok (.aload_n 0, 1) := by decide +kernel
theorem dX0_between_18 : decode cX0_between 18 = .ok (.getfield 32, 3) := by decide +kernel
theorem dX0_between_21 : decode cX0_between 21 = .ok (.if_icmp .lt 5, 3) := by decide +kernel
theorem dX0_between_24 : decode cX0_between 24 = .ok (.iconst (-1), 1) := by decide +kernel
theorem dX0_between_25 : decode cX0_between 25 = .ok (.ireturn, 1) := by decide +kernel
theorem dX0_between_26 : decode cX0_between 26 = .ok (.aload_n 0, 1) := by decide +kernel
theorem dX0_between_27 : decode cX0_between 27 = .ok (.getfield 11, 3) := by decide +kernel
theorem dX0_between_30 : decode cX0_between 30 = .ok (.iload_n 1, 1) := by decide +kernel
theorem dX0_between_31 : decode cX0_between 31 = .ok (.aaload, 1) := by decide +kernel
theorem dX0_between_32 : decode cX0_between 32 = .ok (.iload_n 2, 1) := by decide +kernel
theorem dX0_between_33 : decode cX0_between 33 = .ok (.iaload, 1) := by decide +kernel
theorem dX0_between_34 : decode cX0_between 34 = .ok (.ldc 46, 2) := by decide +kernel
theorem dX0_between_36 : decode cX0_between 36 = .ok (.if_icmp .ge 14, 3) := by decide +kernel
theorem dX0_between_39 : decode cX0_between 39 = .ok (.aload_n 0, 1) := by decide +kernel
theorem dX0_between_40 : decode cX0_between 40 = .ok (.getfield 11, 3) := by decide +kernel
theorem dX0_between_43 : decode cX0_between 43 = .ok (.iload_n 1, 1) := by decide +kernel
theorem dX0_between_44 : decode cX0_between 44 = .ok (.aaload, 1) := by decide +kernel
theorem dX0_between_45 : decode cX0_between 45 = .ok (.iload_n 2, 1) := by decide +kernel
theorem dX0_between_46 : decode cX0_between 46 = .ok (.iaload, 1) := by decide +kernel
theorem dX0_between_47 : decode cX0_between 47 = .ok (.goto 4, 3) := by decide +kernel
theorem dX0_between_50 : decode cX0_between 50 = .ok (.iconst (-1), 1) := by decide +kernel
theorem dX0_between_51 : decode cX0_between 51 = .ok (.ireturn, 1) := by decide +kernel
theorem dX0_add_0 : decode cX0_add 0 = .ok (.iload_n 1, 1) := by decide +kernel
theorem dX0_add_1 : decode cX0_add 1 = .ok (.ifCond .lt 23, 3) := by decide +kernel
theorem dX0_add_4 : decode cX0_add 4 = .ok (.iload_n 1, 1) := by decide +kernel
theorem dX0_add_5 : decode cX0_add 5 = .ok (.aload_n 0, 1) := by decide +kernel
theorem dX0_add_6 : decode cX0_add 6 = .ok (.getfield 32, 3) := by decide +kernel
theorem dX0_add_9 : decode cX0_add 9 = .ok (.if_icmp .ge 15, 3) := by decide +kernel
theorem dX0_add_12 : decode cX0_add 12 = .ok (.iload_n 2, 1) := by decide +kernel
theorem dX0_add_13 : decode cX0_add 13 = .ok (.ifCond .lt 11, 3) := by decide +kernel
theorem dX0_add_16 : decode cX0_add 16 = .ok (.iload_n 2, 1) := by decide +kernel
theorem dX0_add_17 : decode cX0_add 17 = .ok (.aload_n 0, 1) := by decide +kernel
theorem dX0_add_18 : decode cX0_add 18 = .ok (.getfield 32, 3) := by decide +kernel
theorem dX0_add_21 : decode cX0_add 21 = .ok (.if_icmp .lt 4, 3) := by decide +kernel
theorem dX0_add_24 : decode cX0_add 24 = .ok (.return_, 1) := by decide +kernel
theorem dX0_add_25 : decode cX0_add 25 = .ok (.iconst 0, 1) := by decide +kernel
theorem dX0_add_26 : decode cX0_add 26 = .ok (.istore 4, 2) := by decide +kernel
theorem dX0_add_28 : decode cX0_add 28 = .ok (.iload 4, 2) := by decide +kernel
theorem dX0_add_30 : decode cX0_add 30 = .ok (.aload_n 0, 1) := by decide +kernel
theorem dX0_add_31 : decode cX0_add 31 = .ok (.getfield 32, 3) := by decide +kernel
theorem dX0_add_34 : decode cX0_add 34 = .ok (.if_icmp .ge 96, 3) := by decide +kernel
theorem dX0_add_37 : decode cX0_add 37 = .ok (.aload_n 0, 1) := by decide +kernel
theorem dX0_add_38 : decode cX0_add 38 = .ok (.getfield 11, 3) := by decide +kernel
theorem dX0_add_41 : decode cX0_add 41 = .ok (.iload 4, 2) := by decide +kernel
theorem dX0_add_43 : decode cX0_add 43 = .ok (.aaload, 1) := by decide +kernel
theorem dX0_add_44 : decode cX0_add 44 = .ok (.astore 5, 2) := by decide +kernel
theorem dX0_add_46 : decode cX0_add 46 = .ok (.aload 5, 2) := by decide +kernel
theorem dX0_add_48 : decode cX0_add 48 = .ok (.iload_n 1, 1) := by decide +kernel
theorem dX0_add_49 : decode cX0_add 49 = .ok (.iaload, 1) := by decide +kernel
theorem dX0_add_50 : decode cX0_add 50 = .ok (.iload_n 3, 1) := by decide +kernel
theorem dX0_add_51 : decode cX0_add 51 = .ok (.iadd, 1) := by decide +kernel
theorem dX0_add_52 : decode cX0_add 52 = .ok (.istore 6, 2) := by decide +kernel
theorem dX0_add_54 : decode cX0_add 54 = .ok (.aload 5, 2) := by decide +kernel
theorem dX0_add_56 : decode cX0_add 56 = .ok (.iload_n 2, 1) := by decide +kernel
theorem dX0_add_57 : decode cX0_add 57 = .ok (.iaload, 1) := by decide +kernel
theorem dX0_add_58 : decode cX0_add 58 = .ok (.iload_n 3, 1) := by decide +kernel
theorem dX0_add_59 : decode cX0_add 59 = .ok (.iadd, 1) := by decide +kernel
theorem dX0_add_60 : decode cX0_add 60 = .ok (.istore 7, 2) := by decide +kernel
theorem dX0_add_62 : decode cX0_add 62 = .ok (.iconst 0, 1) := by decide +kernel
theorem dX0_add_63 : decode cX0_add 63 = .ok (.istore 8, 2) := by decide +kernel
theorem dX0_add_65 : decode cX0_add 65 = .ok (.iload 8, 2) := by decide +kernel
theorem dX0_add_67 : decode cX0_add 67 = .ok (.aload_n 0, 1) := by decide +kernel
theorem dX0_add_68 : decode cX0_add 68 = .ok (.getfield 32, 3) := by decide +kernel
theorem dX0_add_71 : decode cX0_add 71 = .ok (.if_icmp .ge 53, 3) := by decide +kernel
theorem dX0_add_74 : decode cX0_add 74 = .ok (.iload 6, 2) := by decide +kernel
theorem dX0_add_76 : decode cX0_add 76 = .ok (.aload_n 0, 1) := by decide +kernel
theorem dX0_add_77 : decode cX0_add 77 = .ok (.getfield 11, 3) := by decide +kernel
theorem dX0_add_80 : decode cX0_add 80 = .ok (.iload_n 2, 1) := by decide +kernel
theorem dX0_add_81 : decode cX0_add 81 = .ok (.aaload, 1) := by decide +kernel
theorem dX0_add_82 : decode cX0_add 82 = .ok (.iload 8, 2) := by decide +kernel
theorem dX0_add_84 : decode cX0_add 84 = .ok (.iaload, 1) := by decide +kernel
theorem dX0_add_85 : decode cX0_add 85 = .ok (.iadd, 1) := by decide +kernel
theorem dX0_add_86 : decode cX0_add 86 = .ok (.iload 7, 2) := by decide +kernel
theorem dX0_add_88 : decode cX0_add 88 = .ok (.aload_n 0, 1) := by decide +kernel
theorem dX0_add_89 : decode cX0_add 89 = .ok (.getfield 11, 3) := by decide +kernel
theorem dX0_add_92 : decode cX0_add 92 = .ok (.iload_n 1, 1) := by decide +kernel
theorem dX0_add_93 : decode cX0_add 93 = .ok (.aaload, 1) := by decide +kernel
theorem dX0_add_94 : decode cX0_add 94 = .ok (.iload 8, 2) := by decide +kernel
theorem dX0_add_96 : decode cX0_add 96 = .ok (.iaload, 1) := by decide +kernel
theorem dX0_add_97 : decode cX0_add 97 = .ok (.iadd, 1) := by decide +kernel
theorem dX0_add_98 : decode cX0_add 98 = .ok (.invokestatic 41, 3) := by decide +kernel
theorem dX0_add_101 : decode cX0_add 101 = .ok (.istore 9, 2) := by decide +kernel
theorem dX0_add_103 : decode cX0_add 103 = .ok (.aload 5, 2) := by decide +kernel
theorem dX0_add_105 : decode cX0_add 105 = .ok (.iload 8, 2) := by decide +kernel
theorem dX0_add_107 : decode cX0_add 107 = .ok (.aload 5, 2) := by decide +kernel
theorem dX0_add_109 : decode cX0_add 109 = .ok (.iload 8, 2) := by decide +kernel
theorem dX0_add_111 : decode cX0_add 111 = .ok (.iaload, 1) := by decide +kernel
theorem dX0_add_112 : decode cX0_add 112 = .ok (.iload 9, 2) := by decide +kernel
theorem dX0_add_114 : decode cX0_add 114 = .ok (.invokestatic 41, 3) := by decide +kernel
theorem dX0_add_117 : decode cX0_add 117 = .ok (.iastore, 1) := by decide +kernel
theorem dX0_add_118 : decode cX0_add 118 = .ok (.iinc 8 1, 3) := by decide +kernel
theorem dX0_add_121 : decode cX0_add 121 = .ok (.goto (-56), 3) := by decide +kernel
theorem dX0_add_124 : decode cX0_add 124 = .ok (.iinc 4 1, 3) := by decide +kernel
theorem dX0_add_127 : decode cX0_add 127 = .ok (.goto (-99), 3) := by decide +kernel
theorem dX0_add_130 : decode cX0_add 130 = .ok (.return_, 1) := by decide +kernel
theorem dX1_init_0 : decode cX1_init 0 = .ok (.aload_n 0, 1) := by decide +kernel
theorem dX1_init_1 : decode cX1_init 1 = .ok (.invokespecial 3, 3) := by decide +kernel
theorem dX1_init_4 : decode cX1_init 4 = .ok (.aload_n 0, 1) := by decide +kernel
theorem dX1_init_5 : decode cX1_init 5 = .ok (.iconst 2, 1) := by decide +kernel
theorem dX1_init_6 : decode cX1_init 6 = .ok (.putfield 9, 3) := by decide +kernel
theorem dX1_init_9 : decode cX1_init 9 = .ok (.aload_n 0, 1) := by decide +kernel
theorem dX1_init_10 : decode cX1_init 10 = .ok (.iconst 1, 1) := by decide +kernel
theorem dX1_init_11 : decode cX1_init 11 = .ok (.putfield 15, 3) := by decide +kernel
theorem dX1_init_14 : decode cX1_init 14 = .ok (.aload_n 0, 1) := by decide +kernel
theorem dX1_init_15 : decode cX1_init 15 = .ok (.iconst 1, 1) := by decide +kernel
theorem dX1_init_16 : decode cX1_init 16 = .ok (.putfield 18, 3) := by decide +kernel
theorem dX1_init_19 : decode cX1_init 19 = .ok (.aload_n 0, 1) := by decide +kernel
theorem dX1_init_20 : decode cX1_init 20 = .ok (.sipush 144, 3) := by decide +kernel
theorem dX1_init_23 : decode cX1_init 23 = .ok (.newarray .int, 2) := by decide +kernel
theorem dX1_init_25 : decode cX1_init 25 = .ok (.putfield 21, 3) := by decide +kernel
theorem dX1_init_28 : decode cX1_init 28 = .ok (.aload_n 0, 1) := by decide +kernel
theorem dX1_init_29 : decode cX1_init 29 = .ok (.bipush 12, 2) := by decide +kernel
theorem dX1_init_31 : decode cX1_init 31 = .ok (.newarray .int, 2) := by decide +kernel
theorem dX1_init_33 : decode cX1_init 33 = .ok (.putfield 25, 3) := by decide +kernel
theorem dX1_init_36 : decode cX1_init 36 = .ok (.return_, 1) := by decide +kernel
theorem dX1_has_0 : decode cX1_has 0 = .ok (.iload_n 1, 1) := by decide +kernel
theorem dX1_has_1 : decode cX1_has 1 = .ok (.ifCond .lt 15, 3) := by decide +kernel
theorem dX1_has_4 : decode cX1_has 4 = .ok (.iload_n 1, 1) := by decide +kernel
theorem dX1_has_5 : decode cX1_has 5 = .ok (.aload_n 0, 1) := by decide +kernel
theorem dX1_has_6 : decode cX1_has 6 = .ok (.getfield 9, 3) := by decide +kernel
theorem dX1_has_9 : decode cX1_has 9 = .ok (.if_icmp .ge 7, 3) := by decide +kernel
theorem dX1_has_12 : decode cX1_has 12 = .ok (.iconst 1, 1) := by decide +kernel
theorem dX1_has_13 : decode cX1_has 13 = .ok (.goto 4, 3) := by decide +kernel
theorem dX1_has_16 : decode cX1_has 16 = .ok (.iconst 0, 1) := by decide +kernel
theorem dX1_has_17 : decode cX1_has 17 = .ok (.ireturn, 1) := by decide +kernel
theorem dX1_lengthOf_0 : decode cX1_lengthOf 0 = .ok (.aload_n 0, 1) := by decide +kernel
theorem dX1_lengthOf_1 : decode cX1_lengthOf 1 = .ok (.iload_n 1, 1) := by decide +kernel
theorem dX1_lengthOf_2 : decode cX1_lengthOf 2 = .ok (.invokevirtual 28, 3) := by decide +kernel
theorem dX1_lengthOf_5 : decode cX1_lengthOf 5 = .ok (.ifCond .eq 24, 3) := by decide +kernel
theorem dX1_lengthOf_8 : decode cX1_lengthOf 8 = .ok (.aload_n 0, 1) := by decide +kernel
theorem dX1_lengthOf_9 : decode cX1_lengthOf 9 = .ok (.iload_n 2, 1) := by decide +kernel
theorem dX1_lengthOf_10 : decode cX1_lengthOf 10 = .ok (.invokevirtual 28, 3) := by decide +kernel
theorem dX1_lengthOf_13 : decode cX1_lengthOf 13 = .ok (.ifCond .eq 16, 3) := by decide +kernel
theorem dX1_lengthOf_16 : decode cX1_lengthOf 16 = .ok (.aload_n 0, 1) := by decide +kernel
theorem dX1_lengthOf_17 : decode cX1_lengthOf 17 = .ok (.getfield 21, 3) := by decide +kernel
theorem dX1_lengthOf_20 : decode cX1_lengthOf 20 = .ok (.iload_n 1, 1) := by decide +kernel
theorem dX1_lengthOf_21 : decode cX1_lengthOf 21 = .ok (.iload_n 2, 1) := by decide +kernel
theorem dX1_lengthOf_22 : decode cX1_lengthOf 22 = .ok (.invokestatic 32, 3) := by decide +kernel
theorem dX1_lengthOf_25 : decode cX1_lengthOf 25 = .ok (.iaload, 1) := by decide +kernel
theorem dX1_lengthOf_26 : decode cX1_lengthOf 26 = .ok (.goto 4, 3) := by decide +kernel
theorem dX1_lengthOf_29 : decode cX1_lengthOf 29 = .ok (.iconst 0, 1) := by decide +kernel
theorem dX1_lengthOf_30 : decode cX1_lengthOf 30 = .ok (.ireturn, 1) := by decide +kernel
theorem dX1_levelOf_0 : decode cX1_levelOf 0 = .ok (.iload_n 1, 1) := by decide +kernel
theorem dX1_levelOf_1 : decode cX1_levelOf 1 = .ok (.ifCond .lt 20, 3) := by decide +kernel
theorem dX1_levelOf_4 : decode cX1_levelOf 4 = .ok (.iload_n 1, 1) := by decide +kernel
theorem dX1_levelOf_5 : decode cX1_levelOf 5 = .ok (.aload_n 0, 1) := by decide +kernel
theorem dX1_levelOf_6 : decode cX1_levelOf 6 = .ok (.getfield 9, 3) := by decide +kernel
theorem dX1_levelOf_9 : decode cX1_levelOf 9 = .ok (.if_icmp .ge 12, 3) := by decide +kernel
theorem dX1_levelOf_12 : decode cX1_levelOf 12 = .ok (.aload_n 0, 1) := by decide +kernel
theorem dX1_levelOf_13 : decode cX1_levelOf 13 = .ok (.getfield 25, 3) := by decide +kernel
theorem dX1_levelOf_16 : decode cX1_levelOf 16 = .ok (.iload_n 1, 1) := by decide +kernel
theorem dX1_levelOf_17 : decode cX1_levelOf 17 = .ok (.iaload, 1) := by decide +kernel
theorem dX1_levelOf_18 : decode cX1_levelOf 18 = .ok (.goto 4, 3) := by decide +kernel
theorem dX1_levelOf_21 : decode cX1_levelOf 21 = .ok (.iconst 0, 1) := by decide +kernel
theorem dX1_levelOf_22 : decode cX1_levelOf 22 = .ok (.ireturn, 1) := by decide +kernel
theorem dX1_hasRoomFor_0 : decode cX1_hasRoomFor 0 = .ok (.aload_n 0, 1) := by decide +kernel
theorem dX1_hasRoomFor_1 : decode cX1_hasRoomFor 1 = .ok (.getfield 36, 3) := by decide +kernel
theorem dX1_hasRoomFor_4 : decode cX1_hasRoomFor 4 = .ok (.bipush 30, 2) := by decide +kernel
theorem dX1_hasRoomFor_6 : decode cX1_hasRoomFor 6 = .ok (.if_icmp .lt 32, 3) := by decide +kernel
theorem dX1_hasRoomFor_9 : decode cX1_hasRoomFor 9 = .ok (.aload_n 0, 1) := by decide +kernel
theorem dX1_hasRoomFor_10 : decode cX1_hasRoomFor 10 = .ok (.iload_n 1, 1) := by decide +kernel
theorem dX1_hasRoomFor_11 : decode cX1_hasRoomFor 11 = .ok (.invokevirtual 28, 3) := by decide +kernel
theorem dX1_hasRoomFor_14 : decode cX1_hasRoomFor 14 = .ok (.ifCond .eq 28, 3) := by decide +kernel
theorem dX1_hasRoomFor_17 : decode cX1_hasRoomFor 17 = .ok (.aload_n 0, 1) := by decide +kernel
theorem dX1_hasRoomFor_18 : decode cX1_hasRoomFor 18 = .ok (.iload_n 2, 1) := by decide +kernel
theorem dX1_hasRoomFor_19 : decode cX1_hasRoomFor 19 = .ok (.invokevirtual 28, 3) := by decide +kernel
theorem dX1_hasRoomFor_22 : decode cX1_hasRoomFor 22 = .ok (.ifCond .eq 20, 3) := by decide +kernel
theorem dX1_hasRoomFor_25 : decode cX1_hasRoomFor 25 = .ok (.aload_n 0, 1) := by decide +kernel
theorem dX1_hasRoomFor_26 : decode cX1_hasRoomFor 26 = .ok (.getfield 21, 3) := by decide +kernel
theorem dX1_hasRoomFor_29 : decode cX1_hasRoomFor 29 = .ok (.iload_n 1, 1) := by decide +kernel
theorem dX1_hasRoomFor_30 : decode cX1_hasRoomFor 30 = .ok (.iload_n 2, 1) := by decide +kernel
theorem dX1_hasRoomFor_31 : decode cX1_hasRoomFor 31 = .ok (.invokestatic 32, 3) := by decide +kernel
theorem dX1_hasRoomFor_34 : decode cX1_hasRoomFor 34 = .ok (.iaload, 1) := by decide +kernel
theorem dX1_hasRoomFor_35 : decode cX1_hasRoomFor 35 = .ok (.ifCond .le 7, 3) := by decide +kernel
theorem dX1_hasRoomFor_38 : decode cX1_hasRoomFor 38 = .ok (.iconst 1, 1) := by decide +kernel
theorem dX1_hasRoomFor_39 : decode cX1_hasRoomFor 39 = .ok (.goto 4, 3) := by decide +kernel
theorem dX1_hasRoomFor_42 : decode cX1_hasRoomFor 42 = .ok (.iconst 0, 1) := by decide +kernel
theorem dX1_hasRoomFor_43 : decode cX1_hasRoomFor 43 = .ok (.ireturn, 1) := by decide +kernel
theorem dX1_setLength_0 : decode cX1_setLength 0 = .ok (.aload_n 0, 1) := by decide +kernel
theorem dX1_setLength_1 : decode cX1_setLength 1 = .ok (.iload_n 1, 1) := by decide +kernel
theorem dX1_setLength_2 : decode cX1_setLength 2 = .ok (.invokevirtual 28, 3) := by decide +kernel
theorem dX1_setLength_5 : decode cX1_setLength 5 = .ok (.ifCond .eq 16, 3) := by decide +kernel
theorem dX1_setLength_8 : decode cX1_setLength 8 = .ok (.aload_n 0, 1) := by decide +kernel
theorem dX1_setLength_9 : decode cX1_setLength 9 = .ok (.iload_n 2, 1) := by decide +kernel
theorem dX1_setLength_10 : decode cX1_setLength 10 = .ok (.invokevirtual 28, 3) := by decide +kernel
theorem dX1_setLength_13 : decode cX1_setLength 13 = .ok (.ifCond .eq 8, 3) := by decide +kernel
theorem dX1_setLength_16 : decode cX1_setLength 16 = .ok (.iload_n 1, 1) := by decide +kernel
theorem dX1_setLength_17 : decode cX1_setLength 17 = .ok (.iload_n 2, 1) := by decide +kernel
theorem dX1_setLength_18 : decode cX1_setLength 18 = .ok (.if_icmp .ne 4, 3) := by decide +kernel
theorem dX1_setLength_21 : decode cX1_setLength 21 = .ok (.return_, 1) := by decide +kernel
theorem dX1_setLength_22 : decode cX1_setLength 22 = .ok (.aload_n 0, 1) := by decide +kernel
theorem dX1_setLength_23 : decode cX1_setLength 23 = .ok (.getfield 21, 3) := by decide +kernel
theorem dX1_setLength_26 : decode cX1_setLength 26 = .ok (.iload_n 1, 1) := by decide +kernel
theorem dX1_setLength_27 : decode cX1_setLength 27 = .ok (.iload_n 2, 1) := by decide +kernel
theorem dX1_setLength_28 : decode cX1_setLength 28 = .ok (.invokestatic 32, 3) := by decide +kernel
theorem dX1_setLength_31 : decode cX1_setLength 31 = .ok (.iaload, 1) := by decide +kernel
theorem dX1_setLength_32 : decode cX1_setLength 32 = .ok (.ifCond .le 13, 3) := by decide +kernel
theorem dX1_setLength_35 : decode cX1_setLength 35 = .ok (.aload_n 0, 1) := by decide +kernel
theorem dX1_setLength_36 : decode cX1_setLength 36 = .ok (.dup, 1) := by decide +kernel
theorem dX1_setLength_37 : decode cX1_setLength 37 = .ok (.getfield 36, 3) := by decide +kernel
theorem dX1_setLength_40 : decode cX1_setLength 40 = .ok (.iconst 1, 1) := by decide +kernel
theorem dX1_setLength_41 : decode cX1_setLength 41 = .ok (.isub, 1) := by decide +kernel
theorem dX1_setLength_42 : decode cX1_setLength 42 = .ok (.putfield 36, 3) := by decide +kernel
theorem dX1_setLength_45 : decode cX1_setLength 45 = .ok (.iload_n 3, 1) := by decide +kernel
theorem dX1_setLength_46 : decode cX1_setLength 46 = .ok (.ifCond .le 13, 3) := by decide +kernel
theorem dX1_setLength_49 : decode cX1_setLength 49 = .ok (.aload_n 0, 1) := by decide +kernel
theorem dX1_setLength_50 : decode cX1_setLength 50 = .ok (.dup, 1) := by decide +kernel
theorem dX1_setLength_51 : decode cX1_setLength 51 = .ok (.getfield 36, 3) := by decide +kernel
theorem dX1_setLength_54 : decode cX1_setLength 54 = .ok (.iconst 1, 1) := by decide +kernel
theorem dX1_setLength_55 : decode cX1_setLength 55 = .ok (.iadd, 1) := by decide +kernel
theorem dX1_setLength_56 : decode cX1_setLength 56 = .ok (.putfield 36, 3) := by decide +kernel
theorem dX1_setLength_59 : decode cX1_setLength 59 = .ok (.aload_n 0, 1) := by decide +kernel
theorem dX1_setLength_60 : decode cX1_setLength 60 = .ok (.getfield 21, 3) := by decide +kernel
theorem dX1_setLength_63 : decode cX1_setLength 63 = .ok (.iload_n 1, 1) := by decide +kernel
theorem dX1_setLength_64 : decode cX1_setLength 64 = .ok (.iload_n 2, 1) := by decide +kernel
theorem dX1_setLength_65 : decode cX1_setLength 65 = .ok (.invokestatic 32, 3) := by decide +kernel
theorem dX1_setLength_68 : decode cX1_setLength 68 = .ok (.iload_n 3, 1) := by decide +kernel
theorem dX1_setLength_69 : decode cX1_setLength 69 = .ok (.iastore, 1) := by decide +kernel
theorem dX1_setLength_70 : decode cX1_setLength 70 = .ok (.aload_n 0, 1) := by decide +kernel
theorem dX1_setLength_71 : decode cX1_setLength 71 = .ok (.getfield 21, 3) := by decide +kernel
theorem dX1_setLength_74 : decode cX1_setLength 74 = .ok (.iload_n 2, 1) := by decide +kernel
theorem dX1_setLength_75 : decode cX1_setLength 75 = .ok (.iload_n 1, 1) := by decide +kernel
theorem dX1_setLength_76 : decode cX1_setLength 76 = .ok (.invokestatic 32, 3) := by decide +kernel
theorem dX1_setLength_79 : decode cX1_setLength 79 = .ok (.iload_n 3, 1) := by decide +kernel
theorem dX1_setLength_80 : decode cX1_setLength 80 = .ok (.iastore, 1) := by decide +kernel
theorem dX1_setLength_81 : decode cX1_setLength 81 = .ok (.aload_n 0, 1) := by decide +kernel
theorem dX1_setLength_82 : decode cX1_setLength 82 = .ok (.dup, 1) := by decide +kernel
theorem dX1_setLength_83 : decode cX1_setLength 83 = .ok (.getfield 18, 3) := by decide +kernel
theorem dX1_setLength_86 : decode cX1_setLength 86 = .ok (.iconst 1, 1) := by decide +kernel
theorem dX1_setLength_87 : decode cX1_setLength 87 = .ok (.iadd, 1) := by decide +kernel
theorem dX1_setLength_88 : decode cX1_setLength 88 = .ok (.putfield 18, 3) := by decide +kernel
theorem dX1_setLength_91 : decode cX1_setLength 91 = .ok (.return_, 1) := by decide +kernel
theorem dX1_setLevel_0 : decode cX1_setLevel 0 = .ok (.aload_n 0, 1) := by decide +kernel
theorem dX1_setLevel_1 : decode cX1_setLevel 1 = .ok (.iload_n 1, 1) := by decide +kernel
theorem dX1_setLevel_2 : decode cX1_setLevel 2 = .ok (.invokevirtual 28, 3) := by decide +kernel
theorem dX1_setLevel_5 : decode cX1_setLevel 5 = .ok (.ifCond .eq 10, 3) := by decide +kernel
theorem dX1_setLevel_8 : decode cX1_setLevel 8 = .ok (.aload_n 0, 1) := by decide +kernel
theorem dX1_setLevel_9 : decode cX1_setLevel 9 = .ok (.getfield 25, 3) := by decide +kernel
theorem dX1_setLevel_12 : decode cX1_setLevel 12 = .ok (.iload_n 1, 1) := by decide +kernel
theorem dX1_setLevel_13 : decode cX1_setLevel 13 = .ok (.iload_n 2, 1) := by decide +kernel
theorem dX1_setLevel_14 : decode cX1_setLevel 14 = .ok (.iastore, 1) := by decide +kernel
theorem dX1_setLevel_15 : decode cX1_setLevel 15 = .ok (.return_, 1) := by decide +kernel
theorem dX1_cellOfLink_0 : decode cX1_cellOfLink 0 = .ok (.iload_n 1, 1) := by decide +kernel
theorem dX1_cellOfLink_1 : decode cX1_cellOfLink 1 = .ok (.ifCond .lt 11, 3) := by decide +kernel
theorem dX1_cellOfLink_4 : decode cX1_cellOfLink 4 = .ok (.iload_n 1, 1) := by decide +kernel
theorem dX1_cellOfLink_5 : decode cX1_cellOfLink 5 = .ok (.aload_n 0, 1) := by decide +kernel
theorem dX1_cellOfLink_6 : decode cX1_cellOfLink 6 = .ok (.getfield 36, 3) := by decide +kernel
theorem dX1_cellOfLink_9 : decode cX1_cellOfLink 9 = .ok (.if_icmp .lt 5, 3) := by decide +kernel
theorem dX1_cellOfLink_12 : decode cX1_cellOfLink 12 = .ok (.iconst (-1), 1) := by decide +kernel
theorem dX1_cellOfLink_13 : decode cX1_cellOfLink 13 = .ok (.ireturn, 1) := by decide +kernel
theorem dX1_cellOfLink_14 : decode cX1_cellOfLink 14 = .ok (.iload_n 1, 1) := by decide +kernel
theorem dX1_cellOfLink_15 : decode cX1_cellOfLink 15 = .ok (.istore_n 2, 1) := by decide +kernel
theorem dX1_cellOfLink_16 : decode cX1_cellOfLink 16 = .ok (.iconst 0, 1) := by decide +kernel
theorem dX1_cellOfLink_17 : decode cX1_cellOfLink 17 = .ok (.istore_n 3, 1) := by decide +kernel
theorem dX1_cellOfLink_18 : decode cX1_cellOfLink 18 = .ok (.iload_n 3, 1) := by decide +kernel
theorem dX1_cellOfLink_19 : decode cX1_cellOfLink 19 = .ok (.aload_n 0, 1) := by decide +kernel
theorem dX1_cellOfLink_20 : decode cX1_cellOfLink 20 = .ok (.getfield 9, 3) := by decide +kernel
theorem dX1_cellOfLink_23 : decode cX1_cellOfLink 23 = .ok (.if_icmp .ge 57, 3) := by decide +kernel
theorem dX1_cellOfLink_26 : decode cX1_cellOfLink 26 = .ok (.iload_n 3, 1) := by decide +kernel
theorem dX1_cellOfLink_27 : decode cX1_cellOfLink 27 = .ok (.iconst 1, 1) := by decide +kernel
theorem dX1_cellOfLink_28 : decode cX1_cellOfLink 28 = .ok (.iadd, 1) := by decide +kernel
theorem dX1_cellOfLink_29 : decode cX1_cellOfLink 29 = .ok (.istore 4, 2) := by decide +kernel
theorem dX1_cellOfLink_31 : decode cX1_cellOfLink 31 = .ok (.iload 4, 2) := by decide +kernel
theorem dX1_cellOfLink_33 : decode cX1_cellOfLink 33 = .ok (.aload_n 0, 1) := by decide +kernel
theorem dX1_cellOfLink_34 : decode cX1_cellOfLink 34 = .ok (.getfield 9, 3) := by decide +kernel
theorem dX1_cellOfLink_37 : decode cX1_cellOfLink 37 = .ok (.if_icmp .ge 37, 3) := by decide +kernel
theorem dX1_cellOfLink_40 : decode cX1_cellOfLink 40 = .ok (.aload_n 0, 1) := by decide +kernel
theorem dX1_cellOfLink_41 : decode cX1_cellOfLink 41 = .ok (.getfield 21, 3) := by decide +kernel
theorem dX1_cellOfLink_44 : decode cX1_cellOfLink 44 = .ok (.iload_n 3, 1) := by decide +kernel
theorem dX1_cellOfLink_45 : decode cX1_cellOfLink 45 = .ok (.iload 4, 2) := by decide +kernel
theorem dX1_cellOfLink_47 : decode cX1_cellOfLink 47 = .ok (.invokestatic 32, 3) := by decide +kernel
theorem dX1_cellOfLink_50 : decode cX1_cellOfLink 50 = .ok (.iaload, 1) := by decide +kernel
theorem dX1_cellOfLink_51 : decode cX1_cellOfLink 51 = .ok (.ifCond .le 17, 3) := by decide +kernel
theorem dX1_cellOfLink_54 : decode cX1_cellOfLink 54 = .ok (.iload_n 2, 1) := by decide +kernel
theorem dX1_cellOfLink_55 : decode cX1_cellOfLink 55 = .ok (.ifCond .ne 10, 3) := by decide +kernel
theorem dX1_cellOfLink_58 : decode cX1_cellOfLink 58 = .ok (.iload_n 3, 1) := by decide +kernel
theorem dX1_cellOfLink_59 : decode cX1_cellOfLink 59 = .ok (.iload 4, 2) := by decide +kernel
theorem dX1_cellOfLink_61 : decode cX1_cellOfLink 61 = .ok (.invokestatic 32, 3) := by decide +kernel
theorem dX1_cellOfLink_64 : decode cX1_cellOfLink 64 = .ok (.ireturn, 1) := by decide +kernel
theorem dX1_cellOfLink_65 : decode cX1_cellOfLink 65 = .ok (.iinc 2 (-1), 3) := by decide +kernel
theorem dX1_cellOfLink_68 : decode cX1_cellOfLink 68 = .ok (.iinc 4 1, 3) := by decide +kernel
theorem dX1_cellOfLink_71 : decode cX1_cellOfLink 71 = .ok (.goto (-40), 3) := by decide +kernel
theorem dX1_cellOfLink_74 : decode cX1_cellOfLink 74 = .ok (.iinc 3 1, 3) := by decide +kernel
theorem dX1_cellOfLink_77 : decode cX1_cellOfLink 77 = .ok (.goto (-59), 3) := by decide +kernel
theorem dX1_cellOfLink_80 : decode cX1_cellOfLink 80 = .ok (.iconst (-1), 1) := by decide +kernel
theorem dX1_cellOfLink_81 : decode cX1_cellOfLink 81 = .ok (.ireturn, 1) := by decide +kernel
theorem dX1_nodesOfLevel_0 : decode cX1_nodesOfLevel 0 = .ok (.iconst 0, 1) := by decide +kernel
theorem dX1_nodesOfLevel_1 : decode cX1_nodesOfLevel 1 = .ok (.istore_n 2, 1) := by decide +kernel
theorem dX1_nodesOfLevel_2 : decode cX1_nodesOfLevel 2 = .ok (.iconst 0, 1) := by decide +kernel
theorem dX1_nodesOfLevel_3 : decode cX1_nodesOfLevel 3 = .ok (.istore_n 3, 1) := by decide +kernel
theorem dX1_nodesOfLevel_4 : decode cX1_nodesOfLevel 4 = .ok (.iload_n 3, 1) := by decide +kernel
theorem dX1_nodesOfLevel_5 : decode cX1_nodesOfLevel 5 = .ok (.aload_n 0, 1) := by decide +kernel
theorem dX1_nodesOfLevel_6 : decode cX1_nodesOfLevel 6 = .ok (.getfield 9, 3) := by decide +kernel
theorem dX1_nodesOfLevel_9 : decode cX1_nodesOfLevel 9 = .ok (.if_icmp .ge 22, 3) := by decide +kernel
theorem dX1_nodesOfLevel_12 : decode cX1_nodesOfLevel 12 = .ok (.aload_n 0, 1) := by decide +kernel
theorem dX1_nodesOfLevel_13 : decode cX1_nodesOfLevel 13 = .ok (.getfield 25, 3) := by decide +kernel
theorem dX1_nodesOfLevel_16 : decode cX1_nodesOfLevel 16 = .ok (.iload_n 3, 1) := by decide +kernel
theorem dX1_nodesOfLevel_17 : decode cX1_nodesOfLevel 17 = .ok (.iaload, 1) := by decide +kernel
theorem dX1_nodesOfLevel_18 : decode cX1_nodesOfLevel 18 = .ok (.iload_n 1, 1) := by decide +kernel
theorem dX1_nodesOfLevel_19 : decode cX1_nodesOfLevel 19 = .ok (.if_icmp .ne 6, 3) := by decide +kernel
theorem dX1_nodesOfLevel_22 : decode cX1_nodesOfLevel 22 = .ok (.iinc 2 1, 3) := by decide +kernel
theorem dX1_nodesOfLevel_25 : decode cX1_nodesOfLevel 25 = .ok (.iinc 3 1, 3) := by decide +kernel
theorem dX1_nodesOfLevel_28 : decode cX1_nodesOfLevel 28 = .ok (.goto (-24), 3) := by decide +kernel
theorem dX1_nodesOfLevel_31 : decode cX1_nodesOfLevel 31 = .ok (.iload_n 2, 1) := by decide +kernel
theorem dX1_nodesOfLevel_32 : decode cX1_nodesOfLevel 32 = .ok (.ireturn, 1) := by decide +kernel
theorem dX1_drawLevels_0 : decode cX1_drawLevels 0 = .ok (.aload_n 0, 1) := by decide +kernel
theorem dX1_drawLevels_1 : decode cX1_drawLevels 1 = .ok (.iload_n 1, 1) := by decide +kernel
theorem dX1_drawLevels_2 : decode cX1_drawLevels 2 = .ok (.putfield 15, 3) := by decide +kernel
theorem dX1_drawLevels_5 : decode cX1_drawLevels 5 = .ok (.iconst 0, 1) := by decide +kernel
theorem dX1_drawLevels_6 : decode cX1_drawLevels 6 = .ok (.istore_n 2, 1) := by decide +kernel
theorem dX1_drawLevels_7 : decode cX1_drawLevels 7 = .ok (.iload_n 2, 1) := by decide +kernel
theorem dX1_drawLevels_8 : decode cX1_drawLevels 8 = .ok (.aload_n 0, 1) := by decide +kernel
theorem dX1_drawLevels_9 : decode cX1_drawLevels 9 = .ok (.getfield 9, 3) := by decide +kernel
theorem dX1_drawLevels_12 : decode cX1_drawLevels 12 = .ok (.if_icmp .ge 63, 3) := by decide +kernel
theorem dX1_drawLevels_15 : decode cX1_drawLevels 15 = .ok (.aload_n 0, 1) := by decide +kernel
theorem dX1_drawLevels_16 : decode cX1_drawLevels 16 = .ok (.aload_n 0, 1) := by decide +kernel
theorem dX1_drawLevels_17 : decode cX1_drawLevels 17 = .ok (.getfield 15, 3) := by decide +kernel
theorem dX1_drawLevels_20 : decode cX1_drawLevels 20 = .ok (.ldc 39, 2) := by decide +kernel
theorem dX1_drawLevels_22 : decode cX1_drawLevels 22 = .ok (.imul, 1) := by decide +kernel
theorem dX1_drawLevels_23 : decode cX1_drawLevels 23 = .ok (.iconst 1, 1) := by decide +kernel
theorem dX1_drawLevels_24 : decode cX1_drawLevels 24 = .ok (.iadd, 1) := by decide +kernel
theorem dX1_drawLevels_25 : decode cX1_drawLevels 25 = .ok (.putfield 15, 3) := by decide +kernel
theorem dX1_drawLevels_28 : decode cX1_drawLevels 28 = .ok (.aload_n 0, 1) := by decide +kernel
theorem dX1_drawLevels_29 : decode cX1_drawLevels 29 = .ok (.getfield 15, 3) := by decide +kernel
theorem dX1_drawLevels_32 : decode cX1_drawLevels 32 = .ok (.bipush 16, 2) := by decide +kernel
theorem dX1_drawLevels_34 : decode cX1_drawLevels 34 = .ok (.iushr, 1) := by decide +kernel
theorem dX1_drawLevels_35 : decode cX1_drawLevels 35 = .ok (.bipush 8, 2) := by decide +kernel
theorem dX1_drawLevels_37 : decode cX1_drawLevels 37 = .ok (.irem, 1) := by decide +kernel
theorem dX1_drawLevels_38 : decode cX1_drawLevels 38 = .ok (.istore_n 3, 1) := by decide +kernel
theorem dX1_drawLevels_39 : decode cX1_drawLevels 39 = .ok (.iload_n 3, 1) := by decide +kernel
theorem dX1_drawLevels_40 : decode cX1_drawLevels 40 = .ok (.ifCond .ne 13, 3) := by decide +kernel
theorem dX1_drawLevels_43 : decode cX1_drawLevels 43 = .ok (.aload_n 0, 1) := by decide +kernel
theorem dX1_drawLevels_44 : decode cX1_drawLevels 44 = .ok (.getfield 25, 3) := by decide +kernel
theorem dX1_drawLevels_47 : decode cX1_drawLevels 47 = .ok (.iload_n 2, 1) := by decide +kernel
theorem dX1_drawLevels_48 : decode cX1_drawLevels 48 = .ok (.iconst 2, 1) := by decide +kernel
theorem dX1_drawLevels_49 : decode cX1_drawLevels 49 = .ok (.iastore, 1) := by decide +kernel
theorem dX1_drawLevels_50 : decode cX1_drawLevels 50 = .ok (.goto 19, 3) := by decide +kernel
theorem dX1_drawLevels_53 : decode cX1_drawLevels 53 = .ok (.aload_n 0, 1) := by decide +kernel
theorem dX1_drawLevels_54 : decode cX1_drawLevels 54 = .ok (.getfield 25, 3) := by decide +kernel
theorem dX1_drawLevels_57 : decode cX1_drawLevels 57 = .ok (.iload_n 2, 1) := by decide +kernel
theorem dX1_drawLevels_58 : decode cX1_drawLevels 58 = .ok (.iload_n 3, 1) := by decide +kernel
theorem dX1_drawLevels_59 : decode cX1_drawLevels 59 = .ok (.iconst 2, 1) := by decide +kernel
theorem dX1_drawLevels_60 : decode cX1_drawLevels 60 = .ok (.if_icmp .gt 7, 3) := by decide +kernel
theorem dX1_drawLevels_63 : decode cX1_drawLevels 63 = .ok (.iconst 1, 1) := by decide +kernel
theorem dX1_drawLevels_64 : decode cX1_drawLevels 64 = .ok (.goto 4, 3) := by decide +kernel
theorem dX1_drawLevels_67 : decode cX1_drawLevels 67 = .ok (.iconst 0, 1) := by decide +kernel
theorem dX1_drawLevels_68 : decode cX1_drawLevels 68 = .ok (.iastore, 1) := by decide +kernel
theorem dX1_drawLevels_69 : decode cX1_drawLevels 69 = .ok (.iinc 2 1, 3) := by decide +kernel
theorem dX1_drawLevels_72 : decode cX1_drawLevels 72 = .ok (.goto (-65), 3) := by decide +kernel
theorem dX1_drawLevels_75 : decode cX1_drawLevels 75 = .ok (.return_, 1) := by decide +kernel
theorem dX1_startWith_0 : decode cX1_startWith 0 = .ok (.iload_n 1, 1) := by decide +kernel
theorem dX1_startWith_1 : decode cX1_startWith 1 = .ok (.iconst 2, 1) := by decide +kernel
theorem dX1_startWith_2 : decode cX1_startWith 2 = .ok (.if_icmp .lt 9, 3) := by decide +kernel
theorem dX1_startWith_5 : decode cX1_startWith 5 = .ok (.iload_n 1, 1) := by decide +kernel
theorem dX1_startWith_6 : decode cX1_startWith 6 = .ok (.bipush 12, 2) := by decide +kernel
theorem dX1_startWith_8 : decode cX1_startWith 8 = .ok (.if_icmp .le 4, 3) := by decide +kernel
theorem dX1_startWith_11 : decode cX1_startWith 11 = .ok (.return_, 1) := by decide +kernel
theorem dX1_startWith_12 : decode cX1_startWith 12 = .ok (.aload_n 0, 1) := by decide +kernel
theorem dX1_startWith_13 : decode cX1_startWith 13 = .ok (.iload_n 1, 1) := by decide +kernel
theorem dX1_startWith_14 : decode cX1_startWith 14 = .ok (.putfield 9, 3) := by decide +kernel
theorem dX1_startWith_17 : decode cX1_startWith 17 = .ok (.aload_n 0, 1) := by decide +kernel
theorem dX1_startWith_18 : decode cX1_startWith 18 = .ok (.iconst 0, 1) := by decide +kernel
theorem dX1_startWith_19 : decode cX1_startWith 19 = .ok (.putfield 36, 3) := by decide +kernel
theorem dX1_startWith_22 : decode cX1_startWith 22 = .ok (.aload_n 0, 1) := by decide +kernel
theorem dX1_startWith_23 : decode cX1_startWith 23 = .ok (.getfield 21, 3) := by decide +kernel
theorem dX1_startWith_26 : decode cX1_startWith 26 = .ok (.iconst 0, 1) := by decide +kernel
theorem dX1_startWith_27 : decode cX1_startWith 27 = .ok (.invokestatic 40, 3) := by decide +kernel
theorem dX1_startWith_30 : decode cX1_startWith 30 = .ok (.aload_n 0, 1) := by decide +kernel
theorem dX1_startWith_31 : decode cX1_startWith 31 = .ok (.getfield 25, 3) := by decide +kernel
theorem dX1_startWith_34 : decode cX1_startWith 34 = .ok (.iconst 0, 1) := by decide +kernel
theorem dX1_startWith_35 : decode cX1_startWith 35 = .ok (.invokestatic 40, 3) := by decide +kernel
theorem dX1_startWith_38 : decode cX1_startWith 38 = .ok (.aload_n 0, 1) := by decide +kernel
theorem dX1_startWith_39 : decode cX1_startWith 39 = .ok (.dup, 1) := by decide +kernel
theorem dX1_startWith_40 : decode cX1_startWith 40 = .ok (.getfield 18, 3) := by decide +kernel
theorem dX1_startWith_43 : decode cX1_startWith 43 = .ok (.iconst 1, 1) := by decide +kernel
theorem dX1_startWith_44 : decode cX1_startWith 44 = .ok (.iadd, 1) := by decide +kernel
theorem dX1_startWith_45 : decode cX1_startWith 45 = .ok (.putfield 18, 3) := by decide +kernel
theorem dX1_startWith_48 : decode cX1_startWith 48 = .ok (.return_, 1) := by decide +kernel
theorem dX1_copyFrom_0 : decode cX1_copyFrom 0 = .ok (.aload_n 0, 1) := by decide +kernel
theorem dX1_copyFrom_1 : decode cX1_copyFrom 1 = .ok (.aload_n 1, 1) := by decide +kernel
theorem dX1_copyFrom_2 : decode cX1_copyFrom 2 = .ok (.getfield 9, 3) := by decide +kernel
theorem dX1_copyFrom_5 : decode cX1_copyFrom 5 = .ok (.putfield 9, 3) := by decide +kernel
theorem dX1_copyFrom_8 : decode cX1_copyFrom 8 = .ok (.aload_n 0, 1) := by decide +kernel
theorem dX1_copyFrom_9 : decode cX1_copyFrom 9 = .ok (.aload_n 1, 1) := by decide +kernel
theorem dX1_copyFrom_10 : decode cX1_copyFrom 10 = .ok (.getfield 36, 3) := by decide +kernel
theorem dX1_copyFrom_13 : decode cX1_copyFrom 13 = .ok (.putfield 36, 3) := by decide +kernel
theorem dX1_copyFrom_16 : decode cX1_copyFrom 16 = .ok (.aload_n 0, 1) := by decide +kernel
theorem dX1_copyFrom_17 : decode cX1_copyFrom 17 = .ok (.aload_n 1, 1) := by decide +kernel
theorem dX1_copyFrom_18 : decode cX1_copyFrom 18 = .ok (.getfield 15, 3) := by decide +kernel
theorem dX1_copyFrom_21 : decode cX1_copyFrom 21 = .ok (.putfield 15, 3) := by decide +kernel
theorem dX1_copyFrom_24 : decode cX1_copyFrom 24 = .ok (.aload_n 1, 1) := by decide +kernel
theorem dX1_copyFrom_25 : decode cX1_copyFrom 25 = .ok (.getfield 21, 3) := by decide +kernel
theorem dX1_copyFrom_28 : decode cX1_copyFrom 28 = .ok (.iconst 0, 1) := by decide +kernel
theorem dX1_copyFrom_29 : decode cX1_copyFrom 29 = .ok (.aload_n 0, 1) := by decide +kernel
theorem dX1_copyFrom_30 : decode cX1_copyFrom 30 = .ok (.getfield 21, 3) := by decide +kernel
theorem dX1_copyFrom_33 : decode cX1_copyFrom 33 = .ok (.iconst 0, 1) := by decide +kernel
theorem dX1_copyFrom_34 : decode cX1_copyFrom 34 = .ok (.aload_n 0, 1) := by decide +kernel
theorem dX1_copyFrom_35 : decode cX1_copyFrom 35 = .ok (.getfield 21, 3) := by decide +kernel
theorem dX1_copyFrom_38 : decode cX1_copyFrom 38 = .ok (.arraylength, 1) := by decide +kernel
theorem dX1_copyFrom_39 : decode cX1_copyFrom 39 = .ok (.invokestatic 46, 3) := by decide +kernel
theorem dX1_copyFrom_42 : decode cX1_copyFrom 42 = .ok (.aload_n 1, 1) := by decide +kernel
theorem dX1_copyFrom_43 : decode cX1_copyFrom 43 = .ok (.getfield 25, 3) := by decide +kernel
theorem dX1_copyFrom_46 : decode cX1_copyFrom 46 = .ok (.iconst 0, 1) := by decide +kernel
theorem dX1_copyFrom_47 : decode cX1_copyFrom 47 = .ok (.aload_n 0, 1) := by decide +kernel
theorem dX1_copyFrom_48 : decode cX1_copyFrom 48 = .ok (.getfield 25, 3) := by decide +kernel
theorem dX1_copyFrom_51 : decode cX1_copyFrom 51 = .ok (.iconst 0, 1) := by decide +kernel
theorem dX1_copyFrom_52 : decode cX1_copyFrom 52 = .ok (.aload_n 0, 1) := by decide +kernel
theorem dX1_copyFrom_53 : decode cX1_copyFrom 53 = .ok (.getfield 25, 3) := by decide +kernel
theorem dX1_copyFrom_56 : decode cX1_copyFrom 56 = .ok (.arraylength, 1) := by decide +kernel
theorem dX1_copyFrom_57 : decode cX1_copyFrom 57 = .ok (.invokestatic 46, 3) := by decide +kernel
theorem dX1_copyFrom_60 : decode cX1_copyFrom 60 = .ok (.aload_n 0, 1) := by decide +kernel
theorem dX1_copyFrom_61 : decode cX1_copyFrom 61 = .ok (.dup, 1) := by decide +kernel
theorem dX1_copyFrom_62 : decode cX1_copyFrom 62 = .ok (.getfield 18, 3) := by decide +kernel
theorem dX1_copyFrom_65 : decode cX1_copyFrom 65 = .ok (.iconst 1, 1) := by decide +kernel
theorem dX1_copyFrom_66 : decode cX1_copyFrom 66 = .ok (.iadd, 1) := by decide +kernel
theorem dX1_copyFrom_67 : decode cX1_copyFrom 67 = .ok (.putfield 18, 3) := by decide +kernel
theorem dX1_copyFrom_70 : decode cX1_copyFrom 70 = .ok (.return_, 1) := by decide +kernel
theorem dX2_init_0 : decode cX2_init 0 = .ok (.aload_n 0, 1) := by decide +kernel
theorem dX2_init_1 : decode cX2_init 1 = .ok (.invokespecial 3, 3) := by decide +kernel
theorem dX2_init_4 : decode cX2_init 4 = .ok (.aload_n 0, 1) := by decide +kernel
theorem dX2_init_5 : decode cX2_init 5 = .ok (.iconst 3, 1) := by decide +kernel
theorem dX2_init_6 : decode cX2_init 6 = .ok (.newarray .int, 2) := by decide +kernel
theorem dX2_init_8 : decode cX2_init 8 = .ok (.putfield 9, 3) := by decide +kernel
theorem dX2_init_11 : decode cX2_init 11 = .ok (.aload_n 0, 1) := by decide +kernel
theorem dX2_init_12 : decode cX2_init 12 = .ok (.iconst 3, 1) := by decide +kernel
theorem dX2_init_13 : decode cX2_init 13 = .ok (.newarray .int, 2) := by decide +kernel
theorem dX2_init_15 : decode cX2_init 15 = .ok (.putfield 15, 3) := by decide +kernel
theorem dX2_init_18 : decode cX2_init 18 = .ok (.aload_n 0, 1) := by decide +kernel
theorem dX2_init_19 : decode cX2_init 19 = .ok (.bipush 12, 2) := by decide +kernel
theorem dX2_init_21 : decode cX2_init 21 = .ok (.newarray .int, 2) := by decide +kernel
theorem dX2_init_23 : decode cX2_init 23 = .ok (.putfield 18, 3) := by decide +kernel
theorem dX2_init_26 : decode cX2_init 26 = .ok (.return_, 1) := by decide +kernel
theorem dX2_nearestAt_0 : decode cX2_nearestAt 0 = .ok (.iload_n 1, 1) := by decide +kernel
theorem dX2_nearestAt_1 : decode cX2_nearestAt 1 = .ok (.ifCond .lt 17, 3) := by decide +kernel
theorem dX2_nearestAt_4 : decode cX2_nearestAt 4 = .ok (.iload_n 1, 1) := by decide +kernel
theorem dX2_nearestAt_5 : decode cX2_nearestAt 5 = .ok (.iconst 3, 1) := by decide +kernel
theorem dX2_nearestAt_6 : decode cX2_nearestAt 6 = .ok (.if_icmp .ge 12, 3) := by decide +kernel
theorem dX2_nearestAt_9 : decode cX2_nearestAt 9 = .ok (.aload_n 0, 1) := by decide +kernel
theorem dX2_nearestAt_10 : decode cX2_nearestAt 10 = .ok (.getfield 9, 3) := by decide +kernel
theorem dX2_nearestAt_13 : decode cX2_nearestAt 13 = .ok (.iload_n 1, 1) := by decide +kernel
theorem dX2_nearestAt_14 : decode cX2_nearestAt 14 = .ok (.iaload, 1) := by decide +kernel
theorem dX2_nearestAt_15 : decode cX2_nearestAt 15 = .ok (.goto 4, 3) := by decide +kernel
theorem dX2_nearestAt_18 : decode cX2_nearestAt 18 = .ok (.iconst (-1), 1) := by decide +kernel
theorem dX2_nearestAt_19 : decode cX2_nearestAt 19 = .ok (.ireturn, 1) := by decide +kernel
theorem dX2_nearestFarAt_0 : decode cX2_nearestFarAt 0 = .ok (.iload_n 1, 1) := by decide +kernel
theorem dX2_nearestFarAt_1 : decode cX2_nearestFarAt 1 = .ok (.ifCond .lt 17, 3) := by decide +kernel
theorem dX2_nearestFarAt_4 : decode cX2_nearestFarAt 4 = .ok (.iload_n 1, 1) := by decide +kernel
theorem dX2_nearestFarAt_5 : decode cX2_nearestFarAt 5 = .ok (.iconst 3, 1) := by decide +kernel
theorem dX2_nearestFarAt_6 : decode cX2_nearestFarAt 6 = .ok (.if_icmp .ge 12, 3) := by decide +kernel
theorem dX2_nearestFarAt_9 : decode cX2_nearestFarAt 9 = .ok (.aload_n 0, 1) := by decide +kernel
theorem dX2_nearestFarAt_10 : decode cX2_nearestFarAt 10 = .ok (.getfield 15, 3) := by decide +kernel
theorem dX2_nearestFarAt_13 : decode cX2_nearestFarAt 13 = .ok (.iload_n 1, 1) := by decide +kernel
theorem dX2_nearestFarAt_14 : decode cX2_nearestFarAt 14 = .ok (.iaload, 1) := by decide +kernel
theorem dX2_nearestFarAt_15 : decode cX2_nearestFarAt 15 = .ok (.goto 4, 3) := by decide +kernel
theorem dX2_nearestFarAt_18 : decode cX2_nearestFarAt 18 = .ok (.iconst (-1), 1) := by decide +kernel
theorem dX2_nearestFarAt_19 : decode cX2_nearestFarAt 19 = .ok (.ireturn, 1) := by decide +kernel
theorem dX2_holds_0 : decode cX2_holds 0 = .ok (.aload_n 0, 1) := by decide +kernel
theorem dX2_holds_1 : decode cX2_holds 1 = .ok (.iload_n 1, 1) := by decide +kernel
theorem dX2_holds_2 : decode cX2_holds 2 = .ok (.invokevirtual 21, 3) := by decide +kernel
theorem dX2_holds_5 : decode cX2_holds 5 = .ok (.iconst (-1), 1) := by decide +kernel
theorem dX2_holds_6 : decode cX2_holds 6 = .ok (.if_icmp .eq 7, 3) := by decide +kernel
theorem dX2_holds_9 : decode cX2_holds 9 = .ok (.iconst 1, 1) := by decide +kernel
theorem dX2_holds_10 : decode cX2_holds 10 = .ok (.goto 4, 3) := by decide +kernel
theorem dX2_holds_13 : decode cX2_holds 13 = .ok (.iconst 0, 1) := by decide +kernel
theorem dX2_holds_14 : decode cX2_holds 14 = .ok (.ireturn, 1) := by decide +kernel
theorem dX2_farOf_0 : decode cX2_farOf 0 = .ok (.aload_n 0, 1) := by decide +kernel
theorem dX2_farOf_1 : decode cX2_farOf 1 = .ok (.getfield 25, 3) := by decide +kernel
theorem dX2_farOf_4 : decode cX2_farOf 4 = .ok (.ifCond .eq 22, 3) := by decide +kernel
theorem dX2_farOf_7 : decode cX2_farOf 7 = .ok (.iload_n 1, 1) := by decide +kernel
theorem dX2_farOf_8 : decode cX2_farOf 8 = .ok (.ifCond .lt 18, 3) := by decide +kernel
theorem dX2_farOf_11 : decode cX2_farOf 11 = .ok (.iload_n 1, 1) := by decide +kernel
theorem dX2_farOf_12 : decode cX2_farOf 12 = .ok (.bipush 12, 2) := by decide +kernel
theorem dX2_farOf_14 : decode cX2_farOf 14 = .ok (.if_icmp .ge 12, 3) := by decide +kernel
theorem dX2_farOf_17 : decode cX2_farOf 17 = .ok (.aload_n 0, 1) := by decide +kernel
theorem dX2_farOf_18 : decode cX2_farOf 18 = .ok (.getfield 18, 3) := by decide +kernel
theorem dX2_farOf_21 : decode cX2_farOf 21 = .ok (.iload_n 1, 1) := by decide +kernel
theorem dX2_farOf_22 : decode cX2_farOf 22 = .ok (.iaload, 1) := by decide +kernel
theorem dX2_farOf_23 : decode cX2_farOf 23 = .ok (.goto 4, 3) := by decide +kernel
theorem dX2_farOf_26 : decode cX2_farOf 26 = .ok (.iconst (-1), 1) := by decide +kernel
theorem dX2_farOf_27 : decode cX2_farOf 27 = .ok (.ireturn, 1) := by decide +kernel
theorem dX2_write_0 : decode cX2_write 0 = .ok (.aload_n 0, 1) := by decide +kernel
theorem dX2_write_1 : decode cX2_write 1 = .ok (.iconst 1, 1) := by decide +kernel
theorem dX2_write_2 : decode cX2_write 2 = .ok (.putfield 25, 3) := by decide +kernel
theorem dX2_write_5 : decode cX2_write 5 = .ok (.iconst 0, 1) := by decide +kernel
theorem dX2_write_6 : decode cX2_write 6 = .ok (.istore 4, 2) := by decide +kernel
theorem dX2_write_8 : decode cX2_write 8 = .ok (.iload 4, 2) := by decide +kernel
theorem dX2_write_10 : decode cX2_write 10 = .ok (.iconst 3, 1) := by decide +kernel
theorem dX2_write_11 : decode cX2_write 11 = .ok (.if_icmp .ge 18, 3) := by decide +kernel
theorem dX2_write_14 : decode cX2_write 14 = .ok (.aload_n 0, 1) := by decide +kernel
theorem dX2_write_15 : decode cX2_write 15 = .ok (.aload_n 1, 1) := by decide +kernel
theorem dX2_write_16 : decode cX2_write 16 = .ok (.aload_n 2, 1) := by decide +kernel
theorem dX2_write_17 : decode cX2_write 17 = .ok (.iload_n 3, 1) := by decide +kernel
theorem dX2_write_18 : decode cX2_write 18 = .ok (.iload 4, 2) := by decide +kernel
theorem dX2_write_20 : decode cX2_write 20 = .ok (.invokevirtual 29, 3) := by decide +kernel
theorem dX2_write_23 : decode cX2_write 23 = .ok (.iinc 4 1, 3) := by decide +kernel
theorem dX2_write_26 : decode cX2_write 26 = .ok (.goto (-18), 3) := by decide +kernel
theorem dX2_write_29 : decode cX2_write 29 = .ok (.aload_n 0, 1) := by decide +kernel
theorem dX2_write_30 : decode cX2_write 30 = .ok (.iconst 0, 1) := by decide +kernel
theorem dX2_write_31 : decode cX2_write 31 = .ok (.putfield 33, 3) := by decide +kernel
theorem dX2_write_34 : decode cX2_write 34 = .ok (.iconst 0, 1) := by decide +kernel
theorem dX2_write_35 : decode cX2_write 35 = .ok (.istore 4, 2) := by decide +kernel
theorem dX2_write_37 : decode cX2_write 37 = .ok (.iload 4, 2) := by decide +kernel
theorem dX2_write_39 : decode cX2_write 39 = .ok (.bipush 12, 2) := by decide +kernel
theorem dX2_write_41 : decode cX2_write 41 = .ok (.if_icmp .ge 69, 3) := by decide +kernel
theorem dX2_write_44 : decode cX2_write 44 = .ok (.aload_n 0, 1) := by decide +kernel
theorem dX2_write_45 : decode cX2_write 45 = .ok (.getfield 18, 3) := by decide +kernel
theorem dX2_write_48 : decode cX2_write 48 = .ok (.iload 4, 2) := by decide +kernel
theorem dX2_write_50 : decode cX2_write 50 = .ok (.iconst (-1), 1) := by decide +kernel
theorem dX2_write_51 : decode cX2_write 51 = .ok (.iastore, 1) := by decide +kernel
theorem dX2_write_52 : decode cX2_write 52 = .ok (.aload_n 2, 1) := by decide +kernel
theorem dX2_write_53 : decode cX2_write 53 = .ok (.iload_n 3, 1) := by decide +kernel
theorem dX2_write_54 : decode cX2_write 54 = .ok (.iload 4, 2) := by decide +kernel
theorem dX2_write_56 : decode cX2_write 56 = .ok (.invokevirtual 37, 3) := by decide +kernel
theorem dX2_write_59 : decode cX2_write 59 = .ok (.istore 5, 2) := by decide +kernel
theorem dX2_write_61 : decode cX2_write 61 = .ok (.iload 5, 2) := by decide +kernel
theorem dX2_write_63 : decode cX2_write 63 = .ok (.iconst (-1), 1) := by decide +kernel
theorem dX2_write_64 : decode cX2_write 64 = .ok (.if_icmp .eq 40, 3) := by decide +kernel
theorem dX2_write_67 : decode cX2_write 67 = .ok (.aload_n 0, 1) := by decide +kernel
theorem dX2_write_68 : decode cX2_write 68 = .ok (.iload 5, 2) := by decide +kernel
theorem dX2_write_70 : decode cX2_write 70 = .ok (.aload_n 1, 1) := by decide +kernel
theorem dX2_write_71 : decode cX2_write 71 = .ok (.iload 4, 2) := by decide +kernel
theorem dX2_write_73 : decode cX2_write 73 = .ok (.invokevirtual 43, 3) := by decide +kernel
theorem dX2_write_76 : decode cX2_write 76 = .ok (.invokevirtual 48, 3) := by decide +kernel
theorem dX2_write_79 : decode cX2_write 79 = .ok (.ifCond .eq 25, 3) := by decide +kernel
theorem dX2_write_82 : decode cX2_write 82 = .ok (.aload_n 0, 1) := by decide +kernel
theorem dX2_write_83 : decode cX2_write 83 = .ok (.getfield 18, 3) := by decide +kernel
theorem dX2_write_86 : decode cX2_write 86 = .ok (.iload 4, 2) := by decide +kernel
theorem dX2_write_88 : decode cX2_write 88 = .ok (.iload 5, 2) := by decide +kernel
theorem dX2_write_90 : decode cX2_write 90 = .ok (.iastore, 1) := by decide +kernel
theorem dX2_write_91 : decode cX2_write 91 = .ok (.aload_n 0, 1) := by decide +kernel
theorem dX2_write_92 : decode cX2_write 92 = .ok (.dup, 1) := by decide +kernel
theorem dX2_write_93 : decode cX2_write 93 = .ok (.getfield 33, 3) := by decide +kernel
theorem dX2_write_96 : decode cX2_write 96 = .ok (.iconst 1, 1) := by decide +kernel
theorem dX2_write_97 : decode cX2_write 97 = .ok (.iload 4, 2) := by decide +kernel
theorem dX2_write_99 : decode cX2_write 99 = .ok (.ishl, 1) := by decide +kernel
theorem dX2_write_100 : decode cX2_write 100 = .ok (.ior, 1) := by decide +kernel
theorem dX2_write_101 : decode cX2_write 101 = .ok (.putfield 33, 3) := by decide +kernel
theorem dX2_write_104 : decode cX2_write 104 = .ok (.iinc 4 1, 3) := by decide +kernel
theorem dX2_write_107 : decode cX2_write 107 = .ok (.goto (-70), 3) := by decide +kernel
theorem dX2_write_110 : decode cX2_write 110 = .ok (.return_, 1) := by decide +kernel
theorem dX2_findNearest_0 : decode cX2_findNearest 0 = .ok (.aload_n 0, 1) := by decide +kernel
theorem dX2_findNearest_1 : decode cX2_findNearest 1 = .ok (.getfield 9, 3) := by decide +kernel
theorem dX2_findNearest_4 : decode cX2_findNearest 4 = .ok (.iload 4, 2) := by decide +kernel
theorem dX2_findNearest_6 : decode cX2_findNearest 6 = .ok (.iconst (-1), 1) := by decide +kernel
theorem dX2_findNearest_7 : decode cX2_findNearest 7 = .ok (.iastore, 1) := by decide +kernel
theorem dX2_findNearest_8 : decode cX2_findNearest 8 = .ok (.aload_n 0, 1) := by decide +kernel
theorem dX2_findNearest_9 : decode cX2_findNearest 9 = .ok (.getfield 15, 3) := by decide +kernel
theorem dX2_findNearest_12 : decode cX2_findNearest 12 = .ok (.iload 4, 2) := by decide +kernel
theorem dX2_findNearest_14 : decode cX2_findNearest 14 = .ok (.iconst (-1), 1) := by decide +kernel
theorem dX2_findNearest_15 : decode cX2_findNearest 15 = .ok (.iastore, 1) := by decide +kernel
theorem dX2_findNearest_16 : decode cX2_findNearest 16 = .ok (.iconst 0, 1) := by decide +kernel
theorem dX2_findNearest_17 : decode cX2_findNearest 17 = .ok (.istore 5, 2) := by decide +kernel
theorem dX2_findNearest_19 : decode cX2_findNearest 19 = .ok (.iload 5, 2) := by decide +kernel
theorem dX2_findNearest_21 : decode cX2_findNearest 21 = .ok (.aload_n 1, 1) := by decide +kernel
theorem dX2_findNearest_22 : decode cX2_findNearest 22 = .ok (.getfield 52, 3) := by decide +kernel
theorem dX2_findNearest_25 : decode cX2_findNearest 25 = .ok (.if_icmp .ge 79, 3) := by decide +kernel
theorem dX2_findNearest_28 : decode cX2_findNearest 28 = .ok (.aload_n 2, 1) := by decide +kernel
theorem dX2_findNearest_29 : decode cX2_findNearest 29 = .ok (.iload_n 3, 1) := by decide +kernel
theorem dX2_findNearest_30 : decode cX2_findNearest 30 = .ok (.iload 5, 2) := by decide +kernel
theorem dX2_findNearest_32 : decode cX2_findNearest 32 = .ok (.invokevirtual 37, 3) := by decide +kernel
theorem dX2_findNearest_35 : decode cX2_findNearest 35 = .ok (.istore 6, 2) := by decide +kernel
theorem dX2_findNearest_37 : decode cX2_findNearest 37 = .ok (.iload 6, 2) := by decide +kernel
theorem dX2_findNearest_39 : decode cX2_findNearest 39 = .ok (.iconst (-1), 1) := by decide +kernel
theorem dX2_findNearest_40 : decode cX2_findNearest 40 = .ok (.if_icmp .eq 58, 3) := by decide +kernel
theorem dX2_findNearest_43 : decode cX2_findNearest 43 = .ok (.aload_n 1, 1) := by decide +kernel
theorem dX2_findNearest_44 : decode cX2_findNearest 44 = .ok (.iload 5, 2) := by decide +kernel
theorem dX2_findNearest_46 : decode cX2_findNearest 46 = .ok (.invokevirtual 43, 3) := by decide +kernel
theorem dX2_findNearest_49 : decode cX2_findNearest 49 = .ok (.iload 4, 2) := by decide +kernel
theorem dX2_findNearest_51 : decode cX2_findNearest 51 = .ok (.if_icmp .ge 6, 3) := by decide +kernel
theorem dX2_findNearest_54 : decode cX2_findNearest 54 = .ok (.goto 44, 3) := by decide +kernel
theorem dX2_findNearest_57 : decode cX2_findNearest 57 = .ok (.aload_n 0, 1) := by decide +kernel
theorem dX2_findNearest_58 : decode cX2_findNearest 58 = .ok (.getfield 9, 3) := by decide +kernel
theorem dX2_findNearest_61 : decode cX2_findNearest 61 = .ok (.iload 4, 2) := by decide +kernel
theorem dX2_findNearest_63 : decode cX2_findNearest 63 = .ok (.iaload, 1) := by decide +kernel
theorem dX2_findNearest_64 : decode cX2_findNearest 64 = .ok (.iconst (-1), 1) := by decide +kernel
theorem dX2_findNearest_65 : decode cX2_findNearest 65 = .ok (.if_icmp .eq 15, 3) := by decide +kernel
theorem dX2_findNearest_68 : decode cX2_findNearest 68 = .ok (.iload 6, 2) := by decide +kernel
theorem dX2_findNearest_70 : decode cX2_findNearest 70 = .ok (.aload_n 0, 1) := by decide +kernel
theorem dX2_findNearest_71 : decode cX2_findNearest 71 = .ok (.getfield 15, 3) := by decide +kernel
theorem dX2_findNearest_74 : decode cX2_findNearest 74 = .ok (.iload 4, 2) := by decide +kernel
theorem dX2_findNearest_76 : decode cX2_findNearest 76 = .ok (.iaload, 1) := by decide +kernel
theorem dX2_findNearest_77 : decode cX2_findNearest 77 = .ok (.if_icmp .ge 21, 3) := by decide +kernel
theorem dX2_findNearest_80 : decode cX2_findNearest 80 = .ok (.aload_n 0, 1) := by decide +kernel
theorem dX2_findNearest_81 : decode cX2_findNearest 81 = .ok (.getfield 9, 3) := by decide +kernel
theorem dX2_findNearest_84 : decode cX2_findNearest 84 = .ok (.iload 4, 2) := by decide +kernel
theorem dX2_findNearest_86 : decode cX2_findNearest 86 = .ok (.iload 5, 2) := by decide +kernel
theorem dX2_findNearest_88 : decode cX2_findNearest 88 = .ok (.iastore, 1) := by decide +kernel
theorem dX2_findNearest_89 : decode cX2_findNearest 89 = .ok (.aload_n 0, 1) := by decide +kernel
theorem dX2_findNearest_90 : decode cX2_findNearest 90 = .ok (.getfield 15, 3) := by decide +kernel
theorem dX2_findNearest_93 : decode cX2_findNearest 93 = .ok (.iload 4, 2) := by decide +kernel
theorem dX2_findNearest_95 : decode cX2_findNearest 95 = .ok (.iload 6, 2) := by decide +kernel
theorem dX2_findNearest_97 : decode cX2_findNearest 97 = .ok (.iastore, 1) := by decide +kernel
theorem dX2_findNearest_98 : decode cX2_findNearest 98 = .ok (.iinc 5 1, 3) := by decide +kernel
theorem dX2_findNearest_101 : decode cX2_findNearest 101 = .ok (.goto (-82), 3) := by decide +kernel
theorem dX2_findNearest_104 : decode cX2_findNearest 104 = .ok (.return_, 1) := by decide +kernel
theorem dX2_isNear_0 : decode cX2_isNear 0 = .ok (.aload_n 0, 1) := by decide +kernel
theorem dX2_isNear_1 : decode cX2_isNear 1 = .ok (.iload_n 2, 1) := by decide +kernel
theorem dX2_isNear_2 : decode cX2_isNear 2 = .ok (.iconst 1, 1) := by decide +kernel
theorem dX2_isNear_3 : decode cX2_isNear 3 = .ok (.iadd, 1) := by decide +kernel
theorem dX2_isNear_4 : decode cX2_isNear 4 = .ok (.invokevirtual 55, 3) := by decide +kernel
theorem dX2_isNear_7 : decode cX2_isNear 7 = .ok (.istore_n 3, 1) := by decide +kernel
theorem dX2_isNear_8 : decode cX2_isNear 8 = .ok (.iload_n 3, 1) := by decide +kernel
theorem dX2_isNear_9 : decode cX2_isNear 9 = .ok (.iconst (-1), 1) := by decide +kernel
theorem dX2_isNear_10 : decode cX2_isNear 10 = .ok (.if_icmp .eq 8, 3) := by decide +kernel
theorem dX2_isNear_13 : decode cX2_isNear 13 = .ok (.iload_n 1, 1) := by decide +kernel
theorem dX2_isNear_14 : decode cX2_isNear 14 = .ok (.iload_n 3, 1) := by decide +kernel
theorem dX2_isNear_15 : decode cX2_isNear 15 = .ok (.if_icmp .ge 7, 3) := by decide +kernel
theorem dX2_isNear_18 : decode cX2_isNear 18 = .ok (.iconst 1, 1) := by decide +kernel
theorem dX2_isNear_19 : decode cX2_isNear 19 = .ok (.goto 4, 3) := by decide +kernel
theorem dX2_isNear_22 : decode cX2_isNear 22 = .ok (.iconst 0, 1) := by decide +kernel
theorem dX2_isNear_23 : decode cX2_isNear 23 = .ok (.ireturn, 1) := by decide +kernel
theorem dX2_bearsSameAs_0 : decode cX2_bearsSameAs 0 = .ok (.aload_n 0, 1) := by decide +kernel
theorem dX2_bearsSameAs_1 : decode cX2_bearsSameAs 1 = .ok (.getfield 25, 3) := by decide +kernel
theorem dX2_bearsSameAs_4 : decode cX2_bearsSameAs 4 = .ok (.ifCond .eq 10, 3) := by decide +kernel
theorem dX2_bearsSameAs_7 : decode cX2_bearsSameAs 7 = .ok (.aload_n 1, 1) := by decide +kernel
theorem dX2_bearsSameAs_8 : decode cX2_bearsSameAs 8 = .ok (.getfield 25, 3) := by decide +kernel
theorem dX2_bearsSameAs_11 : decode cX2_bearsSameAs 11 = .ok (.ifCond .ne 5, 3) := by decide +kernel
theorem dX2_bearsSameAs_14 : decode cX2_bearsSameAs 14 = .ok (.iconst 0, 1) := by decide +kernel
theorem dX2_bearsSameAs_15 : decode cX2_bearsSameAs 15 = .ok (.ireturn, 1) := by decide +kernel
theorem dX2_bearsSameAs_16 : decode cX2_bearsSameAs 16 = .ok (.iconst 0, 1) := by decide +kernel
theorem dX2_bearsSameAs_17 : decode cX2_bearsSameAs 17 = .ok (.istore_n 2, 1) := by decide +kernel
theorem dX2_bearsSameAs_18 : decode cX2_bearsSameAs 18 = .ok (.iload_n 2, 1) := by decide +kernel
theorem dX2_bearsSameAs_19 : decode cX2_bearsSameAs 19 = .ok (.iconst 3, 1) := by decide +kernel
theorem dX2_bearsSameAs_20 : decode cX2_bearsSameAs 20 = .ok (.if_icmp .ge 41, 3) := by decide +kernel
theorem dX2_bearsSameAs_23 : decode cX2_bearsSameAs 23 = .ok (.aload_n 0, 1) := by decide +kernel
theorem dX2_bearsSameAs_24 : decode cX2_bearsSameAs 24 = .ok (.getfield 9, 3) := by decide +kernel
theorem dX2_bearsSameAs_27 : decode cX2_bearsSameAs 27 = .ok (.iload_n 2, 1) := by decide +kernel
theorem dX2_bearsSameAs_28 : decode cX2_bearsSameAs 28 = .ok (.iaload, 1) := by decide +kernel
theorem dX2_bearsSameAs_29 : decode cX2_bearsSameAs 29 = .ok (.aload_n 1, 1) := by decide +kernel
theorem dX2_bearsSameAs_30 : decode cX2_bearsSameAs 30 = .ok (.getfield 9, 3) := by decide +kernel
theorem dX2_bearsSameAs_33 : decode cX2_bearsSameAs 33 = .ok (.iload_n 2, 1) := by decide +kernel
theorem dX2_bearsSameAs_34 : decode cX2_bearsSameAs 34 = .ok (.iaload, 1) := by decide +kernel
theorem dX2_bearsSameAs_35 : decode cX2_bearsSameAs 35 = .ok (.if_icmp .ne 18, 3) := by decide +kernel
theorem dX2_bearsSameAs_38 : decode cX2_bearsSameAs 38 = .ok (.aload_n 0, 1) := by decide +kernel
theorem dX2_bearsSameAs_39 : decode cX2_bearsSameAs 39 = .ok (.getfield 15, 3) := by decide +kernel
theorem dX2_bearsSameAs_42 : decode cX2_bearsSameAs 42 = .ok (.iload_n 2, 1) := by decide +kernel
theorem dX2_bearsSameAs_43 : decode cX2_bearsSameAs 43 = .ok (.iaload, 1) := by decide +kernel
theorem dX2_bearsSameAs_44 : decode cX2_bearsSameAs 44 = .ok (.aload_n 1, 1) := by decide +kernel
theorem dX2_bearsSameAs_45 : decode cX2_bearsSameAs 45 = .ok (.getfield 15, 3) := by decide +kernel
theorem dX2_bearsSameAs_48 : decode cX2_bearsSameAs 48 = .ok (.iload_n 2, 1) := by decide +kernel
theorem dX2_bearsSameAs_49 : decode cX2_bearsSameAs 49 = .ok (.iaload, 1) := by decide +kernel
theorem dX2_bearsSameAs_50 : decode cX2_bearsSameAs 50 = .ok (.if_icmp .eq 5, 3) := by decide +kernel
theorem dX2_bearsSameAs_53 : decode cX2_bearsSameAs 53 = .ok (.iconst 0, 1) := by decide +kernel
theorem dX2_bearsSameAs_54 : decode cX2_bearsSameAs 54 = .ok (.ireturn, 1) := by decide +kernel
theorem dX2_bearsSameAs_55 : decode cX2_bearsSameAs 55 = .ok (.iinc 2 1, 3) := by decide +kernel
theorem dX2_bearsSameAs_58 : decode cX2_bearsSameAs 58 = .ok (.goto (-40), 3) := by decide +kernel
theorem dX2_bearsSameAs_61 : decode cX2_bearsSameAs 61 = .ok (.iconst 0, 1) := by decide +kernel
theorem dX2_bearsSameAs_62 : decode cX2_bearsSameAs 62 = .ok (.istore_n 2, 1) := by decide +kernel
theorem dX2_bearsSameAs_63 : decode cX2_bearsSameAs 63 = .ok (.iload_n 2, 1) := by decide +kernel
theorem dX2_bearsSameAs_64 : decode cX2_bearsSameAs 64 = .ok (.bipush 12, 2) := by decide +kernel
theorem dX2_bearsSameAs_66 : decode cX2_bearsSameAs 66 = .ok (.if_icmp .ge 26, 3) := by decide +kernel
theorem dX2_bearsSameAs_69 : decode cX2_bearsSameAs 69 = .ok (.aload_n 0, 1) := by decide +kernel
theorem dX2_bearsSameAs_70 : decode cX2_bearsSameAs 70 = .ok (.getfield 18, 3) := by decide +kernel
theorem dX2_bearsSameAs_73 : decode cX2_bearsSameAs 73 = .ok (.iload_n 2, 1) := by decide +kernel
theorem dX2_bearsSameAs_74 : decode cX2_bearsSameAs 74 = .ok (.iaload, 1) := by decide +kernel
theorem dX2_bearsSameAs_75 : decode cX2_bearsSameAs 75 = .ok (.aload_n 1, 1) := by decide +kernel
theorem dX2_bearsSameAs_76 : decode cX2_bearsSameAs 76 = .ok (.getfield 18, 3) := by decide +kernel
theorem dX2_bearsSameAs_79 : decode cX2_bearsSameAs 79 = .ok (.iload_n 2, 1) := by decide +kernel
theorem dX2_bearsSameAs_80 : decode cX2_bearsSameAs 80 = .ok (.iaload, 1) := by decide +kernel
theorem dX2_bearsSameAs_81 : decode cX2_bearsSameAs 81 = .ok (.if_icmp .eq 5, 3) := by decide +kernel
theorem dX2_bearsSameAs_84 : decode cX2_bearsSameAs 84 = .ok (.iconst 0, 1) := by decide +kernel
theorem dX2_bearsSameAs_85 : decode cX2_bearsSameAs 85 = .ok (.ireturn, 1) := by decide +kernel
theorem dX2_bearsSameAs_86 : decode cX2_bearsSameAs 86 = .ok (.iinc 2 1, 3) := by decide +kernel
theorem dX2_bearsSameAs_89 : decode cX2_bearsSameAs 89 = .ok (.goto (-26), 3) := by decide +kernel
theorem dX2_bearsSameAs_92 : decode cX2_bearsSameAs 92 = .ok (.iconst 1, 1) := by decide +kernel
theorem dX2_bearsSameAs_93 : decode cX2_bearsSameAs 93 = .ok (.ireturn, 1) := by decide +kernel
theorem dX2_copyFrom_0 : decode cX2_copyFrom 0 = .ok (.aload_n 0, 1) := by decide +kernel
theorem dX2_copyFrom_1 : decode cX2_copyFrom 1 = .ok (.aload_n 1, 1) := by decide +kernel
theorem dX2_copyFrom_2 : decode cX2_copyFrom 2 = .ok (.getfield 25, 3) := by decide +kernel
theorem dX2_copyFrom_5 : decode cX2_copyFrom 5 = .ok (.putfield 25, 3) := by decide +kernel
theorem dX2_copyFrom_8 : decode cX2_copyFrom 8 = .ok (.aload_n 0, 1) := by decide +kernel
theorem dX2_copyFrom_9 : decode cX2_copyFrom 9 = .ok (.aload_n 1, 1) := by decide +kernel
theorem dX2_copyFrom_10 : decode cX2_copyFrom 10 = .ok (.getfield 33, 3) := by decide +kernel
theorem dX2_copyFrom_13 : decode cX2_copyFrom 13 = .ok (.putfield 33, 3) := by decide +kernel
theorem dX2_copyFrom_16 : decode cX2_copyFrom 16 = .ok (.aload_n 1, 1) := by decide +kernel
theorem dX2_copyFrom_17 : decode cX2_copyFrom 17 = .ok (.getfield 9, 3) := by decide +kernel
theorem dX2_copyFrom_20 : decode cX2_copyFrom 20 = .ok (.iconst 0, 1) := by decide +kernel
theorem dX2_copyFrom_21 : decode cX2_copyFrom 21 = .ok (.aload_n 0, 1) := by decide +kernel
theorem dX2_copyFrom_22 : decode cX2_copyFrom 22 = .ok (.getfield 9, 3) := by decide +kernel
theorem dX2_copyFrom_25 : decode cX2_copyFrom 25 = .ok (.iconst 0, 1) := by decide +kernel
theorem dX2_copyFrom_26 : decode cX2_copyFrom 26 = .ok (.iconst 3, 1) := by decide +kernel
theorem dX2_copyFrom_27 : decode cX2_copyFrom 27 = .ok (.invokestatic 58, 3) := by decide +kernel
theorem dX2_copyFrom_30 : decode cX2_copyFrom 30 = .ok (.aload_n 1, 1) := by decide +kernel
theorem dX2_copyFrom_31 : decode cX2_copyFrom 31 = .ok (.getfield 15, 3) := by decide +kernel
theorem dX2_copyFrom_34 : decode cX2_copyFrom 34 = .ok (.iconst 0, 1) := by decide +kernel
theorem dX2_copyFrom_35 : decode cX2_copyFrom 35 = .ok (.aload_n 0, 1) := by decide +kernel
theorem dX2_copyFrom_36 : decode cX2_copyFrom 36 = .ok (.getfield 15, 3) := by decide +kernel
theorem dX2_copyFrom_39 : decode cX2_copyFrom 39 = .ok (.iconst 0, 1) := by decide +kernel
theorem dX2_copyFrom_40 : decode cX2_copyFrom 40 = .ok (.iconst 3, 1) := by decide +kernel
theorem dX2_copyFrom_41 : decode cX2_copyFrom 41 = .ok (.invokestatic 58, 3) := by decide +kernel
theorem dX2_copyFrom_44 : decode cX2_copyFrom 44 = .ok (.aload_n 1, 1) := by decide +kernel
theorem dX2_copyFrom_45 : decode cX2_copyFrom 45 = .ok (.getfield 18, 3) := by decide +kernel
theorem dX2_copyFrom_48 : decode cX2_copyFrom 48 = .ok (.iconst 0, 1) := by decide +kernel
theorem dX2_copyFrom_49 : decode cX2_copyFrom 49 = .ok (.aload_n 0, 1) := by decide +kernel
theorem dX2_copyFrom_50 : decode cX2_copyFrom 50 = .ok (.getfield 18, 3) := by decide +kernel
theorem dX2_copyFrom_53 : decode cX2_copyFrom 53 = .ok (.iconst 0, 1) := by decide +kernel
theorem dX2_copyFrom_54 : decode cX2_copyFrom 54 = .ok (.bipush 12, 2) := by decide +kernel
theorem dX2_copyFrom_56 : decode cX2_copyFrom 56 = .ok (.invokestatic 58, 3) := by decide +kernel
theorem dX2_copyFrom_59 : decode cX2_copyFrom 59 = .ok (.return_, 1) := by decide +kernel
theorem dX3_init_0 : decode cX3_init 0 = .ok (.aload_n 0, 1) := by decide +kernel
theorem dX3_init_1 : decode cX3_init 1 = .ok (.invokespecial 3, 3) := by decide +kernel
theorem dX3_init_4 : decode cX3_init 4 = .ok (.aload_n 0, 1) := by decide +kernel
theorem dX3_init_5 : decode cX3_init 5 = .ok (.bipush 8, 2) := by decide +kernel
theorem dX3_init_7 : decode cX3_init 7 = .ok (.anewarray 9, 3) := by decide +kernel
theorem dX3_init_10 : decode cX3_init 10 = .ok (.putfield 11, 3) := by decide +kernel
theorem dX3_init_13 : decode cX3_init 13 = .ok (.iconst 0, 1) := by decide +kernel
theorem dX3_init_14 : decode cX3_init 14 = .ok (.istore_n 1, 1) := by decide +kernel
theorem dX3_init_15 : decode cX3_init 15 = .ok (.iload_n 1, 1) := by decide +kernel
theorem dX3_init_16 : decode cX3_init 16 = .ok (.bipush 8, 2) := by decide +kernel
theorem dX3_init_18 : decode cX3_init 18 = .ok (.if_icmp .ge 22, 3) := by decide +kernel
theorem dX3_init_21 : decode cX3_init 21 = .ok (.aload_n 0, 1) := by decide +kernel
theorem dX3_init_22 : decode cX3_init 22 = .ok (.getfield 11, 3) := by decide +kernel
theorem dX3_init_25 : decode cX3_init 25 = .ok (.iload_n 1, 1) := by decide +kernel
theorem dX3_init_26 : decode cX3_init 26 = .ok (.new 9, 3) := by decide +kernel
theorem dX3_init_29 : decode cX3_init 29 = .ok (.dup, 1) := by decide +kernel
theorem dX3_init_30 : decode cX3_init 30 = .ok (.invokespecial 17, 3) := by decide +kernel
theorem dX3_init_33 : decode cX3_init 33 = .ok (.aastore, 1) := by decide +kernel
theorem dX3_init_34 : decode cX3_init 34 = .ok (.iinc 1 1, 3) := by decide +kernel
theorem dX3_init_37 : decode cX3_init 37 = .ok (.goto (-22), 3) := by decide +kernel
theorem dX3_init_40 : decode cX3_init 40 = .ok (.return_, 1) := by decide +kernel
theorem dX3_push_0 : decode cX3_push 0 = .ok (.aload_n 0, 1) := by decide +kernel
theorem dX3_push_1 : decode cX3_push 1 = .ok (.getfield 11, 3) := by decide +kernel
theorem dX3_push_4 : decode cX3_push 4 = .ok (.aload_n 0, 1) := by decide +kernel
theorem dX3_push_5 : decode cX3_push 5 = .ok (.getfield 18, 3) := by decide +kernel
theorem dX3_push_8 : decode cX3_push 8 = .ok (.aaload, 1) := by decide +kernel
theorem dX3_push_9 : decode cX3_push 9 = .ok (.aload_n 1, 1) := by decide +kernel
theorem dX3_push_10 : decode cX3_push 10 = .ok (.invokevirtual 22, 3) := by decide +kernel
theorem dX3_push_13 : decode cX3_push 13 = .ok (.aload_n 0, 1) := by decide +kernel
theorem dX3_push_14 : decode cX3_push 14 = .ok (.aload_n 0, 1) := by decide +kernel
theorem dX3_push_15 : decode cX3_push 15 = .ok (.getfield 18, 3) := by decide +kernel
theorem dX3_push_18 : decode cX3_push 18 = .ok (.iconst 1, 1) := by decide +kernel
theorem dX3_push_19 : decode cX3_push 19 = .ok (.iadd, 1) := by decide +kernel
theorem dX3_push_20 : decode cX3_push 20 = .ok (.bipush 8, 2) := by decide +kernel
theorem dX3_push_22 : decode cX3_push 22 = .ok (.irem, 1) := by decide +kernel
theorem dX3_push_23 : decode cX3_push 23 = .ok (.putfield 18, 3) := by decide +kernel
theorem dX3_push_26 : decode cX3_push 26 = .ok (.aload_n 0, 1) := by decide +kernel
theorem dX3_push_27 : decode cX3_push 27 = .ok (.aload_n 0, 1) := by decide +kernel
theorem dX3_push_28 : decode cX3_push 28 = .ok (.getfield 26, 3) := by decide +kernel
theorem dX3_push_31 : decode cX3_push 31 = .ok (.iconst 1, 1) := by decide +kernel
theorem dX3_push_32 : decode cX3_push 32 = .ok (.iadd, 1) := by decide +kernel
theorem dX3_push_33 : decode cX3_push 33 = .ok (.bipush 8, 2) := by decide +kernel
theorem dX3_push_35 : decode cX3_push 35 = .ok (.invokestatic 29, 3) := by decide +kernel
theorem dX3_push_38 : decode cX3_push 38 = .ok (.putfield 26, 3) := by decide +kernel
theorem dX3_push_41 : decode cX3_push 41 = .ok (.return_, 1) := by decide +kernel
theorem dX3_pop_0 : decode cX3_pop 0 = .ok (.aload_n 0, 1) := by decide +kernel
theorem dX3_pop_1 : decode cX3_pop 1 = .ok (.getfield 26, 3) := by decide +kernel
theorem dX3_pop_4 : decode cX3_pop 4 = .ok (.ifCond .ne 4, 3) := by decide +kernel
theorem dX3_pop_7 : decode cX3_pop 7 = .ok (.return_, 1) := by decide +kernel
theorem dX3_pop_8 : decode cX3_pop 8 = .ok (.aload_n 0, 1) := by decide +kernel
theorem dX3_pop_9 : decode cX3_pop 9 = .ok (.aload_n 0, 1) := by decide +kernel
theorem dX3_pop_10 : decode cX3_pop 10 = .ok (.getfield 18, 3) := by decide +kernel
theorem dX3_pop_13 : decode cX3_pop 13 = .ok (.bipush 8, 2) := by decide +kernel
theorem dX3_pop_15 : decode cX3_pop 15 = .ok (.iadd, 1) := by decide +kernel
theorem dX3_pop_16 : decode cX3_pop 16 = .ok (.iconst 1, 1) := by decide +kernel
theorem dX3_pop_17 : decode cX3_pop 17 = .ok (.isub, 1) := by decide +kernel
theorem dX3_pop_18 : decode cX3_pop 18 = .ok (.bipush 8, 2) := by decide +kernel
theorem dX3_pop_20 : decode cX3_pop 20 = .ok (.irem, 1) := by decide +kernel
theorem dX3_pop_21 : decode cX3_pop 21 = .ok (.putfield 18, 3) := by decide +kernel
theorem dX3_pop_24 : decode cX3_pop 24 = .ok (.aload_n 0, 1) := by decide +kernel
theorem dX3_pop_25 : decode cX3_pop 25 = .ok (.dup, 1) := by decide +kernel
theorem dX3_pop_26 : decode cX3_pop 26 = .ok (.getfield 26, 3) := by decide +kernel
theorem dX3_pop_29 : decode cX3_pop 29 = .ok (.iconst 1, 1) := by decide +kernel
theorem dX3_pop_30 : decode cX3_pop 30 = .ok (.isub, 1) := by decide +kernel
theorem dX3_pop_31 : decode cX3_pop 31 = .ok (.putfield 26, 3) := by decide +kernel
theorem dX3_pop_34 : decode cX3_pop 34 = .ok (.aload_n 1, 1) := by decide +kernel
theorem dX3_pop_35 : decode cX3_pop 35 = .ok (.aload_n 0, 1) := by decide +kernel
theorem dX3_pop_36 : decode cX3_pop 36 = .ok (.getfield 11, 3) := by decide +kernel
theorem dX3_pop_39 : decode cX3_pop 39 = .ok (.aload_n 0, 1) := by decide +kernel
theorem dX3_pop_40 : decode cX3_pop 40 = .ok (.getfield 18, 3) := by decide +kernel
theorem dX3_pop_43 : decode cX3_pop 43 = .ok (.aaload, 1) := by decide +kernel
theorem dX3_pop_44 : decode cX3_pop 44 = .ok (.invokevirtual 22, 3) := by decide +kernel
theorem dX3_pop_47 : decode cX3_pop 47 = .ok (.return_, 1) := by decide +kernel
theorem dX4_init_0 : decode cX4_init 0 = .ok (.aload_n 0, 1) := by decide +kernel
theorem dX4_init_1 : decode cX4_init 1 = .ok (.invokespecial 1, 3) := by decide +kernel
theorem dX4_init_4 : decode cX4_init 4 = .ok (.return_, 1) := by decide +kernel
theorem dX4_clear_0 : decode cX4_clear 0 = .ok (.aload_n 0, 1) := by decide +kernel
theorem dX4_clear_1 : decode cX4_clear 1 = .ok (.iconst 0, 1) := by decide +kernel
theorem dX4_clear_2 : decode cX4_clear 2 = .ok (.putfield 7, 3) := by decide +kernel
theorem dX4_clear_5 : decode cX4_clear 5 = .ok (.return_, 1) := by decide +kernel
theorem dX4_offer_0 : decode cX4_offer 0 = .ok (.aload_n 0, 1) := by decide +kernel
theorem dX4_offer_1 : decode cX4_offer 1 = .ok (.getfield 7, 3) := by decide +kernel
theorem dX4_offer_4 : decode cX4_offer 4 = .ok (.ifCond .eq 18, 3) := by decide +kernel
theorem dX4_offer_7 : decode cX4_offer 7 = .ok (.iload_n 1, 1) := by decide +kernel
theorem dX4_offer_8 : decode cX4_offer 8 = .ok (.aload_n 0, 1) := by decide +kernel
theorem dX4_offer_9 : decode cX4_offer 9 = .ok (.getfield 13, 3) := by decide +kernel
theorem dX4_offer_12 : decode cX4_offer 12 = .ok (.imul, 1) := by decide +kernel
theorem dX4_offer_13 : decode cX4_offer 13 = .ok (.aload_n 0, 1) := by decide +kernel
theorem dX4_offer_14 : decode cX4_offer 14 = .ok (.getfield 16, 3) := by decide +kernel
theorem dX4_offer_17 : decode cX4_offer 17 = .ok (.iload_n 2, 1) := by decide +kernel
theorem dX4_offer_18 : decode cX4_offer 18 = .ok (.imul, 1) := by decide +kernel
theorem dX4_offer_19 : decode cX4_offer 19 = .ok (.if_icmp .le 24, 3) := by decide +kernel
theorem dX4_offer_22 : decode cX4_offer 22 = .ok (.aload_n 0, 1) := by decide +kernel
theorem dX4_offer_23 : decode cX4_offer 23 = .ok (.iload_n 1, 1) := by decide +kernel
theorem dX4_offer_24 : decode cX4_offer 24 = .ok (.putfield 16, 3) := by decide +kernel
theorem dX4_offer_27 : decode cX4_offer 27 = .ok (.aload_n 0, 1) := by decide +kernel
theorem dX4_offer_28 : decode cX4_offer 28 = .ok (.iload_n 2, 1) := by decide +kernel
theorem dX4_offer_29 : decode cX4_offer 29 = .ok (.putfield 13, 3) := by decide +kernel
theorem dX4_offer_32 : decode cX4_offer 32 = .ok (.aload_n 0, 1) := by decide +kernel
theorem dX4_offer_33 : decode cX4_offer 33 = .ok (.iload_n 3, 1) := by decide +kernel
theorem dX4_offer_34 : decode cX4_offer 34 = .ok (.putfield 19, 3) := by decide +kernel
theorem dX4_offer_37 : decode cX4_offer 37 = .ok (.aload_n 0, 1) := by decide +kernel
theorem dX4_offer_38 : decode cX4_offer 38 = .ok (.iload 4, 2) := by decide +kernel
theorem dX4_offer_40 : decode cX4_offer 40 = .ok (.putfield 22, 3) := by decide +kernel
theorem dX4_offer_43 : decode cX4_offer 43 = .ok (.aload_n 0, 1) := by decide +kernel
theorem dX4_offer_44 : decode cX4_offer 44 = .ok (.dup, 1) := by decide +kernel
theorem dX4_offer_45 : decode cX4_offer 45 = .ok (.getfield 7, 3) := by decide +kernel
theorem dX4_offer_48 : decode cX4_offer 48 = .ok (.iconst 1, 1) := by decide +kernel
theorem dX4_offer_49 : decode cX4_offer 49 = .ok (.iadd, 1) := by decide +kernel
theorem dX4_offer_50 : decode cX4_offer 50 = .ok (.putfield 7, 3) := by decide +kernel
theorem dX4_offer_53 : decode cX4_offer 53 = .ok (.return_, 1) := by decide +kernel
theorem dX5_init_0 : decode cX5_init 0 = .ok (.aload_n 0, 1) := by decide +kernel
theorem dX5_init_1 : decode cX5_init 1 = .ok (.invokespecial 1, 3) := by decide +kernel
theorem dX5_init_4 : decode cX5_init 4 = .ok (.aload_n 0, 1) := by decide +kernel
theorem dX5_init_5 : decode cX5_init 5 = .ok (.new 7, 3) := by decide +kernel
theorem dX5_init_8 : decode cX5_init 8 = .ok (.dup, 1) := by decide +kernel
theorem dX5_init_9 : decode cX5_init 9 = .ok (.invokespecial 9, 3) := by decide +kernel
theorem dX5_init_12 : decode cX5_init 12 = .ok (.putfield 10, 3) := by decide +kernel
theorem dX5_init_15 : decode cX5_init 15 = .ok (.aload_n 0, 1) := by decide +kernel
theorem dX5_init_16 : decode cX5_init 16 = .ok (.invokestatic 16, 3) := by decide +kernel
theorem dX5_init_19 : decode cX5_init 19 = .ok (.putfield 22, 3) := by decide +kernel
theorem dX5_init_22 : decode cX5_init 22 = .ok (.return_, 1) := by decide +kernel
theorem dX6_init_0 : decode cX6_init 0 = .ok (.aload_n 0, 1) := by decide +kernel
theorem dX6_init_1 : decode cX6_init 1 = .ok (.invokespecial 3, 3) := by decide +kernel
theorem dX6_init_4 : decode cX6_init 4 = .ok (.return_, 1) := by decide +kernel
theorem dX6_tell_0 : decode cX6_tell 0 = .ok (.iload_n 2, 1) := by decide +kernel
theorem dX6_tell_1 : decode cX6_tell 1 = .ok (.istore 4, 2) := by decide +kernel
theorem dX6_tell_3 : decode cX6_tell 3 = .ok (.iload_n 3, 1) := by decide +kernel
theorem dX6_tell_4 : decode cX6_tell 4 = .ok (.istore 5, 2) := by decide +kernel
theorem dX6_tell_6 : decode cX6_tell 6 = .ok (.iconst 0, 1) := by decide +kernel
theorem dX6_tell_7 : decode cX6_tell 7 = .ok (.istore 6, 2) := by decide +kernel
theorem dX6_tell_9 : decode cX6_tell 9 = .ok (.iload 6, 2) := by decide +kernel
theorem dX6_tell_11 : decode cX6_tell 11 = .ok (.iconst 3, 1) := by decide +kernel
theorem dX6_tell_12 : decode cX6_tell 12 = .ok (.if_icmp .ge 49, 3) := by decide +kernel
theorem dX6_tell_15 : decode cX6_tell 15 = .ok (.aload_n 0, 1) := by decide +kernel
theorem dX6_tell_16 : decode cX6_tell 16 = .ok (.iload 6, 2) := by decide +kernel
theorem dX6_tell_18 : decode cX6_tell 18 = .ok (.putfield 9, 3) := by decide +kernel
theorem dX6_tell_21 : decode cX6_tell 21 = .ok (.aload_n 0, 1) := by decide +kernel
theorem dX6_tell_22 : decode cX6_tell 22 = .ok (.aload_n 0, 1) := by decide +kernel
theorem dX6_tell_23 : decode cX6_tell 23 = .ok (.aload_n 1, 1) := by decide +kernel
theorem dX6_tell_24 : decode cX6_tell 24 = .ok (.iload 4, 2) := by decide +kernel
theorem dX6_tell_26 : decode cX6_tell 26 = .ok (.iload 5, 2) := by decide +kernel
theorem dX6_tell_28 : decode cX6_tell 28 = .ok (.invokevirtual 15, 3) := by decide +kernel
theorem dX6_tell_31 : decode cX6_tell 31 = .ok (.putfield 19, 3) := by decide +kernel
theorem dX6_tell_34 : decode cX6_tell 34 = .ok (.aload_n 0, 1) := by decide +kernel
theorem dX6_tell_35 : decode cX6_tell 35 = .ok (.getfield 19, 3) := by decide +kernel
theorem dX6_tell_38 : decode cX6_tell 38 = .ok (.iconst 3, 1) := by decide +kernel
theorem dX6_tell_39 : decode cX6_tell 39 = .ok (.if_icmp .eq 4, 3) := by decide +kernel
theorem dX6_tell_42 : decode cX6_tell 42 = .ok (.return_, 1) := by decide +kernel
theorem dX6_tell_43 : decode cX6_tell 43 = .ok (.iload 4, 2) := by decide +kernel
theorem dX6_tell_45 : decode cX6_tell 45 = .ok (.istore 7, 2) := by decide +kernel
theorem dX6_tell_47 : decode cX6_tell 47 = .ok (.iload 5, 2) := by decide +kernel
theorem dX6_tell_49 : decode cX6_tell 49 = .ok (.istore 4, 2) := by decide +kernel
theorem dX6_tell_51 : decode cX6_tell 51 = .ok (.iload 7, 2) := by decide +kernel
theorem dX6_tell_53 : decode cX6_tell 53 = .ok (.istore 5, 2) := by decide +kernel
theorem dX6_tell_55 : decode cX6_tell 55 = .ok (.iinc 6 1, 3) := by decide +kernel
theorem dX6_tell_58 : decode cX6_tell 58 = .ok (.goto (-49), 3) := by decide +kernel
theorem dX6_tell_61 : decode cX6_tell 61 = .ok (.return_, 1) := by decide +kernel
theorem dX6_look_0 : decode cX6_look 0 = .ok (.aload_n 0, 1) := by decide +kernel
theorem dX6_look_1 : decode cX6_look 1 = .ok (.iload_n 2, 1) := by decide +kernel
theorem dX6_look_2 : decode cX6_look 2 = .ok (.putfield 22, 3) := by decide +kernel
theorem dX6_look_5 : decode cX6_look 5 = .ok (.aload_n 1, 1) := by decide +kernel
theorem dX6_look_6 : decode cX6_look 6 = .ok (.iload_n 2, 1) := by decide +kernel
theorem dX6_look_7 : decode cX6_look 7 = .ok (.aaload, 1) := by decide +kernel
theorem dX6_look_8 : decode cX6_look 8 = .ok (.getfield 25, 3) := by decide +kernel
theorem dX6_look_11 : decode cX6_look 11 = .ok (.ifCond .ne 5, 3) := by decide +kernel
theorem dX6_look_14 : decode cX6_look 14 = .ok (.iconst 1, 1) := by decide +kernel
theorem dX6_look_15 : decode cX6_look 15 = .ok (.ireturn, 1) := by decide +kernel
theorem dX6_look_16 : decode cX6_look 16 = .ok (.aload_n 0, 1) := by decide +kernel
theorem dX6_look_17 : decode cX6_look 17 = .ok (.aload_n 1, 1) := by decide +kernel
theorem dX6_look_18 : decode cX6_look 18 = .ok (.iload_n 2, 1) := by decide +kernel
theorem dX6_look_19 : decode cX6_look 19 = .ok (.aaload, 1) := by decide +kernel
theorem dX6_look_20 : decode cX6_look 20 = .ok (.aload_n 0, 1) := by decide +kernel
theorem dX6_look_21 : decode cX6_look 21 = .ok (.getfield 9, 3) := by decide +kernel
theorem dX6_look_24 : decode cX6_look 24 = .ok (.invokevirtual 31, 3) := by decide +kernel
theorem dX6_look_27 : decode cX6_look 27 = .ok (.putfield 35, 3) := by decide +kernel
theorem dX6_look_30 : decode cX6_look 30 = .ok (.aload_n 0, 1) := by decide +kernel
theorem dX6_look_31 : decode cX6_look 31 = .ok (.getfield 35, 3) := by decide +kernel
theorem dX6_look_34 : decode cX6_look 34 = .ok (.iconst (-1), 1) := by decide +kernel
theorem dX6_look_35 : decode cX6_look 35 = .ok (.if_icmp .ne 5, 3) := by decide +kernel
theorem dX6_look_38 : decode cX6_look 38 = .ok (.iconst 2, 1) := by decide +kernel
theorem dX6_look_39 : decode cX6_look 39 = .ok (.ireturn, 1) := by decide +kernel
theorem dX6_look_40 : decode cX6_look 40 = .ok (.aload_n 0, 1) := by decide +kernel
theorem dX6_look_41 : decode cX6_look 41 = .ok (.iload_n 3, 1) := by decide +kernel
theorem dX6_look_42 : decode cX6_look 42 = .ok (.putfield 22, 3) := by decide +kernel
theorem dX6_look_45 : decode cX6_look 45 = .ok (.aload_n 1, 1) := by decide +kernel
theorem dX6_look_46 : decode cX6_look 46 = .ok (.iload_n 3, 1) := by decide +kernel
theorem dX6_look_47 : decode cX6_look 47 = .ok (.aaload, 1) := by decide +kernel
theorem dX6_look_48 : decode cX6_look 48 = .ok (.getfield 25, 3) := by decide +kernel
theorem dX6_look_51 : decode cX6_look 51 = .ok (.ifCond .ne 5, 3) := by decide +kernel
theorem dX6_look_54 : decode cX6_look 54 = .ok (.iconst 1, 1) := by decide +kernel
theorem dX6_look_55 : decode cX6_look 55 = .ok (.ireturn, 1) := by decide +kernel
theorem dX6_look_56 : decode cX6_look 56 = .ok (.aload_n 1, 1) := by decide +kernel
theorem dX6_look_57 : decode cX6_look 57 = .ok (.iload_n 3, 1) := by decide +kernel
theorem dX6_look_58 : decode cX6_look 58 = .ok (.aaload, 1) := by decide +kernel
theorem dX6_look_59 : decode cX6_look 59 = .ok (.aload_n 0, 1) := by decide +kernel
theorem dX6_look_60 : decode cX6_look 60 = .ok (.getfield 35, 3) := by decide +kernel
theorem dX6_look_63 : decode cX6_look 63 = .ok (.invokevirtual 38, 3) := by decide +kernel
theorem dX6_look_66 : decode cX6_look 66 = .ok (.ifCond .ne 5, 3) := by decide +kernel
theorem dX6_look_69 : decode cX6_look 69 = .ok (.iconst 3, 1) := by decide +kernel
theorem dX6_look_70 : decode cX6_look 70 = .ok (.ireturn, 1) := by decide +kernel
theorem dX6_look_71 : decode cX6_look 71 = .ok (.aload_n 0, 1) := by decide +kernel
theorem dX6_look_72 : decode cX6_look 72 = .ok (.aload_n 1, 1) := by decide +kernel
theorem dX6_look_73 : decode cX6_look 73 = .ok (.iload_n 2, 1) := by decide +kernel
theorem dX6_look_74 : decode cX6_look 74 = .ok (.aaload, 1) := by decide +kernel
theorem dX6_look_75 : decode cX6_look 75 = .ok (.aload_n 0, 1) := by decide +kernel
theorem dX6_look_76 : decode cX6_look 76 = .ok (.getfield 9, 3) := by decide +kernel
theorem dX6_look_79 : decode cX6_look 79 = .ok (.invokevirtual 42, 3) := by decide +kernel
theorem dX6_look_82 : decode cX6_look 82 = .ok (.aload_n 1, 1) := by decide +kernel
theorem dX6_look_83 : decode cX6_look 83 = .ok (.iload_n 3, 1) := by decide +kernel
theorem dX6_look_84 : decode cX6_look 84 = .ok (.aaload, 1) := by decide +kernel
theorem dX6_look_85 : decode cX6_look 85 = .ok (.aload_n 0, 1) := by decide +kernel
