theorem dX6_look_86 : decode cX6_look 86 = .ok (.getfield 35, 3) := by decide +kernel
theorem dX6_look_89 : decode cX6_look 89 = .ok (.invokevirtual 45, 3) := by decide +kernel
theorem dX6_look_92 : decode cX6_look 92 = .ok (.iadd, 1) := by decide +kernel
theorem dX6_look_93 : decode cX6_look 93 = .ok (.putfield 48, 3) := by decide +kernel
theorem dX6_look_96 : decode cX6_look 96 = .ok (.iconst 0, 1) := by decide +kernel
theorem dX6_look_97 : decode cX6_look 97 = .ok (.ireturn, 1) := by decide +kernel
theorem dX7_init_0 : decode cX7_init 0 = .ok (.aload_n 0, 1) := by decide +kernel
theorem dX7_init_1 : decode cX7_init 1 = .ok (.invokespecial 3, 3) := by decide +kernel
theorem dX7_init_4 : decode cX7_init 4 = .ok (.aload_n 0, 1) := by decide +kernel
theorem dX7_init_5 : decode cX7_init 5 = .ok (.sipush 200, 3) := by decide +kernel
theorem dX7_init_8 : decode cX7_init 8 = .ok (.newarray .int, 2) := by decide +kernel
theorem dX7_init_10 : decode cX7_init 10 = .ok (.putfield 9, 3) := by decide +kernel
theorem dX7_init_13 : decode cX7_init 13 = .ok (.return_, 1) := by decide +kernel
theorem dX7_append_0 : decode cX7_append 0 = .ok (.aload_n 0, 1) := by decide +kernel
theorem dX7_append_1 : decode cX7_append 1 = .ok (.getfield 15, 3) := by decide +kernel
theorem dX7_append_4 : decode cX7_append 4 = .ok (.sipush 200, 3) := by decide +kernel
theorem dX7_append_7 : decode cX7_append 7 = .ok (.if_icmp .ge 23, 3) := by decide +kernel
theorem dX7_append_10 : decode cX7_append 10 = .ok (.aload_n 0, 1) := by decide +kernel
theorem dX7_append_11 : decode cX7_append 11 = .ok (.getfield 9, 3) := by decide +kernel
theorem dX7_append_14 : decode cX7_append 14 = .ok (.aload_n 0, 1) := by decide +kernel
theorem dX7_append_15 : decode cX7_append 15 = .ok (.getfield 15, 3) := by decide +kernel
theorem dX7_append_18 : decode cX7_append 18 = .ok (.iload_n 1, 1) := by decide +kernel
theorem dX7_append_19 : decode cX7_append 19 = .ok (.iastore, 1) := by decide +kernel
theorem dX7_append_20 : decode cX7_append 20 = .ok (.aload_n 0, 1) := by decide +kernel
theorem dX7_append_21 : decode cX7_append 21 = .ok (.dup, 1) := by decide +kernel
theorem dX7_append_22 : decode cX7_append 22 = .ok (.getfield 15, 3) := by decide +kernel
theorem dX7_append_25 : decode cX7_append 25 = .ok (.iconst 1, 1) := by decide +kernel
theorem dX7_append_26 : decode cX7_append 26 = .ok (.iadd, 1) := by decide +kernel
theorem dX7_append_27 : decode cX7_append 27 = .ok (.putfield 15, 3) := by decide +kernel
theorem dX7_append_30 : decode cX7_append 30 = .ok (.return_, 1) := by decide +kernel
theorem dX7_readInto_0 : decode cX7_readInto 0 = .ok (.aload_n 0, 1) := by decide +kernel
theorem dX7_readInto_1 : decode cX7_readInto 1 = .ok (.iconst 0, 1) := by decide +kernel
theorem dX7_readInto_2 : decode cX7_readInto 2 = .ok (.putfield 19, 3) := by decide +kernel
theorem dX7_readInto_5 : decode cX7_readInto 5 = .ok (.aload_n 0, 1) := by decide +kernel
theorem dX7_readInto_6 : decode cX7_readInto 6 = .ok (.iconst 0, 1) := by decide +kernel
theorem dX7_readInto_7 : decode cX7_readInto 7 = .ok (.putfield 22, 3) := by decide +kernel
theorem dX7_readInto_10 : decode cX7_readInto 10 = .ok (.aload_n 0, 1) := by decide +kernel
theorem dX7_readInto_11 : decode cX7_readInto 11 = .ok (.iconst 0, 1) := by decide +kernel
theorem dX7_readInto_12 : decode cX7_readInto 12 = .ok (.putfield 26, 3) := by decide +kernel
theorem dX7_readInto_15 : decode cX7_readInto 15 = .ok (.aload_n 0, 1) := by decide +kernel
theorem dX7_readInto_16 : decode cX7_readInto 16 = .ok (.invokevirtual 29, 3) := by decide +kernel
theorem dX7_readInto_19 : decode cX7_readInto 19 = .ok (.iconst 0, 1) := by decide +kernel
theorem dX7_readInto_20 : decode cX7_readInto 20 = .ok (.istore_n 2, 1) := by decide +kernel
theorem dX7_readInto_21 : decode cX7_readInto 21 = .ok (.iload_n 2, 1) := by decide +kernel
theorem dX7_readInto_22 : decode cX7_readInto 22 = .ok (.bipush 24, 2) := by decide +kernel
theorem dX7_readInto_24 : decode cX7_readInto 24 = .ok (.if_icmp .ge 67, 3) := by decide +kernel
theorem dX7_readInto_27 : decode cX7_readInto 27 = .ok (.aload_n 0, 1) := by decide +kernel
theorem dX7_readInto_28 : decode cX7_readInto 28 = .ok (.aload_n 1, 1) := by decide +kernel
theorem dX7_readInto_29 : decode cX7_readInto 29 = .ok (.invokevirtual 32, 3) := by decide +kernel
theorem dX7_readInto_32 : decode cX7_readInto 32 = .ok (.ifCond .ne 8, 3) := by decide +kernel
theorem dX7_readInto_35 : decode cX7_readInto 35 = .ok (.aload_n 0, 1) := by decide +kernel
theorem dX7_readInto_36 : decode cX7_readInto 36 = .ok (.getfield 36, 3) := by decide +kernel
theorem dX7_readInto_39 : decode cX7_readInto 39 = .ok (.ireturn, 1) := by decide +kernel
theorem dX7_readInto_40 : decode cX7_readInto 40 = .ok (.aload_n 0, 1) := by decide +kernel
theorem dX7_readInto_41 : decode cX7_readInto 41 = .ok (.dup, 1) := by decide +kernel
theorem dX7_readInto_42 : decode cX7_readInto 42 = .ok (.getfield 19, 3) := by decide +kernel
theorem dX7_readInto_45 : decode cX7_readInto 45 = .ok (.iconst 1, 1) := by decide +kernel
theorem dX7_readInto_46 : decode cX7_readInto 46 = .ok (.iadd, 1) := by decide +kernel
theorem dX7_readInto_47 : decode cX7_readInto 47 = .ok (.putfield 19, 3) := by decide +kernel
theorem dX7_readInto_50 : decode cX7_readInto 50 = .ok (.aload_n 0, 1) := by decide +kernel
theorem dX7_readInto_51 : decode cX7_readInto 51 = .ok (.getfield 39, 3) := by decide +kernel
theorem dX7_readInto_54 : decode cX7_readInto 54 = .ok (.iconst 4, 1) := by decide +kernel
theorem dX7_readInto_55 : decode cX7_readInto 55 = .ok (.if_icmp .ne 5, 3) := by decide +kernel
theorem dX7_readInto_58 : decode cX7_readInto 58 = .ok (.iconst (-1), 1) := by decide +kernel
theorem dX7_readInto_59 : decode cX7_readInto 59 = .ok (.ireturn, 1) := by decide +kernel
theorem dX7_readInto_60 : decode cX7_readInto 60 = .ok (.aload_n 0, 1) := by decide +kernel
theorem dX7_readInto_61 : decode cX7_readInto 61 = .ok (.invokevirtual 42, 3) := by decide +kernel
theorem dX7_readInto_64 : decode cX7_readInto 64 = .ok (.ifCond .eq 12, 3) := by decide +kernel
theorem dX7_readInto_67 : decode cX7_readInto 67 = .ok (.aload_n 0, 1) := by decide +kernel
theorem dX7_readInto_68 : decode cX7_readInto 68 = .ok (.getfield 19, 3) := by decide +kernel
theorem dX7_readInto_71 : decode cX7_readInto 71 = .ok (.bipush 24, 2) := by decide +kernel
theorem dX7_readInto_73 : decode cX7_readInto 73 = .ok (.if_icmp .ne 8, 3) := by decide +kernel
theorem dX7_readInto_76 : decode cX7_readInto 76 = .ok (.aload_n 0, 1) := by decide +kernel
theorem dX7_readInto_77 : decode cX7_readInto 77 = .ok (.getfield 36, 3) := by decide +kernel
theorem dX7_readInto_80 : decode cX7_readInto 80 = .ok (.ireturn, 1) := by decide +kernel
theorem dX7_readInto_81 : decode cX7_readInto 81 = .ok (.aload_n 0, 1) := by decide +kernel
theorem dX7_readInto_82 : decode cX7_readInto 82 = .ok (.invokevirtual 29, 3) := by decide +kernel
theorem dX7_readInto_85 : decode cX7_readInto 85 = .ok (.iinc 2 1, 3) := by decide +kernel
theorem dX7_readInto_88 : decode cX7_readInto 88 = .ok (.goto (-67), 3) := by decide +kernel
theorem dX7_readInto_91 : decode cX7_readInto 91 = .ok (.aload_n 0, 1) := by decide +kernel
theorem dX7_readInto_92 : decode cX7_readInto 92 = .ok (.getfield 36, 3) := by decide +kernel
theorem dX7_readInto_95 : decode cX7_readInto 95 = .ok (.ireturn, 1) := by decide +kernel
theorem dX7_readClause_0 : decode cX7_readClause 0 = .ok (.aload_n 0, 1) := by decide +kernel
theorem dX7_readClause_1 : decode cX7_readClause 1 = .ok (.ldc 46, 2) := by decide +kernel
theorem dX7_readClause_3 : decode cX7_readClause 3 = .ok (.invokevirtual 48, 3) := by decide +kernel
theorem dX7_readClause_6 : decode cX7_readClause 6 = .ok (.ifCond .eq 9, 3) := by decide +kernel
theorem dX7_readClause_9 : decode cX7_readClause 9 = .ok (.aload_n 0, 1) := by decide +kernel
theorem dX7_readClause_10 : decode cX7_readClause 10 = .ok (.aload_n 1, 1) := by decide +kernel
theorem dX7_readClause_11 : decode cX7_readClause 11 = .ok (.invokevirtual 52, 3) := by decide +kernel
theorem dX7_readClause_14 : decode cX7_readClause 14 = .ok (.ireturn, 1) := by decide +kernel
theorem dX7_readClause_15 : decode cX7_readClause 15 = .ok (.aload_n 0, 1) := by decide +kernel
theorem dX7_readClause_16 : decode cX7_readClause 16 = .ok (.ldc 55, 2) := by decide +kernel
theorem dX7_readClause_18 : decode cX7_readClause 18 = .ok (.invokevirtual 48, 3) := by decide +kernel
theorem dX7_readClause_21 : decode cX7_readClause 21 = .ok (.ifCond .eq 9, 3) := by decide +kernel
theorem dX7_readClause_24 : decode cX7_readClause 24 = .ok (.aload_n 0, 1) := by decide +kernel
theorem dX7_readClause_25 : decode cX7_readClause 25 = .ok (.aload_n 1, 1) := by decide +kernel
theorem dX7_readClause_26 : decode cX7_readClause 26 = .ok (.invokevirtual 57, 3) := by decide +kernel
theorem dX7_readClause_29 : decode cX7_readClause 29 = .ok (.ireturn, 1) := by decide +kernel
theorem dX7_readClause_30 : decode cX7_readClause 30 = .ok (.aload_n 0, 1) := by decide +kernel
theorem dX7_readClause_31 : decode cX7_readClause 31 = .ok (.ldc 60, 2) := by decide +kernel
theorem dX7_readClause_33 : decode cX7_readClause 33 = .ok (.invokevirtual 48, 3) := by decide +kernel
theorem dX7_readClause_36 : decode cX7_readClause 36 = .ok (.ifCond .eq 15, 3) := by decide +kernel
theorem dX7_readClause_39 : decode cX7_readClause 39 = .ok (.aload_n 0, 1) := by decide +kernel
theorem dX7_readClause_40 : decode cX7_readClause 40 = .ok (.aload_n 1, 1) := by decide +kernel
theorem dX7_readClause_41 : decode cX7_readClause 41 = .ok (.invokevirtual 62, 3) := by decide +kernel
theorem dX7_readClause_44 : decode cX7_readClause 44 = .ok (.ifCond .eq 7, 3) := by decide +kernel
theorem dX7_readClause_47 : decode cX7_readClause 47 = .ok (.iconst 1, 1) := by decide +kernel
theorem dX7_readClause_48 : decode cX7_readClause 48 = .ok (.goto 4, 3) := by decide +kernel
theorem dX7_readClause_51 : decode cX7_readClause 51 = .ok (.iconst 0, 1) := by decide +kernel
theorem dX7_readClause_52 : decode cX7_readClause 52 = .ok (.ireturn, 1) := by decide +kernel
theorem dX7_readNet_0 : decode cX7_readNet 0 = .ok (.aload_n 0, 1) := by decide +kernel
theorem dX7_readNet_1 : decode cX7_readNet 1 = .ok (.invokevirtual 29, 3) := by decide +kernel
theorem dX7_readNet_4 : decode cX7_readNet 4 = .ok (.aload_n 0, 1) := by decide +kernel
theorem dX7_readNet_5 : decode cX7_readNet 5 = .ok (.iconst 2, 1) := by decide +kernel
theorem dX7_readNet_6 : decode cX7_readNet 6 = .ok (.bipush 12, 2) := by decide +kernel
theorem dX7_readNet_8 : decode cX7_readNet 8 = .ok (.invokevirtual 65, 3) := by decide +kernel
theorem dX7_readNet_11 : decode cX7_readNet 11 = .ok (.istore_n 2, 1) := by decide +kernel
theorem dX7_readNet_12 : decode cX7_readNet 12 = .ok (.iload_n 2, 1) := by decide +kernel
theorem dX7_readNet_13 : decode cX7_readNet 13 = .ok (.iconst (-1), 1) := by decide +kernel
theorem dX7_readNet_14 : decode cX7_readNet 14 = .ok (.if_icmp .ne 5, 3) := by decide +kernel
theorem dX7_readNet_17 : decode cX7_readNet 17 = .ok (.iconst 0, 1) := by decide +kernel
theorem dX7_readNet_18 : decode cX7_readNet 18 = .ok (.ireturn, 1) := by decide +kernel
theorem dX7_readNet_19 : decode cX7_readNet 19 = .ok (.aload_n 1, 1) := by decide +kernel
theorem dX7_readNet_20 : decode cX7_readNet 20 = .ok (.iload_n 2, 1) := by decide +kernel
theorem dX7_readNet_21 : decode cX7_readNet 21 = .ok (.invokevirtual 69, 3) := by decide +kernel
theorem dX7_readNet_24 : decode cX7_readNet 24 = .ok (.aload_n 0, 1) := by decide +kernel
theorem dX7_readNet_25 : decode cX7_readNet 25 = .ok (.iconst 1, 1) := by decide +kernel
theorem dX7_readNet_26 : decode cX7_readNet 26 = .ok (.putfield 22, 3) := by decide +kernel
theorem dX7_readNet_29 : decode cX7_readNet 29 = .ok (.aload_n 0, 1) := by decide +kernel
theorem dX7_readNet_30 : decode cX7_readNet 30 = .ok (.invokevirtual 29, 3) := by decide +kernel
theorem dX7_readNet_33 : decode cX7_readNet 33 = .ok (.iconst 1, 1) := by decide +kernel
theorem dX7_readNet_34 : decode cX7_readNet 34 = .ok (.ireturn, 1) := by decide +kernel
theorem dX7_readLink_0 : decode cX7_readLink 0 = .ok (.aload_n 0, 1) := by decide +kernel
theorem dX7_readLink_1 : decode cX7_readLink 1 = .ok (.invokevirtual 29, 3) := by decide +kernel
theorem dX7_readLink_4 : decode cX7_readLink 4 = .ok (.aload_n 0, 1) := by decide +kernel
theorem dX7_readLink_5 : decode cX7_readLink 5 = .ok (.iconst 0, 1) := by decide +kernel
theorem dX7_readLink_6 : decode cX7_readLink 6 = .ok (.aload_n 1, 1) := by decide +kernel
theorem dX7_readLink_7 : decode cX7_readLink 7 = .ok (.getfield 75, 3) := by decide +kernel
theorem dX7_readLink_10 : decode cX7_readLink 10 = .ok (.iconst 1, 1) := by decide +kernel
theorem dX7_readLink_11 : decode cX7_readLink 11 = .ok (.isub, 1) := by decide +kernel
theorem dX7_readLink_12 : decode cX7_readLink 12 = .ok (.invokevirtual 65, 3) := by decide +kernel
theorem dX7_readLink_15 : decode cX7_readLink 15 = .ok (.istore_n 2, 1) := by decide +kernel
theorem dX7_readLink_16 : decode cX7_readLink 16 = .ok (.iload_n 2, 1) := by decide +kernel
theorem dX7_readLink_17 : decode cX7_readLink 17 = .ok (.iconst (-1), 1) := by decide +kernel
theorem dX7_readLink_18 : decode cX7_readLink 18 = .ok (.if_icmp .ne 5, 3) := by decide +kernel
theorem dX7_readLink_21 : decode cX7_readLink 21 = .ok (.iconst 0, 1) := by decide +kernel
theorem dX7_readLink_22 : decode cX7_readLink 22 = .ok (.ireturn, 1) := by decide +kernel
theorem dX7_readLink_23 : decode cX7_readLink 23 = .ok (.aload_n 0, 1) := by decide +kernel
theorem dX7_readLink_24 : decode cX7_readLink 24 = .ok (.invokevirtual 29, 3) := by decide +kernel
theorem dX7_readLink_27 : decode cX7_readLink 27 = .ok (.aload_n 0, 1) := by decide +kernel
theorem dX7_readLink_28 : decode cX7_readLink 28 = .ok (.iconst 0, 1) := by decide +kernel
theorem dX7_readLink_29 : decode cX7_readLink 29 = .ok (.aload_n 1, 1) := by decide +kernel
theorem dX7_readLink_30 : decode cX7_readLink 30 = .ok (.getfield 75, 3) := by decide +kernel
theorem dX7_readLink_33 : decode cX7_readLink 33 = .ok (.iconst 1, 1) := by decide +kernel
theorem dX7_readLink_34 : decode cX7_readLink 34 = .ok (.isub, 1) := by decide +kernel
theorem dX7_readLink_35 : decode cX7_readLink 35 = .ok (.invokevirtual 65, 3) := by decide +kernel
theorem dX7_readLink_38 : decode cX7_readLink 38 = .ok (.istore_n 3, 1) := by decide +kernel
theorem dX7_readLink_39 : decode cX7_readLink 39 = .ok (.iload_n 3, 1) := by decide +kernel
theorem dX7_readLink_40 : decode cX7_readLink 40 = .ok (.iconst (-1), 1) := by decide +kernel
theorem dX7_readLink_41 : decode cX7_readLink 41 = .ok (.if_icmp .eq 17, 3) := by decide +kernel
theorem dX7_readLink_44 : decode cX7_readLink 44 = .ok (.iload_n 3, 1) := by decide +kernel
theorem dX7_readLink_45 : decode cX7_readLink 45 = .ok (.iload_n 2, 1) := by decide +kernel
theorem dX7_readLink_46 : decode cX7_readLink 46 = .ok (.if_icmp .eq 12, 3) := by decide +kernel
theorem dX7_readLink_49 : decode cX7_readLink 49 = .ok (.aload_n 1, 1) := by decide +kernel
theorem dX7_readLink_50 : decode cX7_readLink 50 = .ok (.iload_n 2, 1) := by decide +kernel
theorem dX7_readLink_51 : decode cX7_readLink 51 = .ok (.iload_n 3, 1) := by decide +kernel
theorem dX7_readLink_52 : decode cX7_readLink 52 = .ok (.invokevirtual 78, 3) := by decide +kernel
theorem dX7_readLink_55 : decode cX7_readLink 55 = .ok (.ifCond .ne 5, 3) := by decide +kernel
theorem dX7_readLink_58 : decode cX7_readLink 58 = .ok (.iconst 0, 1) := by decide +kernel
theorem dX7_readLink_59 : decode cX7_readLink 59 = .ok (.ireturn, 1) := by decide +kernel
theorem dX7_readLink_60 : decode cX7_readLink 60 = .ok (.aload_n 0, 1) := by decide +kernel
theorem dX7_readLink_61 : decode cX7_readLink 61 = .ok (.invokevirtual 29, 3) := by decide +kernel
theorem dX7_readLink_64 : decode cX7_readLink 64 = .ok (.aload_n 0, 1) := by decide +kernel
theorem dX7_readLink_65 : decode cX7_readLink 65 = .ok (.iconst 1, 1) := by decide +kernel
theorem dX7_readLink_66 : decode cX7_readLink 66 = .ok (.bipush 99, 2) := by decide +kernel
theorem dX7_readLink_68 : decode cX7_readLink 68 = .ok (.invokevirtual 65, 3) := by decide +kernel
theorem dX7_readLink_71 : decode cX7_readLink 71 = .ok (.istore 4, 2) := by decide +kernel
theorem dX7_readLink_73 : decode cX7_readLink 73 = .ok (.iload 4, 2) := by decide +kernel
theorem dX7_readLink_75 : decode cX7_readLink 75 = .ok (.iconst (-1), 1) := by decide +kernel
theorem dX7_readLink_76 : decode cX7_readLink 76 = .ok (.if_icmp .ne 5, 3) := by decide +kernel
theorem dX7_readLink_79 : decode cX7_readLink 79 = .ok (.iconst 0, 1) := by decide +kernel
theorem dX7_readLink_80 : decode cX7_readLink 80 = .ok (.ireturn, 1) := by decide +kernel
theorem dX7_readLink_81 : decode cX7_readLink 81 = .ok (.aload_n 1, 1) := by decide +kernel
theorem dX7_readLink_82 : decode cX7_readLink 82 = .ok (.iload_n 2, 1) := by decide +kernel
theorem dX7_readLink_83 : decode cX7_readLink 83 = .ok (.iload_n 3, 1) := by decide +kernel
theorem dX7_readLink_84 : decode cX7_readLink 84 = .ok (.iload 4, 2) := by decide +kernel
theorem dX7_readLink_86 : decode cX7_readLink 86 = .ok (.invokevirtual 82, 3) := by decide +kernel
theorem dX7_readLink_89 : decode cX7_readLink 89 = .ok (.aload_n 0, 1) := by decide +kernel
theorem dX7_readLink_90 : decode cX7_readLink 90 = .ok (.invokevirtual 29, 3) := by decide +kernel
theorem dX7_readLink_93 : decode cX7_readLink 93 = .ok (.iconst 1, 1) := by decide +kernel
theorem dX7_readLink_94 : decode cX7_readLink 94 = .ok (.ireturn, 1) := by decide +kernel
theorem dX7_readLevel_0 : decode cX7_readLevel 0 = .ok (.aload_n 0, 1) := by decide +kernel
theorem dX7_readLevel_1 : decode cX7_readLevel 1 = .ok (.invokevirtual 29, 3) := by decide +kernel
theorem dX7_readLevel_4 : decode cX7_readLevel 4 = .ok (.aload_n 0, 1) := by decide +kernel
theorem dX7_readLevel_5 : decode cX7_readLevel 5 = .ok (.iconst 0, 1) := by decide +kernel
theorem dX7_readLevel_6 : decode cX7_readLevel 6 = .ok (.aload_n 1, 1) := by decide +kernel
theorem dX7_readLevel_7 : decode cX7_readLevel 7 = .ok (.getfield 75, 3) := by decide +kernel
theorem dX7_readLevel_10 : decode cX7_readLevel 10 = .ok (.iconst 1, 1) := by decide +kernel
theorem dX7_readLevel_11 : decode cX7_readLevel 11 = .ok (.isub, 1) := by decide +kernel
theorem dX7_readLevel_12 : decode cX7_readLevel 12 = .ok (.invokevirtual 65, 3) := by decide +kernel
theorem dX7_readLevel_15 : decode cX7_readLevel 15 = .ok (.istore_n 2, 1) := by decide +kernel
theorem dX7_readLevel_16 : decode cX7_readLevel 16 = .ok (.iload_n 2, 1) := by decide +kernel
theorem dX7_readLevel_17 : decode cX7_readLevel 17 = .ok (.iconst (-1), 1) := by decide +kernel
theorem dX7_readLevel_18 : decode cX7_readLevel 18 = .ok (.if_icmp .ne 5, 3) := by decide +kernel
theorem dX7_readLevel_21 : decode cX7_readLevel 21 = .ok (.iconst 0, 1) := by decide +kernel
theorem dX7_readLevel_22 : decode cX7_readLevel 22 = .ok (.ireturn, 1) := by decide +kernel
theorem dX7_readLevel_23 : decode cX7_readLevel 23 = .ok (.aload_n 0, 1) := by decide +kernel
theorem dX7_readLevel_24 : decode cX7_readLevel 24 = .ok (.invokevirtual 29, 3) := by decide +kernel
theorem dX7_readLevel_27 : decode cX7_readLevel 27 = .ok (.aload_n 0, 1) := by decide +kernel
theorem dX7_readLevel_28 : decode cX7_readLevel 28 = .ok (.iconst 0, 1) := by decide +kernel
theorem dX7_readLevel_29 : decode cX7_readLevel 29 = .ok (.iconst 2, 1) := by decide +kernel
theorem dX7_readLevel_30 : decode cX7_readLevel 30 = .ok (.invokevirtual 65, 3) := by decide +kernel
theorem dX7_readLevel_33 : decode cX7_readLevel 33 = .ok (.istore_n 3, 1) := by decide +kernel
theorem dX7_readLevel_34 : decode cX7_readLevel 34 = .ok (.iload_n 3, 1) := by decide +kernel
theorem dX7_readLevel_35 : decode cX7_readLevel 35 = .ok (.iconst (-1), 1) := by decide +kernel
theorem dX7_readLevel_36 : decode cX7_readLevel 36 = .ok (.if_icmp .ne 5, 3) := by decide +kernel
theorem dX7_readLevel_39 : decode cX7_readLevel 39 = .ok (.iconst 0, 1) := by decide +kernel
theorem dX7_readLevel_40 : decode cX7_readLevel 40 = .ok (.ireturn, 1) := by decide +kernel
theorem dX7_readLevel_41 : decode cX7_readLevel 41 = .ok (.aload_n 1, 1) := by decide +kernel
theorem dX7_readLevel_42 : decode cX7_readLevel 42 = .ok (.iload_n 2, 1) := by decide +kernel
theorem dX7_readLevel_43 : decode cX7_readLevel 43 = .ok (.iload_n 3, 1) := by decide +kernel
theorem dX7_readLevel_44 : decode cX7_readLevel 44 = .ok (.invokevirtual 86, 3) := by decide +kernel
theorem dX7_readLevel_47 : decode cX7_readLevel 47 = .ok (.aload_n 0, 1) := by decide +kernel
theorem dX7_readLevel_48 : decode cX7_readLevel 48 = .ok (.invokevirtual 29, 3) := by decide +kernel
theorem dX7_readLevel_51 : decode cX7_readLevel 51 = .ok (.iconst 1, 1) := by decide +kernel
theorem dX7_readLevel_52 : decode cX7_readLevel 52 = .ok (.ireturn, 1) := by decide +kernel
theorem dX7_pass_0 : decode cX7_pass 0 = .ok (.aload_n 0, 1) := by decide +kernel
theorem dX7_pass_1 : decode cX7_pass 1 = .ok (.aload_n 0, 1) := by decide +kernel
theorem dX7_pass_2 : decode cX7_pass 2 = .ok (.getfield 26, 3) := by decide +kernel
theorem dX7_pass_5 : decode cX7_pass 5 = .ok (.putfield 36, 3) := by decide +kernel
theorem dX7_pass_8 : decode cX7_pass 8 = .ok (.aload_n 0, 1) := by decide +kernel
theorem dX7_pass_9 : decode cX7_pass 9 = .ok (.getfield 36, 3) := by decide +kernel
theorem dX7_pass_12 : decode cX7_pass 12 = .ok (.aload_n 0, 1) := by decide +kernel
theorem dX7_pass_13 : decode cX7_pass 13 = .ok (.getfield 15, 3) := by decide +kernel
theorem dX7_pass_16 : decode cX7_pass 16 = .ok (.if_icmp .ge 30, 3) := by decide +kernel
theorem dX7_pass_19 : decode cX7_pass 19 = .ok (.aload_n 0, 1) := by decide +kernel
theorem dX7_pass_20 : decode cX7_pass 20 = .ok (.getfield 9, 3) := by decide +kernel
theorem dX7_pass_23 : decode cX7_pass 23 = .ok (.aload_n 0, 1) := by decide +kernel
theorem dX7_pass_24 : decode cX7_pass 24 = .ok (.getfield 36, 3) := by decide +kernel
theorem dX7_pass_27 : decode cX7_pass 27 = .ok (.iaload, 1) := by decide +kernel
theorem dX7_pass_28 : decode cX7_pass 28 = .ok (.bipush 32, 2) := by decide +kernel
theorem dX7_pass_30 : decode cX7_pass 30 = .ok (.if_icmp .ne 16, 3) := by decide +kernel
theorem dX7_pass_33 : decode cX7_pass 33 = .ok (.aload_n 0, 1) := by decide +kernel
theorem dX7_pass_34 : decode cX7_pass 34 = .ok (.dup, 1) := by decide +kernel
theorem dX7_pass_35 : decode cX7_pass 35 = .ok (.getfield 36, 3) := by decide +kernel
theorem dX7_pass_38 : decode cX7_pass 38 = .ok (.iconst 1, 1) := by decide +kernel
theorem dX7_pass_39 : decode cX7_pass 39 = .ok (.iadd, 1) := by decide +kernel
theorem dX7_pass_40 : decode cX7_pass 40 = .ok (.putfield 36, 3) := by decide +kernel
theorem dX7_pass_43 : decode cX7_pass 43 = .ok (.goto (-35), 3) := by decide +kernel
theorem dX7_pass_46 : decode cX7_pass 46 = .ok (.aload_n 0, 1) := by decide +kernel
theorem dX7_pass_47 : decode cX7_pass 47 = .ok (.aload_n 0, 1) := by decide +kernel
theorem dX7_pass_48 : decode cX7_pass 48 = .ok (.aload_n 0, 1) := by decide +kernel
theorem dX7_pass_49 : decode cX7_pass 49 = .ok (.getfield 36, 3) := by decide +kernel
theorem dX7_pass_52 : decode cX7_pass 52 = .ok (.invokevirtual 90, 3) := by decide +kernel
theorem dX7_pass_55 : decode cX7_pass 55 = .ok (.putfield 39, 3) := by decide +kernel
theorem dX7_pass_58 : decode cX7_pass 58 = .ok (.aload_n 0, 1) := by decide +kernel
theorem dX7_pass_59 : decode cX7_pass 59 = .ok (.aload_n 0, 1) := by decide +kernel
theorem dX7_pass_60 : decode cX7_pass 60 = .ok (.getfield 36, 3) := by decide +kernel
theorem dX7_pass_63 : decode cX7_pass 63 = .ok (.putfield 26, 3) := by decide +kernel
theorem dX7_pass_66 : decode cX7_pass 66 = .ok (.aload_n 0, 1) := by decide +kernel
theorem dX7_pass_67 : decode cX7_pass 67 = .ok (.getfield 39, 3) := by decide +kernel
theorem dX7_pass_70 : decode cX7_pass 70 = .ok (.iconst 4, 1) := by decide +kernel
theorem dX7_pass_71 : decode cX7_pass 71 = .ok (.if_icmp .ne 4, 3) := by decide +kernel
theorem dX7_pass_74 : decode cX7_pass 74 = .ok (.return_, 1) := by decide +kernel
theorem dX7_pass_75 : decode cX7_pass 75 = .ok (.aload_n 0, 1) := by decide +kernel
theorem dX7_pass_76 : decode cX7_pass 76 = .ok (.dup, 1) := by decide +kernel
theorem dX7_pass_77 : decode cX7_pass 77 = .ok (.getfield 26, 3) := by decide +kernel
theorem dX7_pass_80 : decode cX7_pass 80 = .ok (.iconst 1, 1) := by decide +kernel
theorem dX7_pass_81 : decode cX7_pass 81 = .ok (.iadd, 1) := by decide +kernel
theorem dX7_pass_82 : decode cX7_pass 82 = .ok (.putfield 26, 3) := by decide +kernel
theorem dX7_pass_85 : decode cX7_pass 85 = .ok (.aload_n 0, 1) := by decide +kernel
theorem dX7_pass_86 : decode cX7_pass 86 = .ok (.getfield 39, 3) := by decide +kernel
theorem dX7_pass_89 : decode cX7_pass 89 = .ok (.iconst 3, 1) := by decide +kernel
theorem dX7_pass_90 : decode cX7_pass 90 = .ok (.if_icmp .eq 42, 3) := by decide +kernel
theorem dX7_pass_93 : decode cX7_pass 93 = .ok (.aload_n 0, 1) := by decide +kernel
theorem dX7_pass_94 : decode cX7_pass 94 = .ok (.getfield 26, 3) := by decide +kernel
theorem dX7_pass_97 : decode cX7_pass 97 = .ok (.aload_n 0, 1) := by decide +kernel
theorem dX7_pass_98 : decode cX7_pass 98 = .ok (.getfield 15, 3) := by decide +kernel
theorem dX7_pass_101 : decode cX7_pass 101 = .ok (.if_icmp .ge 31, 3) := by decide +kernel
theorem dX7_pass_104 : decode cX7_pass 104 = .ok (.aload_n 0, 1) := by decide +kernel
theorem dX7_pass_105 : decode cX7_pass 105 = .ok (.aload_n 0, 1) := by decide +kernel
theorem dX7_pass_106 : decode cX7_pass 106 = .ok (.getfield 26, 3) := by decide +kernel
theorem dX7_pass_109 : decode cX7_pass 109 = .ok (.invokevirtual 90, 3) := by decide +kernel
theorem dX7_pass_112 : decode cX7_pass 112 = .ok (.aload_n 0, 1) := by decide +kernel
theorem dX7_pass_113 : decode cX7_pass 113 = .ok (.getfield 39, 3) := by decide +kernel
theorem dX7_pass_116 : decode cX7_pass 116 = .ok (.if_icmp .ne 16, 3) := by decide +kernel
theorem dX7_pass_119 : decode cX7_pass 119 = .ok (.aload_n 0, 1) := by decide +kernel
theorem dX7_pass_120 : decode cX7_pass 120 = .ok (.dup, 1) := by decide +kernel
theorem dX7_pass_121 : decode cX7_pass 121 = .ok (.getfield 26, 3) := by decide +kernel
theorem dX7_pass_124 : decode cX7_pass 124 = .ok (.iconst 1, 1) := by decide +kernel
theorem dX7_pass_125 : decode cX7_pass 125 = .ok (.iadd, 1) := by decide +kernel
theorem dX7_pass_126 : decode cX7_pass 126 = .ok (.putfield 26, 3) := by decide +kernel
theorem dX7_pass_129 : decode cX7_pass 129 = .ok (.goto (-44), 3) := by decide +kernel
theorem dX7_pass_132 : decode cX7_pass 132 = .ok (.return_, 1) := by decide +kernel
theorem dX7_kindAt_0 : decode cX7_kindAt 0 = .ok (.iload_n 1, 1) := by decide +kernel
theorem dX7_kindAt_1 : decode cX7_kindAt 1 = .ok (.ifCond .lt 11, 3) := by decide +kernel
theorem dX7_kindAt_4 : decode cX7_kindAt 4 = .ok (.iload_n 1, 1) := by decide +kernel
theorem dX7_kindAt_5 : decode cX7_kindAt 5 = .ok (.aload_n 0, 1) := by decide +kernel
theorem dX7_kindAt_6 : decode cX7_kindAt 6 = .ok (.getfield 15, 3) := by decide +kernel
theorem dX7_kindAt_9 : decode cX7_kindAt 9 = .ok (.if_icmp .lt 5, 3) := by decide +kernel
theorem dX7_kindAt_12 : decode cX7_kindAt 12 = .ok (.iconst 4, 1) := by decide +kernel
theorem dX7_kindAt_13 : decode cX7_kindAt 13 = .ok (.ireturn, 1) := by decide +kernel
theorem dX7_kindAt_14 : decode cX7_kindAt 14 = .ok (.aload_n 0, 1) := by decide +kernel
theorem dX7_kindAt_15 : decode cX7_kindAt 15 = .ok (.getfield 9, 3) := by decide +kernel
theorem dX7_kindAt_18 : decode cX7_kindAt 18 = .ok (.iload_n 1, 1) := by decide +kernel
theorem dX7_kindAt_19 : decode cX7_kindAt 19 = .ok (.iaload, 1) := by decide +kernel
theorem dX7_kindAt_20 : decode cX7_kindAt 20 = .ok (.istore_n 2, 1) := by decide +kernel
theorem dX7_kindAt_21 : decode cX7_kindAt 21 = .ok (.iload_n 2, 1) := by decide +kernel
theorem dX7_kindAt_22 : decode cX7_kindAt 22 = .ok (.bipush 97, 2) := by decide +kernel
theorem dX7_kindAt_24 : decode cX7_kindAt 24 = .ok (.if_icmp .lt 11, 3) := by decide +kernel
theorem dX7_kindAt_27 : decode cX7_kindAt 27 = .ok (.iload_n 2, 1) := by decide +kernel
theorem dX7_kindAt_28 : decode cX7_kindAt 28 = .ok (.bipush 122, 2) := by decide +kernel
theorem dX7_kindAt_30 : decode cX7_kindAt 30 = .ok (.if_icmp .gt 5, 3) := by decide +kernel
theorem dX7_kindAt_33 : decode cX7_kindAt 33 = .ok (.iconst 1, 1) := by decide +kernel
theorem dX7_kindAt_34 : decode cX7_kindAt 34 = .ok (.ireturn, 1) := by decide +kernel
theorem dX7_kindAt_35 : decode cX7_kindAt 35 = .ok (.iload_n 2, 1) := by decide +kernel
theorem dX7_kindAt_36 : decode cX7_kindAt 36 = .ok (.bipush 48, 2) := by decide +kernel
theorem dX7_kindAt_38 : decode cX7_kindAt 38 = .ok (.if_icmp .lt 13, 3) := by decide +kernel
theorem dX7_kindAt_41 : decode cX7_kindAt 41 = .ok (.iload_n 2, 1) := by decide +kernel
theorem dX7_kindAt_42 : decode cX7_kindAt 42 = .ok (.bipush 57, 2) := by decide +kernel
theorem dX7_kindAt_44 : decode cX7_kindAt 44 = .ok (.if_icmp .gt 7, 3) := by decide +kernel
theorem dX7_kindAt_47 : decode cX7_kindAt 47 = .ok (.iconst 2, 1) := by decide +kernel
theorem dX7_kindAt_48 : decode cX7_kindAt 48 = .ok (.goto 4, 3) := by decide +kernel
theorem dX7_kindAt_51 : decode cX7_kindAt 51 = .ok (.iconst 3, 1) := by decide +kernel
theorem dX7_kindAt_52 : decode cX7_kindAt 52 = .ok (.ireturn, 1) := by decide +kernel
theorem dX7_isSemicolon_0 : decode cX7_isSemicolon 0 = .ok (.aload_n 0, 1) := by decide +kernel
theorem dX7_isSemicolon_1 : decode cX7_isSemicolon 1 = .ok (.getfield 39, 3) := by decide +kernel
theorem dX7_isSemicolon_4 : decode cX7_isSemicolon 4 = .ok (.iconst 3, 1) := by decide +kernel
theorem dX7_isSemicolon_5 : decode cX7_isSemicolon 5 = .ok (.if_icmp .ne 21, 3) := by decide +kernel
theorem dX7_isSemicolon_8 : decode cX7_isSemicolon 8 = .ok (.aload_n 0, 1) := by decide +kernel
theorem dX7_isSemicolon_9 : decode cX7_isSemicolon 9 = .ok (.getfield 9, 3) := by decide +kernel
theorem dX7_isSemicolon_12 : decode cX7_isSemicolon 12 = .ok (.aload_n 0, 1) := by decide +kernel
theorem dX7_isSemicolon_13 : decode cX7_isSemicolon 13 = .ok (.getfield 36, 3) := by decide +kernel
theorem dX7_isSemicolon_16 : decode cX7_isSemicolon 16 = .ok (.iaload, 1) := by decide +kernel
theorem dX7_isSemicolon_17 : decode cX7_isSemicolon 17 = .ok (.bipush 59, 2) := by decide +kernel
theorem dX7_isSemicolon_19 : decode cX7_isSemicolon 19 = .ok (.if_icmp .ne 7, 3) := by decide +kernel
theorem dX7_isSemicolon_22 : decode cX7_isSemicolon 22 = .ok (.iconst 1, 1) := by decide +kernel
theorem dX7_isSemicolon_23 : decode cX7_isSemicolon 23 = .ok (.goto 4, 3) := by decide +kernel
theorem dX7_isSemicolon_26 : decode cX7_isSemicolon 26 = .ok (.iconst 0, 1) := by decide +kernel
theorem dX7_isSemicolon_27 : decode cX7_isSemicolon 27 = .ok (.ireturn, 1) := by decide +kernel
theorem dX7_isWord_0 : decode cX7_isWord 0 = .ok (.aload_n 0, 1) := by decide +kernel
theorem dX7_isWord_1 : decode cX7_isWord 1 = .ok (.getfield 39, 3) := by decide +kernel
theorem dX7_isWord_4 : decode cX7_isWord 4 = .ok (.iconst 1, 1) := by decide +kernel
theorem dX7_isWord_5 : decode cX7_isWord 5 = .ok (.if_icmp .ne 19, 3) := by decide +kernel
theorem dX7_isWord_8 : decode cX7_isWord 8 = .ok (.aload_n 0, 1) := by decide +kernel
theorem dX7_isWord_9 : decode cX7_isWord 9 = .ok (.getfield 26, 3) := by decide +kernel
theorem dX7_isWord_12 : decode cX7_isWord 12 = .ok (.aload_n 0, 1) := by decide +kernel
theorem dX7_isWord_13 : decode cX7_isWord 13 = .ok (.getfield 36, 3) := by decide +kernel
theorem dX7_isWord_16 : decode cX7_isWord 16 = .ok (.isub, 1) := by decide +kernel
theorem dX7_isWord_17 : decode cX7_isWord 17 = .ok (.aload_n 1, 1) := by decide +kernel
theorem dX7_isWord_18 : decode cX7_isWord 18 = .ok (.invokevirtual 94, 3) := by decide +kernel
theorem dX7_isWord_21 : decode cX7_isWord 21 = .ok (.if_icmp .eq 5, 3) := by decide +kernel
theorem dX7_isWord_24 : decode cX7_isWord 24 = .ok (.iconst 0, 1) := by decide +kernel
theorem dX7_isWord_25 : decode cX7_isWord 25 = .ok (.ireturn, 1) := by decide +kernel
theorem dX7_isWord_26 : decode cX7_isWord 26 = .ok (.iconst 0, 1) := by decide +kernel
theorem dX7_isWord_27 : decode cX7_isWord 27 = .ok (.istore_n 2, 1) := by decide +kernel
theorem dX7_isWord_28 : decode cX7_isWord 28 = .ok (.iload_n 2, 1) := by decide +kernel
theorem dX7_isWord_29 : decode cX7_isWord 29 = .ok (.aload_n 1, 1) := by decide +kernel
theorem dX7_isWord_30 : decode cX7_isWord 30 = .ok (.invokevirtual 94, 3) := by decide +kernel
theorem dX7_isWord_33 : decode cX7_isWord 33 = .ok (.if_icmp .ge 30, 3) := by decide +kernel
theorem dX7_isWord_36 : decode cX7_isWord 36 = .ok (.aload_n 0, 1) := by decide +kernel
theorem dX7_isWord_37 : decode cX7_isWord 37 = .ok (.getfield 9, 3) := by decide +kernel
theorem dX7_isWord_40 : decode cX7_isWord 40 = .ok (.aload_n 0, 1) := by decide +kernel
theorem dX7_isWord_41 : decode cX7_isWord 41 = .ok (.getfield 36, 3) := by decide +kernel
theorem dX7_isWord_44 : decode cX7_isWord 44 = .ok (.iload_n 2, 1) := by decide +kernel
theorem dX7_isWord_45 : decode cX7_isWord 45 = .ok (.iadd, 1) := by decide +kernel
theorem dX7_isWord_46 : decode cX7_isWord 46 = .ok (.iaload, 1) := by decide +kernel
theorem dX7_isWord_47 : decode cX7_isWord 47 = .ok (.aload_n 1, 1) := by decide +kernel
theorem dX7_isWord_48 : decode cX7_isWord 48 = .ok (.iload_n 2, 1) := by decide +kernel
theorem dX7_isWord_49 : decode cX7_isWord 49 = .ok (.invokevirtual 100, 3) := by decide +kernel
theorem dX7_isWord_52 : decode cX7_isWord 52 = .ok (.if_icmp .eq 5, 3) := by decide +kernel
theorem dX7_isWord_55 : decode cX7_isWord 55 = .ok (.iconst 0, 1) := by decide +kernel
theorem dX7_isWord_56 : decode cX7_isWord 56 = .ok (.ireturn, 1) := by decide +kernel
theorem dX7_isWord_57 : decode cX7_isWord 57 = .ok (.iinc 2 1, 3) := by decide +kernel
theorem dX7_isWord_60 : decode cX7_isWord 60 = .ok (.goto (-32), 3) := by decide +kernel
theorem dX7_isWord_63 : decode cX7_isWord 63 = .ok (.iconst 1, 1) := by decide +kernel
theorem dX7_isWord_64 : decode cX7_isWord 64 = .ok (.ireturn, 1) := by decide +kernel
theorem dX7_number_0 : decode cX7_number 0 = .ok (.aload_n 0, 1) := by decide +kernel
theorem dX7_number_1 : decode cX7_number 1 = .ok (.getfield 39, 3) := by decide +kernel
theorem dX7_number_4 : decode cX7_number 4 = .ok (.iconst 2, 1) := by decide +kernel
theorem dX7_number_5 : decode cX7_number 5 = .ok (.if_icmp .ne 16, 3) := by decide +kernel
theorem dX7_number_8 : decode cX7_number 8 = .ok (.aload_n 0, 1) := by decide +kernel
theorem dX7_number_9 : decode cX7_number 9 = .ok (.getfield 26, 3) := by decide +kernel
theorem dX7_number_12 : decode cX7_number 12 = .ok (.aload_n 0, 1) := by decide +kernel
theorem dX7_number_13 : decode cX7_number 13 = .ok (.getfield 36, 3) := by decide +kernel
theorem dX7_number_16 : decode cX7_number 16 = .ok (.isub, 1) := by decide +kernel
theorem dX7_number_17 : decode cX7_number 17 = .ok (.iconst 2, 1) := by decide +kernel
theorem dX7_number_18 : decode cX7_number 18 = .ok (.if_icmp .le 5, 3) := by decide +kernel
theorem dX7_number_21 : decode cX7_number 21 = .ok (.iconst (-1), 1) := by decide +kernel
theorem dX7_number_22 : decode cX7_number 22 = .ok (.ireturn, 1) := by decide +kernel
theorem dX7_number_23 : decode cX7_number 23 = .ok (.iconst 0, 1) := by decide +kernel
theorem dX7_number_24 : decode cX7_number 24 = .ok (.istore_n 3, 1) := by decide +kernel
theorem dX7_number_25 : decode cX7_number 25 = .ok (.aload_n 0, 1) := by decide +kernel
theorem dX7_number_26 : decode cX7_number 26 = .ok (.getfield 36, 3) := by decide +kernel
theorem dX7_number_29 : decode cX7_number 29 = .ok (.istore 4, 2) := by decide +kernel
theorem dX7_number_31 : decode cX7_number 31 = .ok (.iload 4, 2) := by decide +kernel
theorem dX7_number_33 : decode cX7_number 33 = .ok (.aload_n 0, 1) := by decide +kernel
theorem dX7_number_34 : decode cX7_number 34 = .ok (.getfield 26, 3) := by decide +kernel
theorem dX7_number_37 : decode cX7_number 37 = .ok (.if_icmp .ge 25, 3) := by decide +kernel
theorem dX7_number_40 : decode cX7_number 40 = .ok (.iload_n 3, 1) := by decide +kernel
theorem dX7_number_41 : decode cX7_number 41 = .ok (.bipush 10, 2) := by decide +kernel
theorem dX7_number_43 : decode cX7_number 43 = .ok (.imul, 1) := by decide +kernel
theorem dX7_number_44 : decode cX7_number 44 = .ok (.aload_n 0, 1) := by decide +kernel
theorem dX7_number_45 : decode cX7_number 45 = .ok (.getfield 9, 3) := by decide +kernel
theorem dX7_number_48 : decode cX7_number 48 = .ok (.iload 4, 2) := by decide +kernel
theorem dX7_number_50 : decode cX7_number 50 = .ok (.iaload, 1) := by decide +kernel
theorem dX7_number_51 : decode cX7_number 51 = .ok (.iadd, 1) := by decide +kernel
theorem dX7_number_52 : decode cX7_number 52 = .ok (.bipush 48, 2) := by decide +kernel
theorem dX7_number_54 : decode cX7_number 54 = .ok (.isub, 1) := by decide +kernel
theorem dX7_number_55 : decode cX7_number 55 = .ok (.istore_n 3, 1) := by decide +kernel
theorem dX7_number_56 : decode cX7_number 56 = .ok (.iinc 4 1, 3) := by decide +kernel
theorem dX7_number_59 : decode cX7_number 59 = .ok (.goto (-28), 3) := by decide +kernel
theorem dX7_number_62 : decode cX7_number 62 = .ok (.iload_n 3, 1) := by decide +kernel
theorem dX7_number_63 : decode cX7_number 63 = .ok (.iload_n 1, 1) := by decide +kernel
theorem dX7_number_64 : decode cX7_number 64 = .ok (.if_icmp .lt 12, 3) := by decide +kernel
theorem dX7_number_67 : decode cX7_number 67 = .ok (.iload_n 3, 1) := by decide +kernel
theorem dX7_number_68 : decode cX7_number 68 = .ok (.iload_n 2, 1) := by decide +kernel
theorem dX7_number_69 : decode cX7_number 69 = .ok (.if_icmp .gt 7, 3) := by decide +kernel
theorem dX7_number_72 : decode cX7_number 72 = .ok (.iload_n 3, 1) := by decide +kernel
theorem dX7_number_73 : decode cX7_number 73 = .ok (.goto 4, 3) := by decide +kernel
theorem dX7_number_76 : decode cX7_number 76 = .ok (.iconst (-1), 1) := by decide +kernel
theorem dX7_number_77 : decode cX7_number 77 = .ok (.ireturn, 1) := by decide +kernel
theorem dX8_init_0 : decode cX8_init 0 = .ok (.aload_n 0, 1) := by decide +kernel
theorem dX8_init_1 : decode cX8_init 1 = .ok (.invokespecial 3, 3) := by decide +kernel
theorem dX8_init_4 : decode cX8_init 4 = .ok (.aload_n 0, 1) := by decide +kernel
theorem dX8_init_5 : decode cX8_init 5 = .ok (.new 9, 3) := by decide +kernel
theorem dX8_init_8 : decode cX8_init 8 = .ok (.dup, 1) := by decide +kernel
theorem dX8_init_9 : decode cX8_init 9 = .ok (.invokespecial 11, 3) := by decide +kernel
theorem dX8_init_12 : decode cX8_init 12 = .ok (.putfield 12, 3) := by decide +kernel
theorem dX8_init_15 : decode cX8_init 15 = .ok (.aload_n 0, 1) := by decide +kernel
theorem dX8_init_16 : decode cX8_init 16 = .ok (.bipush 30, 2) := by decide +kernel
theorem dX8_init_18 : decode cX8_init 18 = .ok (.newarray .int, 2) := by decide +kernel
theorem dX8_init_20 : decode cX8_init 20 = .ok (.putfield 18, 3) := by decide +kernel
theorem dX8_init_23 : decode cX8_init 23 = .ok (.aload_n 0, 1) := by decide +kernel
theorem dX8_init_24 : decode cX8_init 24 = .ok (.bipush 12, 2) := by decide +kernel
theorem dX8_init_26 : decode cX8_init 26 = .ok (.newarray .int, 2) := by decide +kernel
theorem dX8_init_28 : decode cX8_init 28 = .ok (.putfield 22, 3) := by decide +kernel
theorem dX8_init_31 : decode cX8_init 31 = .ok (.return_, 1) := by decide +kernel
theorem dX8_takes_0 : decode cX8_takes 0 = .ok (.iload_n 1, 1) := by decide +kernel
theorem dX8_takes_1 : decode cX8_takes 1 = .ok (.ifCond .lt 19, 3) := by decide +kernel
theorem dX8_takes_4 : decode cX8_takes 4 = .ok (.iload_n 1, 1) := by decide +kernel
theorem dX8_takes_5 : decode cX8_takes 5 = .ok (.bipush 12, 2) := by decide +kernel
theorem dX8_takes_7 : decode cX8_takes 7 = .ok (.if_icmp .ge 13, 3) := by decide +kernel
theorem dX8_takes_10 : decode cX8_takes 10 = .ok (.iload_n 2, 1) := by decide +kernel
theorem dX8_takes_11 : decode cX8_takes 11 = .ok (.ifCond .lt 9, 3) := by decide +kernel
theorem dX8_takes_14 : decode cX8_takes 14 = .ok (.iload_n 2, 1) := by decide +kernel
theorem dX8_takes_15 : decode cX8_takes 15 = .ok (.bipush 12, 2) := by decide +kernel
theorem dX8_takes_17 : decode cX8_takes 17 = .ok (.if_icmp .lt 5, 3) := by decide +kernel
theorem dX8_takes_20 : decode cX8_takes 20 = .ok (.iconst 0, 1) := by decide +kernel
theorem dX8_takes_21 : decode cX8_takes 21 = .ok (.ireturn, 1) := by decide +kernel
theorem dX8_takes_22 : decode cX8_takes 22 = .ok (.aload_n 0, 1) := by decide +kernel
theorem dX8_takes_23 : decode cX8_takes 23 = .ok (.getfield 22, 3) := by decide +kernel
theorem dX8_takes_26 : decode cX8_takes 26 = .ok (.iload_n 1, 1) := by decide +kernel
theorem dX8_takes_27 : decode cX8_takes 27 = .ok (.iaload, 1) := by decide +kernel
theorem dX8_takes_28 : decode cX8_takes 28 = .ok (.iconst 1, 1) := by decide +kernel
theorem dX8_takes_29 : decode cX8_takes 29 = .ok (.iload_n 2, 1) := by decide +kernel
theorem dX8_takes_30 : decode cX8_takes 30 = .ok (.ishl, 1) := by decide +kernel
theorem dX8_takes_31 : decode cX8_takes 31 = .ok (.iand, 1) := by decide +kernel
theorem dX8_takes_32 : decode cX8_takes 32 = .ok (.ifCond .eq 7, 3) := by decide +kernel
theorem dX8_takes_35 : decode cX8_takes 35 = .ok (.iconst 1, 1) := by decide +kernel
theorem dX8_takes_36 : decode cX8_takes 36 = .ok (.goto 4, 3) := by decide +kernel
theorem dX8_takes_39 : decode cX8_takes 39 = .ok (.iconst 0, 1) := by decide +kernel
theorem dX8_takes_40 : decode cX8_takes 40 = .ok (.ireturn, 1) := by decide +kernel
theorem dX8_follow_0 : decode cX8_follow 0 = .ok (.aload_n 0, 1) := by decide +kernel
theorem dX8_follow_1 : decode cX8_follow 1 = .ok (.getfield 25, 3) := by decide +kernel
theorem dX8_follow_4 : decode cX8_follow 4 = .ok (.aload_n 1, 1) := by decide +kernel
theorem dX8_follow_5 : decode cX8_follow 5 = .ok (.getfield 29, 3) := by decide +kernel
theorem dX8_follow_8 : decode cX8_follow 8 = .ok (.if_icmp .ne 12, 3) := by decide +kernel
theorem dX8_follow_11 : decode cX8_follow 11 = .ok (.aload_n 0, 1) := by decide +kernel
theorem dX8_follow_12 : decode cX8_follow 12 = .ok (.getfield 34, 3) := by decide +kernel
theorem dX8_follow_15 : decode cX8_follow 15 = .ok (.iload_n 2, 1) := by decide +kernel
theorem dX8_follow_16 : decode cX8_follow 16 = .ok (.if_icmp .ne 4, 3) := by decide +kernel
theorem dX8_follow_19 : decode cX8_follow 19 = .ok (.return_, 1) := by decide +kernel
theorem dX8_follow_20 : decode cX8_follow 20 = .ok (.aload_n 0, 1) := by decide +kernel
theorem dX8_follow_21 : decode cX8_follow 21 = .ok (.aload_n 1, 1) := by decide +kernel
theorem dX8_follow_22 : decode cX8_follow 22 = .ok (.invokevirtual 37, 3) := by decide +kernel
theorem dX8_follow_25 : decode cX8_follow 25 = .ok (.aload_n 0, 1) := by decide +kernel
theorem dX8_follow_26 : decode cX8_follow 26 = .ok (.aload_n 1, 1) := by decide +kernel
theorem dX8_follow_27 : decode cX8_follow 27 = .ok (.getfield 41, 3) := by decide +kernel
theorem dX8_follow_30 : decode cX8_follow 30 = .ok (.invokevirtual 44, 3) := by decide +kernel
theorem dX8_follow_33 : decode cX8_follow 33 = .ok (.iconst 0, 1) := by decide +kernel
theorem dX8_follow_34 : decode cX8_follow 34 = .ok (.istore_n 3, 1) := by decide +kernel
theorem dX8_follow_35 : decode cX8_follow 35 = .ok (.iload_n 3, 1) := by decide +kernel
theorem dX8_follow_36 : decode cX8_follow 36 = .ok (.aload_n 0, 1) := by decide +kernel
theorem dX8_follow_37 : decode cX8_follow 37 = .ok (.getfield 48, 3) := by decide +kernel
theorem dX8_follow_40 : decode cX8_follow 40 = .ok (.if_icmp .ge 79, 3) := by decide +kernel
theorem dX8_follow_43 : decode cX8_follow 43 = .ok (.aload_n 0, 1) := by decide +kernel
theorem dX8_follow_44 : decode cX8_follow 44 = .ok (.getfield 18, 3) := by decide +kernel
theorem dX8_follow_47 : decode cX8_follow 47 = .ok (.iload_n 3, 1) := by decide +kernel
theorem dX8_follow_48 : decode cX8_follow 48 = .ok (.iaload, 1) := by decide +kernel
theorem dX8_follow_49 : decode cX8_follow 49 = .ok (.bipush 12, 2) := by decide +kernel
theorem dX8_follow_51 : decode cX8_follow 51 = .ok (.idiv, 1) := by decide +kernel
theorem dX8_follow_52 : decode cX8_follow 52 = .ok (.istore 4, 2) := by decide +kernel
theorem dX8_follow_54 : decode cX8_follow 54 = .ok (.aload_n 0, 1) := by decide +kernel
theorem dX8_follow_55 : decode cX8_follow 55 = .ok (.getfield 18, 3) := by decide +kernel
theorem dX8_follow_58 : decode cX8_follow 58 = .ok (.iload_n 3, 1) := by decide +kernel
theorem dX8_follow_59 : decode cX8_follow 59 = .ok (.iaload, 1) := by decide +kernel
theorem dX8_follow_60 : decode cX8_follow 60 = .ok (.bipush 12, 2) := by decide +kernel
theorem dX8_follow_62 : decode cX8_follow 62 = .ok (.irem, 1) := by decide +kernel
theorem dX8_follow_63 : decode cX8_follow 63 = .ok (.istore 5, 2) := by decide +kernel
theorem dX8_follow_65 : decode cX8_follow 65 = .ok (.aload_n 1, 1) := by decide +kernel
theorem dX8_follow_66 : decode cX8_follow 66 = .ok (.iload 4, 2) := by decide +kernel
theorem dX8_follow_68 : decode cX8_follow 68 = .ok (.iload 5, 2) := by decide +kernel
theorem dX8_follow_70 : decode cX8_follow 70 = .ok (.invokevirtual 51, 3) := by decide +kernel
theorem dX8_follow_73 : decode cX8_follow 73 = .ok (.istore 6, 2) := by decide +kernel
theorem dX8_follow_75 : decode cX8_follow 75 = .ok (.aload_n 0, 1) := by decide +kernel
theorem dX8_follow_76 : decode cX8_follow 76 = .ok (.getfield 12, 3) := by decide +kernel
theorem dX8_follow_79 : decode cX8_follow 79 = .ok (.iload 4, 2) := by decide +kernel
theorem dX8_follow_81 : decode cX8_follow 81 = .ok (.iload 5, 2) := by decide +kernel
theorem dX8_follow_83 : decode cX8_follow 83 = .ok (.invokevirtual 55, 3) := by decide +kernel
theorem dX8_follow_86 : decode cX8_follow 86 = .ok (.istore 7, 2) := by decide +kernel
theorem dX8_follow_88 : decode cX8_follow 88 = .ok (.iload 7, 2) := by decide +kernel
theorem dX8_follow_90 : decode cX8_follow 90 = .ok (.iconst (-1), 1) := by decide +kernel
theorem dX8_follow_91 : decode cX8_follow 91 = .ok (.if_icmp .eq 12, 3) := by decide +kernel
theorem dX8_follow_94 : decode cX8_follow 94 = .ok (.iload 7, 2) := by decide +kernel
theorem dX8_follow_96 : decode cX8_follow 96 = .ok (.iload_n 2, 1) := by decide +kernel
theorem dX8_follow_97 : decode cX8_follow 97 = .ok (.iload 6, 2) := by decide +kernel
theorem dX8_follow_99 : decode cX8_follow 99 = .ok (.imul, 1) := by decide +kernel
theorem dX8_follow_100 : decode cX8_follow 100 = .ok (.if_icmp .le 13, 3) := by decide +kernel
theorem dX8_follow_103 : decode cX8_follow 103 = .ok (.aload_n 0, 1) := by decide +kernel
theorem dX8_follow_104 : decode cX8_follow 104 = .ok (.iload 4, 2) := by decide +kernel
theorem dX8_follow_106 : decode cX8_follow 106 = .ok (.iload 5, 2) := by decide +kernel
theorem dX8_follow_108 : decode cX8_follow 108 = .ok (.iload 6, 2) := by decide +kernel
theorem dX8_follow_110 : decode cX8_follow 110 = .ok (.invokevirtual 58, 3) := by decide +kernel
theorem dX8_follow_113 : decode cX8_follow 113 = .ok (.iinc 3 1, 3) := by decide +kernel
theorem dX8_follow_116 : decode cX8_follow 116 = .ok (.goto (-81), 3) := by decide +kernel
theorem dX8_follow_119 : decode cX8_follow 119 = .ok (.aload_n 0, 1) := by decide +kernel
theorem dX8_follow_120 : decode cX8_follow 120 = .ok (.aload_n 1, 1) := by decide +kernel
theorem dX8_follow_121 : decode cX8_follow 121 = .ok (.getfield 29, 3) := by decide +kernel
theorem dX8_follow_124 : decode cX8_follow 124 = .ok (.putfield 25, 3) := by decide +kernel
theorem dX8_follow_127 : decode cX8_follow 127 = .ok (.aload_n 0, 1) := by decide +kernel
theorem dX8_follow_128 : decode cX8_follow 128 = .ok (.iload_n 2, 1) := by decide +kernel
theorem dX8_follow_129 : decode cX8_follow 129 = .ok (.putfield 34, 3) := by decide +kernel
theorem dX8_follow_132 : decode cX8_follow 132 = .ok (.return_, 1) := by decide +kernel
theorem dX8_take_0 : decode cX8_take 0 = .ok (.iload_n 1, 1) := by decide +kernel
theorem dX8_take_1 : decode cX8_take 1 = .ok (.ifCond .lt 19, 3) := by decide +kernel
theorem dX8_take_4 : decode cX8_take 4 = .ok (.iload_n 1, 1) := by decide +kernel
theorem dX8_take_5 : decode cX8_take 5 = .ok (.bipush 12, 2) := by decide +kernel
theorem dX8_take_7 : decode cX8_take 7 = .ok (.if_icmp .ge 13, 3) := by decide +kernel
theorem dX8_take_10 : decode cX8_take 10 = .ok (.iload_n 2, 1) := by decide +kernel
theorem dX8_take_11 : decode cX8_take 11 = .ok (.ifCond .lt 9, 3) := by decide +kernel
theorem dX8_take_14 : decode cX8_take 14 = .ok (.iload_n 2, 1) := by decide +kernel
theorem dX8_take_15 : decode cX8_take 15 = .ok (.bipush 12, 2) := by decide +kernel
theorem dX8_take_17 : decode cX8_take 17 = .ok (.if_icmp .lt 4, 3) := by decide +kernel
theorem dX8_take_20 : decode cX8_take 20 = .ok (.return_, 1) := by decide +kernel
theorem dX8_take_21 : decode cX8_take 21 = .ok (.aload_n 0, 1) := by decide +kernel
theorem dX8_take_22 : decode cX8_take 22 = .ok (.getfield 22, 3) := by decide +kernel
theorem dX8_take_25 : decode cX8_take 25 = .ok (.iload_n 1, 1) := by decide +kernel
theorem dX8_take_26 : decode cX8_take 26 = .ok (.dup2, 1) := by decide +kernel
theorem dX8_take_27 : decode cX8_take 27 = .ok (.iaload, 1) := by decide +kernel
theorem dX8_take_28 : decode cX8_take 28 = .ok (.iconst 1, 1) := by decide +kernel
theorem dX8_take_29 : decode cX8_take 29 = .ok (.iload_n 2, 1) := by decide +kernel
theorem dX8_take_30 : decode cX8_take 30 = .ok (.ishl, 1) := by decide +kernel
theorem dX8_take_31 : decode cX8_take 31 = .ok (.ior, 1) := by decide +kernel
theorem dX8_take_32 : decode cX8_take 32 = .ok (.iastore, 1) := by decide +kernel
theorem dX8_take_33 : decode cX8_take 33 = .ok (.aload_n 0, 1) := by decide +kernel
theorem dX8_take_34 : decode cX8_take 34 = .ok (.getfield 22, 3) := by decide +kernel
theorem dX8_take_37 : decode cX8_take 37 = .ok (.iload_n 2, 1) := by decide +kernel
theorem dX8_take_38 : decode cX8_take 38 = .ok (.dup2, 1) := by decide +kernel
theorem dX8_take_39 : decode cX8_take 39 = .ok (.iaload, 1) := by decide +kernel
theorem dX8_take_40 : decode cX8_take 40 = .ok (.iconst 1, 1) := by decide +kernel
theorem dX8_take_41 : decode cX8_take 41 = .ok (.iload_n 1, 1) := by decide +kernel
theorem dX8_take_42 : decode cX8_take 42 = .ok (.ishl, 1) := by decide +kernel
theorem dX8_take_43 : decode cX8_take 43 = .ok (.ior, 1) := by decide +kernel
theorem dX8_take_44 : decode cX8_take 44 = .ok (.iastore, 1) := by decide +kernel
theorem dX8_take_45 : decode cX8_take 45 = .ok (.aload_n 0, 1) := by decide +kernel
theorem dX8_take_46 : decode cX8_take 46 = .ok (.getfield 12, 3) := by decide +kernel
theorem dX8_take_49 : decode cX8_take 49 = .ok (.iload_n 1, 1) := by decide +kernel
theorem dX8_take_50 : decode cX8_take 50 = .ok (.iload_n 2, 1) := by decide +kernel
theorem dX8_take_51 : decode cX8_take 51 = .ok (.iload_n 3, 1) := by decide +kernel
theorem dX8_take_52 : decode cX8_take 52 = .ok (.invokevirtual 62, 3) := by decide +kernel
theorem dX8_take_55 : decode cX8_take 55 = .ok (.aload_n 0, 1) := by decide +kernel
theorem dX8_take_56 : decode cX8_take 56 = .ok (.dup, 1) := by decide +kernel
theorem dX8_take_57 : decode cX8_take 57 = .ok (.getfield 65, 3) := by decide +kernel
theorem dX8_take_60 : decode cX8_take 60 = .ok (.iconst 1, 1) := by decide +kernel
theorem dX8_take_61 : decode cX8_take 61 = .ok (.iadd, 1) := by decide +kernel
theorem dX8_take_62 : decode cX8_take 62 = .ok (.putfield 65, 3) := by decide +kernel
theorem dX8_take_65 : decode cX8_take 65 = .ok (.return_, 1) := by decide +kernel
theorem dX8_clear_0 : decode cX8_clear 0 = .ok (.aload_n 0, 1) := by decide +kernel
theorem dX8_clear_1 : decode cX8_clear 1 = .ok (.iconst 0, 1) := by decide +kernel
theorem dX8_clear_2 : decode cX8_clear 2 = .ok (.putfield 65, 3) := by decide +kernel
theorem dX8_clear_5 : decode cX8_clear 5 = .ok (.aload_n 0, 1) := by decide +kernel
theorem dX8_clear_6 : decode cX8_clear 6 = .ok (.getfield 22, 3) := by decide +kernel
theorem dX8_clear_9 : decode cX8_clear 9 = .ok (.iconst 0, 1) := by decide +kernel
theorem dX8_clear_10 : decode cX8_clear 10 = .ok (.invokestatic 68, 3) := by decide +kernel
theorem dX8_clear_13 : decode cX8_clear 13 = .ok (.aload_n 0, 1) := by decide +kernel
theorem dX8_clear_14 : decode cX8_clear 14 = .ok (.getfield 12, 3) := by decide +kernel
theorem dX8_clear_17 : decode cX8_clear 17 = .ok (.iload_n 1, 1) := by decide +kernel
theorem dX8_clear_18 : decode cX8_clear 18 = .ok (.invokevirtual 74, 3) := by decide +kernel
theorem dX8_clear_21 : decode cX8_clear 21 = .ok (.return_, 1) := by decide +kernel
theorem dX8_sortLinks_0 : decode cX8_sortLinks 0 = .ok (.aload_n 0, 1) := by decide +kernel
theorem dX8_sortLinks_1 : decode cX8_sortLinks 1 = .ok (.iconst 0, 1) := by decide +kernel
theorem dX8_sortLinks_2 : decode cX8_sortLinks 2 = .ok (.putfield 48, 3) := by decide +kernel
theorem dX8_sortLinks_5 : decode cX8_sortLinks 5 = .ok (.iconst 0, 1) := by decide +kernel
theorem dX8_sortLinks_6 : decode cX8_sortLinks 6 = .ok (.istore_n 2, 1) := by decide +kernel
theorem dX8_sortLinks_7 : decode cX8_sortLinks 7 = .ok (.iload_n 2, 1) := by decide +kernel
theorem dX8_sortLinks_8 : decode cX8_sortLinks 8 = .ok (.aload_n 1, 1) := by decide +kernel
theorem dX8_sortLinks_9 : decode cX8_sortLinks 9 = .ok (.getfield 41, 3) := by decide +kernel
theorem dX8_sortLinks_12 : decode cX8_sortLinks 12 = .ok (.if_icmp .ge 52, 3) := by decide +kernel
theorem dX8_sortLinks_15 : decode cX8_sortLinks 15 = .ok (.iload_n 2, 1) := by decide +kernel
theorem dX8_sortLinks_16 : decode cX8_sortLinks 16 = .ok (.iconst 1, 1) := by decide +kernel
theorem dX8_sortLinks_17 : decode cX8_sortLinks 17 = .ok (.iadd, 1) := by decide +kernel
theorem dX8_sortLinks_18 : decode cX8_sortLinks 18 = .ok (.istore_n 3, 1) := by decide +kernel
theorem dX8_sortLinks_19 : decode cX8_sortLinks 19 = .ok (.iload_n 3, 1) := by decide +kernel
theorem dX8_sortLinks_20 : decode cX8_sortLinks 20 = .ok (.aload_n 1, 1) := by decide +kernel
theorem dX8_sortLinks_21 : decode cX8_sortLinks 21 = .ok (.getfield 41, 3) := by decide +kernel
theorem dX8_sortLinks_24 : decode cX8_sortLinks 24 = .ok (.if_icmp .ge 34, 3) := by decide +kernel
theorem dX8_sortLinks_27 : decode cX8_sortLinks 27 = .ok (.aload_n 1, 1) := by decide +kernel
theorem dX8_sortLinks_28 : decode cX8_sortLinks 28 = .ok (.iload_n 2, 1) := by decide +kernel
theorem dX8_sortLinks_29 : decode cX8_sortLinks 29 = .ok (.iload_n 3, 1) := by decide +kernel
theorem dX8_sortLinks_30 : decode cX8_sortLinks 30 = .ok (.invokevirtual 51, 3) := by decide +kernel
theorem dX8_sortLinks_33 : decode cX8_sortLinks 33 = .ok (.ifCond .le 19, 3) := by decide +kernel
theorem dX8_sortLinks_36 : decode cX8_sortLinks 36 = .ok (.aload_n 0, 1) := by decide +kernel
theorem dX8_sortLinks_37 : decode cX8_sortLinks 37 = .ok (.getfield 48, 3) := by decide +kernel
theorem dX8_sortLinks_40 : decode cX8_sortLinks 40 = .ok (.bipush 30, 2) := by decide +kernel
theorem dX8_sortLinks_42 : decode cX8_sortLinks 42 = .ok (.if_icmp .ge 10, 3) := by decide +kernel
theorem dX8_sortLinks_45 : decode cX8_sortLinks 45 = .ok (.aload_n 0, 1) := by decide +kernel
theorem dX8_sortLinks_46 : decode cX8_sortLinks 46 = .ok (.aload_n 1, 1) := by decide +kernel
theorem dX8_sortLinks_47 : decode cX8_sortLinks 47 = .ok (.iload_n 2, 1) := by decide +kernel
theorem dX8_sortLinks_48 : decode cX8_sortLinks 48 = .ok (.iload_n 3, 1) := by decide +kernel
theorem dX8_sortLinks_49 : decode cX8_sortLinks 49 = .ok (.invokevirtual 75, 3) := by decide +kernel
theorem dX8_sortLinks_52 : decode cX8_sortLinks 52 = .ok (.iinc 3 1, 3) := by decide +kernel
theorem dX8_sortLinks_55 : decode cX8_sortLinks 55 = .ok (.goto (-36), 3) := by decide +kernel
theorem dX8_sortLinks_58 : decode cX8_sortLinks 58 = .ok (.iinc 2 1, 3) := by decide +kernel
theorem dX8_sortLinks_61 : decode cX8_sortLinks 61 = .ok (.goto (-54), 3) := by decide +kernel
theorem dX8_sortLinks_64 : decode cX8_sortLinks 64 = .ok (.return_, 1) := by decide +kernel
theorem dX8_insert_0 : decode cX8_insert 0 = .ok (.aload_n 1, 1) := by decide +kernel
theorem dX8_insert_1 : decode cX8_insert 1 = .ok (.iload_n 2, 1) := by decide +kernel
theorem dX8_insert_2 : decode cX8_insert 2 = .ok (.iload_n 3, 1) := by decide +kernel
theorem dX8_insert_3 : decode cX8_insert 3 = .ok (.invokevirtual 51, 3) := by decide +kernel
theorem dX8_insert_6 : decode cX8_insert 6 = .ok (.istore 4, 2) := by decide +kernel
theorem dX8_insert_8 : decode cX8_insert 8 = .ok (.aload_n 0, 1) := by decide +kernel
theorem dX8_insert_9 : decode cX8_insert 9 = .ok (.getfield 48, 3) := by decide +kernel
theorem dX8_insert_12 : decode cX8_insert 12 = .ok (.istore 5, 2) := by decide +kernel
theorem dX8_insert_14 : decode cX8_insert 14 = .ok (.iload 5, 2) := by decide +kernel
theorem dX8_insert_16 : decode cX8_insert 16 = .ok (.ifCond .le 39, 3) := by decide +kernel
theorem dX8_insert_19 : decode cX8_insert 19 = .ok (.aload_n 0, 1) := by decide +kernel
theorem dX8_insert_20 : decode cX8_insert 20 = .ok (.aload_n 1, 1) := by decide +kernel
theorem dX8_insert_21 : decode cX8_insert 21 = .ok (.iload 5, 2) := by decide +kernel
theorem dX8_insert_23 : decode cX8_insert 23 = .ok (.iconst 1, 1) := by decide +kernel
theorem dX8_insert_24 : decode cX8_insert 24 = .ok (.isub, 1) := by decide +kernel
theorem dX8_insert_25 : decode cX8_insert 25 = .ok (.invokevirtual 79, 3) := by decide +kernel
theorem dX8_insert_28 : decode cX8_insert 28 = .ok (.iload 4, 2) := by decide +kernel
theorem dX8_insert_30 : decode cX8_insert 30 = .ok (.if_icmp .le 25, 3) := by decide +kernel
theorem dX8_insert_33 : decode cX8_insert 33 = .ok (.aload_n 0, 1) := by decide +kernel
theorem dX8_insert_34 : decode cX8_insert 34 = .ok (.getfield 18, 3) := by decide +kernel
theorem dX8_insert_37 : decode cX8_insert 37 = .ok (.iload 5, 2) := by decide +kernel
theorem dX8_insert_39 : decode cX8_insert 39 = .ok (.aload_n 0, 1) := by decide +kernel
theorem dX8_insert_40 : decode cX8_insert 40 = .ok (.getfield 18, 3) := by decide +kernel
theorem dX8_insert_43 : decode cX8_insert 43 = .ok (.iload 5, 2) := by decide +kernel
theorem dX8_insert_45 : decode cX8_insert 45 = .ok (.iconst 1, 1) := by decide +kernel
theorem dX8_insert_46 : decode cX8_insert 46 = .ok (.isub, 1) := by decide +kernel
theorem dX8_insert_47 : decode cX8_insert 47 = .ok (.iaload, 1) := by decide +kernel
theorem dX8_insert_48 : decode cX8_insert 48 = .ok (.iastore, 1) := by decide +kernel
theorem dX8_insert_49 : decode cX8_insert 49 = .ok (.iinc 5 (-1), 3) := by decide +kernel
theorem dX8_insert_52 : decode cX8_insert 52 = .ok (.goto (-38), 3) := by decide +kernel
theorem dX8_insert_55 : decode cX8_insert 55 = .ok (.aload_n 0, 1) := by decide +kernel
theorem dX8_insert_56 : decode cX8_insert 56 = .ok (.getfield 18, 3) := by decide +kernel
theorem dX8_insert_59 : decode cX8_insert 59 = .ok (.iload 5, 2) := by decide +kernel
theorem dX8_insert_61 : decode cX8_insert 61 = .ok (.iload_n 2, 1) := by decide +kernel
theorem dX8_insert_62 : decode cX8_insert 62 = .ok (.iload_n 3, 1) := by decide +kernel
theorem dX8_insert_63 : decode cX8_insert 63 = .ok (.invokestatic 83, 3) := by decide +kernel
theorem dX8_insert_66 : decode cX8_insert 66 = .ok (.iastore, 1) := by decide +kernel
theorem dX8_insert_67 : decode cX8_insert 67 = .ok (.aload_n 0, 1) := by decide +kernel
theorem dX8_insert_68 : decode cX8_insert 68 = .ok (.dup, 1) := by decide +kernel
theorem dX8_insert_69 : decode cX8_insert 69 = .ok (.getfield 48, 3) := by decide +kernel
theorem dX8_insert_72 : decode cX8_insert 72 = .ok (.iconst 1, 1) := by decide +kernel
theorem dX8_insert_73 : decode cX8_insert 73 = .ok (.iadd, 1) := by decide +kernel
theorem dX8_insert_74 : decode cX8_insert 74 = .ok (.putfield 48, 3) := by decide +kernel
theorem dX8_insert_77 : decode cX8_insert 77 = .ok (.return_, 1) := by decide +kernel
theorem dX8_lengthAt_0 : decode cX8_lengthAt 0 = .ok (.aload_n 1, 1) := by decide +kernel
theorem dX8_lengthAt_1 : decode cX8_lengthAt 1 = .ok (.aload_n 0, 1) := by decide +kernel
theorem dX8_lengthAt_2 : decode cX8_lengthAt 2 = .ok (.getfield 18, 3) := by decide +kernel
theorem dX8_lengthAt_5 : decode cX8_lengthAt 5 = .ok (.iload_n 2, 1) := by decide +kernel
theorem dX8_lengthAt_6 : decode cX8_lengthAt 6 = .ok (.iaload, 1) := by decide +kernel
theorem dX8_lengthAt_7 : decode cX8_lengthAt 7 = .ok (.bipush 12, 2) := by decide +kernel
theorem dX8_lengthAt_9 : decode cX8_lengthAt 9 = .ok (.idiv, 1) := by decide +kernel
theorem dX8_lengthAt_10 : decode cX8_lengthAt 10 = .ok (.aload_n 0, 1) := by decide +kernel
theorem dX8_lengthAt_11 : decode cX8_lengthAt 11 = .ok (.getfield 18, 3) := by decide +kernel
theorem dX8_lengthAt_14 : decode cX8_lengthAt 14 = .ok (.iload_n 2, 1) := by decide +kernel
theorem dX8_lengthAt_15 : decode cX8_lengthAt 15 = .ok (.iaload, 1) := by decide +kernel
theorem dX8_lengthAt_16 : decode cX8_lengthAt 16 = .ok (.bipush 12, 2) := by decide +kernel
theorem dX8_lengthAt_18 : decode cX8_lengthAt 18 = .ok (.irem, 1) := by decide +kernel
theorem dX8_lengthAt_19 : decode cX8_lengthAt 19 = .ok (.invokevirtual 51, 3) := by decide +kernel
theorem dX8_lengthAt_22 : decode cX8_lengthAt 22 = .ok (.ireturn, 1) := by decide +kernel
theorem dX9_init_0 : decode cX9_init 0 = .ok (.aload_n 0, 1) := by decide +kernel
theorem dX9_init_1 : decode cX9_init 1 = .ok (.invokespecial 1, 3) := by decide +kernel
theorem dX9_init_4 : decode cX9_init 4 = .ok (.aload_n 0, 1) := by decide +kernel
theorem dX9_init_5 : decode cX9_init 5 = .ok (.new 7, 3) := by decide +kernel
theorem dX9_init_8 : decode cX9_init 8 = .ok (.dup, 1) := by decide +kernel
theorem dX9_init_9 : decode cX9_init 9 = .ok (.invokespecial 9, 3) := by decide +kernel
theorem dX9_init_12 : decode cX9_init 12 = .ok (.putfield 10, 3) := by decide +kernel
theorem dX9_init_15 : decode cX9_init 15 = .ok (.aload_n 0, 1) := by decide +kernel
theorem dX9_init_16 : decode cX9_init 16 = .ok (.new 7, 3) := by decide +kernel
theorem dX9_init_19 : decode cX9_init 19 = .ok (.dup, 1) := by decide +kernel
theorem dX9_init_20 : decode cX9_init 20 = .ok (.invokespecial 9, 3) := by decide +kernel
theorem dX9_init_23 : decode cX9_init 23 = .ok (.putfield 16, 3) := by decide +kernel
theorem dX9_init_26 : decode cX9_init 26 = .ok (.aload_n 0, 1) := by decide +kernel
theorem dX9_init_27 : decode cX9_init 27 = .ok (.new 19, 3) := by decide +kernel
theorem dX9_init_30 : decode cX9_init 30 = .ok (.dup, 1) := by decide +kernel
theorem dX9_init_31 : decode cX9_init 31 = .ok (.invokespecial 21, 3) := by decide +kernel
theorem dX9_init_34 : decode cX9_init 34 = .ok (.putfield 22, 3) := by decide +kernel
theorem dX9_init_37 : decode cX9_init 37 = .ok (.aload_n 0, 1) := by decide +kernel
theorem dX9_init_38 : decode cX9_init 38 = .ok (.new 26, 3) := by decide +kernel
theorem dX9_init_41 : decode cX9_init 41 = .ok (.dup, 1) := by decide +kernel
theorem dX9_init_42 : decode cX9_init 42 = .ok (.invokespecial 28, 3) := by decide +kernel
theorem dX9_init_45 : decode cX9_init 45 = .ok (.putfield 29, 3) := by decide +kernel
theorem dX9_init_48 : decode cX9_init 48 = .ok (.aload_n 0, 1) := by decide +kernel
theorem dX9_init_49 : decode cX9_init 49 = .ok (.invokestatic 33, 3) := by decide +kernel
theorem dX9_init_52 : decode cX9_init 52 = .ok (.putfield 37, 3) := by decide +kernel
theorem dX9_init_55 : decode cX9_init 55 = .ok (.aload_n 0, 1) := by decide +kernel
theorem dX9_init_56 : decode cX9_init 56 = .ok (.new 41, 3) := by decide +kernel
theorem dX9_init_59 : decode cX9_init 59 = .ok (.dup, 1) := by decide +kernel
theorem dX9_init_60 : decode cX9_init 60 = .ok (.invokespecial 43, 3) := by decide +kernel
theorem dX9_init_63 : decode cX9_init 63 = .ok (.putfield 44, 3) := by decide +kernel
theorem dX9_init_66 : decode cX9_init 66 = .ok (.aload_n 0, 1) := by decide +kernel
theorem dX9_init_67 : decode cX9_init 67 = .ok (.iconst 2, 1) := by decide +kernel
theorem dX9_init_68 : decode cX9_init 68 = .ok (.anewarray 48, 3) := by decide +kernel
theorem dX9_init_71 : decode cX9_init 71 = .ok (.putfield 50, 3) := by decide +kernel
theorem dX9_init_74 : decode cX9_init 74 = .ok (.iconst 0, 1) := by decide +kernel
theorem dX9_init_75 : decode cX9_init 75 = .ok (.istore_n 1, 1) := by decide +kernel
theorem dX9_init_76 : decode cX9_init 76 = .ok (.iload_n 1, 1) := by decide +kernel
theorem dX9_init_77 : decode cX9_init 77 = .ok (.iconst 2, 1) := by decide +kernel
theorem dX9_init_78 : decode cX9_init 78 = .ok (.if_icmp .ge 22, 3) := by decide +kernel
theorem dX9_init_81 : decode cX9_init 81 = .ok (.aload_n 0, 1) := by decide +kernel
theorem dX9_init_82 : decode cX9_init 82 = .ok (.getfield 50, 3) := by decide +kernel
theorem dX9_init_85 : decode cX9_init 85 = .ok (.iload_n 1, 1) := by decide +kernel
theorem dX9_init_86 : decode cX9_init 86 = .ok (.new 48, 3) := by decide +kernel
theorem dX9_init_89 : decode cX9_init 89 = .ok (.dup, 1) := by decide +kernel
theorem dX9_init_90 : decode cX9_init 90 = .ok (.invokespecial 54, 3) := by decide +kernel
theorem dX9_init_93 : decode cX9_init 93 = .ok (.aastore, 1) := by decide +kernel
theorem dX9_init_94 : decode cX9_init 94 = .ok (.iinc 1 1, 3) := by decide +kernel
theorem dX9_init_97 : decode cX9_init 97 = .ok (.goto (-21), 3) := by decide +kernel
theorem dX9_init_100 : decode cX9_init 100 = .ok (.aload_n 0, 1) := by decide +kernel
theorem dX9_init_101 : decode cX9_init 101 = .ok (.new 55, 3) := by decide +kernel
theorem dX9_init_104 : decode cX9_init 104 = .ok (.dup, 1) := by decide +kernel
theorem dX9_init_105 : decode cX9_init 105 = .ok (.invokespecial 57, 3) := by decide +kernel
theorem dX9_init_108 : decode cX9_init 108 = .ok (.putfield 58, 3) := by decide +kernel
theorem dX9_init_111 : decode cX9_init 111 = .ok (.aload_n 0, 1) := by decide +kernel
theorem dX9_init_112 : decode cX9_init 112 = .ok (.new 62, 3) := by decide +kernel
theorem dX9_init_115 : decode cX9_init 115 = .ok (.dup, 1) := by decide +kernel
theorem dX9_init_116 : decode cX9_init 116 = .ok (.invokespecial 64, 3) := by decide +kernel
theorem dX9_init_119 : decode cX9_init 119 = .ok (.putfield 65, 3) := by decide +kernel
theorem dX9_init_122 : decode cX9_init 122 = .ok (.aload_n 0, 1) := by decide +kernel
theorem dX9_init_123 : decode cX9_init 123 = .ok (.new 69, 3) := by decide +kernel
theorem dX9_init_126 : decode cX9_init 126 = .ok (.dup, 1) := by decide +kernel
theorem dX9_init_127 : decode cX9_init 127 = .ok (.invokespecial 71, 3) := by decide +kernel
theorem dX9_init_130 : decode cX9_init 130 = .ok (.putfield 72, 3) := by decide +kernel
theorem dX9_init_133 : decode cX9_init 133 = .ok (.aload_n 0, 1) := by decide +kernel
theorem dX9_init_134 : decode cX9_init 134 = .ok (.new 76, 3) := by decide +kernel
theorem dX9_init_137 : decode cX9_init 137 = .ok (.dup, 1) := by decide +kernel
theorem dX9_init_138 : decode cX9_init 138 = .ok (.invokespecial 78, 3) := by decide +kernel
theorem dX9_init_141 : decode cX9_init 141 = .ok (.putfield 79, 3) := by decide +kernel
theorem dX9_init_144 : decode cX9_init 144 = .ok (.return_, 1) := by decide +kernel
theorem dX9_type_0 : decode cX9_type 0 = .ok (.iload_n 1, 1) := by decide +kernel
theorem dX9_type_1 : decode cX9_type 1 = .ok (.ifCond .lt 10, 3) := by decide +kernel
theorem dX9_type_4 : decode cX9_type 4 = .ok (.iload_n 1, 1) := by decide +kernel
theorem dX9_type_5 : decode cX9_type 5 = .ok (.sipush 255, 3) := by decide +kernel
theorem dX9_type_8 : decode cX9_type 8 = .ok (.if_icmp .le 6, 3) := by decide +kernel
theorem dX9_type_11 : decode cX9_type 11 = .ok (.bipush (-3), 2) := by decide +kernel
theorem dX9_type_13 : decode cX9_type 13 = .ok (.ireturn, 1) := by decide +kernel
theorem dX9_type_14 : decode cX9_type 14 = .ok (.aload_n 0, 1) := by decide +kernel
theorem dX9_type_15 : decode cX9_type 15 = .ok (.getfield 22, 3) := by decide +kernel
theorem dX9_type_18 : decode cX9_type 18 = .ok (.getfield 83, 3) := by decide +kernel
theorem dX9_type_21 : decode cX9_type 21 = .ok (.sipush 200, 3) := by decide +kernel
theorem dX9_type_24 : decode cX9_type 24 = .ok (.if_icmp .lt 6, 3) := by decide +kernel
theorem dX9_type_27 : decode cX9_type 27 = .ok (.bipush (-5), 2) := by decide +kernel
theorem dX9_type_29 : decode cX9_type 29 = .ok (.ireturn, 1) := by decide +kernel
theorem dX9_type_30 : decode cX9_type 30 = .ok (.aload_n 0, 1) := by decide +kernel
theorem dX9_type_31 : decode cX9_type 31 = .ok (.getfield 22, 3) := by decide +kernel
theorem dX9_type_34 : decode cX9_type 34 = .ok (.iload_n 1, 1) := by decide +kernel
theorem dX9_type_35 : decode cX9_type 35 = .ok (.invokevirtual 87, 3) := by decide +kernel
theorem dX9_type_38 : decode cX9_type 38 = .ok (.aload_n 0, 1) := by decide +kernel
theorem dX9_type_39 : decode cX9_type 39 = .ok (.getfield 22, 3) := by decide +kernel
theorem dX9_type_42 : decode cX9_type 42 = .ok (.getfield 83, 3) := by decide +kernel
theorem dX9_type_45 : decode cX9_type 45 = .ok (.ireturn, 1) := by decide +kernel
theorem dX9_erase_0 : decode cX9_erase 0 = .ok (.aload_n 0, 1) := by decide +kernel
theorem dX9_erase_1 : decode cX9_erase 1 = .ok (.getfield 22, 3) := by decide +kernel
theorem dX9_erase_4 : decode cX9_erase 4 = .ok (.getfield 83, 3) := by decide +kernel
theorem dX9_erase_7 : decode cX9_erase 7 = .ok (.istore_n 1, 1) := by decide +kernel
theorem dX9_erase_8 : decode cX9_erase 8 = .ok (.aload_n 0, 1) := by decide +kernel
theorem dX9_erase_9 : decode cX9_erase 9 = .ok (.getfield 22, 3) := by decide +kernel
theorem dX9_erase_12 : decode cX9_erase 12 = .ok (.iconst 0, 1) := by decide +kernel
theorem dX9_erase_13 : decode cX9_erase 13 = .ok (.putfield 83, 3) := by decide +kernel
theorem dX9_erase_16 : decode cX9_erase 16 = .ok (.iload_n 1, 1) := by decide +kernel
theorem dX9_erase_17 : decode cX9_erase 17 = .ok (.ireturn, 1) := by decide +kernel
theorem dX9_fault_0 : decode cX9_fault 0 = .ok (.aload_n 0, 1) := by decide +kernel
theorem dX9_fault_1 : decode cX9_fault 1 = .ok (.invokevirtual 91, 3) := by decide +kernel
theorem dX9_fault_4 : decode cX9_fault 4 = .ok (.ireturn, 1) := by decide +kernel
theorem dX9_net_0 : decode cX9_net 0 = .ok (.aload_n 0, 1) := by decide +kernel
theorem dX9_net_1 : decode cX9_net 1 = .ok (.invokevirtual 91, 3) := by decide +kernel
theorem dX9_net_4 : decode cX9_net 4 = .ok (.iconst (-1), 1) := by decide +kernel
theorem dX9_net_5 : decode cX9_net 5 = .ok (.if_icmp .eq 6, 3) := by decide +kernel
theorem dX9_net_8 : decode cX9_net 8 = .ok (.bipush (-4), 2) := by decide +kernel
theorem dX9_net_10 : decode cX9_net 10 = .ok (.ireturn, 1) := by decide +kernel
theorem dX9_net_11 : decode cX9_net 11 = .ok (.aload_n 0, 1) := by decide +kernel
theorem dX9_net_12 : decode cX9_net 12 = .ok (.getfield 10, 3) := by decide +kernel
theorem dX9_net_15 : decode cX9_net 15 = .ok (.aload_n 0, 1) := by decide +kernel
theorem dX9_net_16 : decode cX9_net 16 = .ok (.getfield 16, 3) := by decide +kernel
theorem dX9_net_19 : decode cX9_net 19 = .ok (.invokevirtual 95, 3) := by decide +kernel
theorem dX9_net_22 : decode cX9_net 22 = .ok (.aload_n 0, 1) := by decide +kernel
theorem dX9_net_23 : decode cX9_net 23 = .ok (.getfield 22, 3) := by decide +kernel
theorem dX9_net_26 : decode cX9_net 26 = .ok (.getfield 99, 3) := by decide +kernel
theorem dX9_net_29 : decode cX9_net 29 = .ok (.ifCond .eq 7, 3) := by decide +kernel
theorem dX9_net_32 : decode cX9_net 32 = .ok (.aload_n 0, 1) := by decide +kernel
theorem dX9_net_33 : decode cX9_net 33 = .ok (.invokevirtual 103, 3) := by decide +kernel
theorem dX9_net_36 : decode cX9_net 36 = .ok (.aload_n 0, 1) := by decide +kernel
theorem dX9_net_37 : decode cX9_net 37 = .ok (.getfield 29, 3) := by decide +kernel
theorem dX9_net_40 : decode cX9_net 40 = .ok (.iconst 0, 1) := by decide +kernel
theorem dX9_net_41 : decode cX9_net 41 = .ok (.putfield 106, 3) := by decide +kernel
theorem dX9_net_44 : decode cX9_net 44 = .ok (.aload_n 0, 1) := by decide +kernel
theorem dX9_net_45 : decode cX9_net 45 = .ok (.invokevirtual 107, 3) := by decide +kernel
theorem dX9_net_48 : decode cX9_net 48 = .ok (.aload_n 0, 1) := by decide +kernel
theorem dX9_net_49 : decode cX9_net 49 = .ok (.getfield 22, 3) := by decide +kernel
theorem dX9_net_52 : decode cX9_net 52 = .ok (.iconst 0, 1) := by decide +kernel
theorem dX9_net_53 : decode cX9_net 53 = .ok (.putfield 83, 3) := by decide +kernel
theorem dX9_net_56 : decode cX9_net 56 = .ok (.aload_n 0, 1) := by decide +kernel
theorem dX9_net_57 : decode cX9_net 57 = .ok (.getfield 22, 3) := by decide +kernel
theorem dX9_net_60 : decode cX9_net 60 = .ok (.getfield 110, 3) := by decide +kernel
theorem dX9_net_63 : decode cX9_net 63 = .ok (.ireturn, 1) := by decide +kernel
theorem dX9_link_0 : decode cX9_link 0 = .ok (.aload_n 0, 1) := by decide +kernel
theorem dX9_link_1 : decode cX9_link 1 = .ok (.getfield 10, 3) := by decide +kernel
theorem dX9_link_4 : decode cX9_link 4 = .ok (.iload_n 1, 1) := by decide +kernel
theorem dX9_link_5 : decode cX9_link 5 = .ok (.invokevirtual 113, 3) := by decide +kernel
theorem dX9_link_8 : decode cX9_link 8 = .ok (.istore_n 3, 1) := by decide +kernel
theorem dX9_link_9 : decode cX9_link 9 = .ok (.iload_n 3, 1) := by decide +kernel
theorem dX9_link_10 : decode cX9_link 10 = .ok (.iconst (-1), 1) := by decide +kernel
theorem dX9_link_11 : decode cX9_link 11 = .ok (.if_icmp .ne 6, 3) := by decide +kernel
theorem dX9_link_14 : decode cX9_link 14 = .ok (.bipush (-2), 2) := by decide +kernel
theorem dX9_link_16 : decode cX9_link 16 = .ok (.ireturn, 1) := by decide +kernel
theorem dX9_link_17 : decode cX9_link 17 = .ok (.iload_n 3, 1) := by decide +kernel
theorem dX9_link_18 : decode cX9_link 18 = .ok (.bipush 12, 2) := by decide +kernel
theorem dX9_link_20 : decode cX9_link 20 = .ok (.idiv, 1) := by decide +kernel
theorem dX9_link_21 : decode cX9_link 21 = .ok (.istore 4, 2) := by decide +kernel
theorem dX9_link_23 : decode cX9_link 23 = .ok (.iload_n 3, 1) := by decide +kernel
theorem dX9_link_24 : decode cX9_link 24 = .ok (.bipush 12, 2) := by decide +kernel
theorem dX9_link_26 : decode cX9_link 26 = .ok (.irem, 1) := by decide +kernel
theorem dX9_link_27 : decode cX9_link 27 = .ok (.istore 5, 2) := by decide +kernel
theorem dX9_link_29 : decode cX9_link 29 = .ok (.iload_n 2, 1) := by decide +kernel
theorem dX9_link_30 : decode cX9_link 30 = .ok (.tableswitch 44 0 2 #[26, 29, 32], 26) := by decide +kernel
theorem dX9_link_56 : decode cX9_link 56 = .ok (.iload 4, 2) := by decide +kernel
theorem dX9_link_58 : decode cX9_link 58 = .ok (.ireturn, 1) := by decide +kernel
theorem dX9_link_59 : decode cX9_link 59 = .ok (.iload 5, 2) := by decide +kernel
theorem dX9_link_61 : decode cX9_link 61 = .ok (.ireturn, 1) := by decide +kernel
theorem dX9_link_62 : decode cX9_link 62 = .ok (.aload_n 0, 1) := by decide +kernel
theorem dX9_link_63 : decode cX9_link 63 = .ok (.getfield 10, 3) := by decide +kernel
theorem dX9_link_66 : decode cX9_link 66 = .ok (.iload 4, 2) := by decide +kernel
theorem dX9_link_68 : decode cX9_link 68 = .ok (.iload 5, 2) := by decide +kernel
theorem dX9_link_70 : decode cX9_link 70 = .ok (.invokevirtual 117, 3) := by decide +kernel
theorem dX9_link_73 : decode cX9_link 73 = .ok (.ireturn, 1) := by decide +kernel
theorem dX9_link_74 : decode cX9_link 74 = .ok (.bipush (-3), 2) := by decide +kernel
theorem dX9_link_76 : decode cX9_link 76 = .ok (.ireturn, 1) := by decide +kernel
theorem dX9_level_0 : decode cX9_level 0 = .ok (.aload_n 0, 1) := by decide +kernel
theorem dX9_level_1 : decode cX9_level 1 = .ok (.getfield 10, 3) := by decide +kernel
theorem dX9_level_4 : decode cX9_level 4 = .ok (.iload_n 1, 1) := by decide +kernel
theorem dX9_level_5 : decode cX9_level 5 = .ok (.invokevirtual 121, 3) := by decide +kernel
theorem dX9_level_8 : decode cX9_level 8 = .ok (.ifCond .ne 6, 3) := by decide +kernel
theorem dX9_level_11 : decode cX9_level 11 = .ok (.bipush (-2), 2) := by decide +kernel
theorem dX9_level_13 : decode cX9_level 13 = .ok (.ireturn, 1) := by decide +kernel
theorem dX9_level_14 : decode cX9_level 14 = .ok (.aload_n 0, 1) := by decide +kernel
theorem dX9_level_15 : decode cX9_level 15 = .ok (.getfield 10, 3) := by decide +kernel
theorem dX9_level_18 : decode cX9_level 18 = .ok (.iload_n 1, 1) := by decide +kernel
theorem dX9_level_19 : decode cX9_level 19 = .ok (.invokevirtual 125, 3) := by decide +kernel
theorem dX9_level_22 : decode cX9_level 22 = .ok (.ireturn, 1) := by decide +kernel
theorem dX9_join_0 : decode cX9_join 0 = .ok (.aload_n 0, 1) := by decide +kernel
theorem dX9_join_1 : decode cX9_join 1 = .ok (.iload_n 1, 1) := by decide +kernel
theorem dX9_join_2 : decode cX9_join 2 = .ok (.iload_n 2, 1) := by decide +kernel
theorem dX9_join_3 : decode cX9_join 3 = .ok (.invokevirtual 128, 3) := by decide +kernel
theorem dX9_join_6 : decode cX9_join 6 = .ok (.ifCond .eq 8, 3) := by decide +kernel
theorem dX9_join_9 : decode cX9_join 9 = .ok (.iload_n 1, 1) := by decide +kernel
theorem dX9_join_10 : decode cX9_join 10 = .ok (.iload_n 2, 1) := by decide +kernel
theorem dX9_join_11 : decode cX9_join 11 = .ok (.if_icmp .ne 6, 3) := by decide +kernel
theorem dX9_join_14 : decode cX9_join 14 = .ok (.bipush (-2), 2) := by decide +kernel
theorem dX9_join_16 : decode cX9_join 16 = .ok (.ireturn, 1) := by decide +kernel
theorem dX9_join_17 : decode cX9_join 17 = .ok (.iload_n 3, 1) := by decide +kernel
theorem dX9_join_18 : decode cX9_join 18 = .ok (.iconst 1, 1) := by decide +kernel
theorem dX9_join_19 : decode cX9_join 19 = .ok (.if_icmp .lt 9, 3) := by decide +kernel
theorem dX9_join_22 : decode cX9_join 22 = .ok (.iload_n 3, 1) := by decide +kernel
theorem dX9_join_23 : decode cX9_join 23 = .ok (.bipush 99, 2) := by decide +kernel
theorem dX9_join_25 : decode cX9_join 25 = .ok (.if_icmp .le 6, 3) := by decide +kernel
theorem dX9_join_28 : decode cX9_join 28 = .ok (.bipush (-3), 2) := by decide +kernel
theorem dX9_join_30 : decode cX9_join 30 = .ok (.ireturn, 1) := by decide +kernel
theorem dX9_join_31 : decode cX9_join 31 = .ok (.aload_n 0, 1) := by decide +kernel
theorem dX9_join_32 : decode cX9_join 32 = .ok (.getfield 10, 3) := by decide +kernel
theorem dX9_join_35 : decode cX9_join 35 = .ok (.iload_n 1, 1) := by decide +kernel
theorem dX9_join_36 : decode cX9_join 36 = .ok (.iload_n 2, 1) := by decide +kernel
theorem dX9_join_37 : decode cX9_join 37 = .ok (.invokevirtual 132, 3) := by decide +kernel
theorem dX9_join_40 : decode cX9_join 40 = .ok (.ifCond .ne 6, 3) := by decide +kernel
theorem dX9_join_43 : decode cX9_join 43 = .ok (.bipush (-5), 2) := by decide +kernel
theorem dX9_join_45 : decode cX9_join 45 = .ok (.ireturn, 1) := by decide +kernel
theorem dX9_join_46 : decode cX9_join 46 = .ok (.aload_n 0, 1) := by decide +kernel
theorem dX9_join_47 : decode cX9_join 47 = .ok (.getfield 29, 3) := by decide +kernel
theorem dX9_join_50 : decode cX9_join 50 = .ok (.aload_n 0, 1) := by decide +kernel
theorem dX9_join_51 : decode cX9_join 51 = .ok (.getfield 10, 3) := by decide +kernel
theorem dX9_join_54 : decode cX9_join 54 = .ok (.invokevirtual 135, 3) := by decide +kernel
theorem dX9_join_57 : decode cX9_join 57 = .ok (.aload_n 0, 1) := by decide +kernel
theorem dX9_join_58 : decode cX9_join 58 = .ok (.getfield 10, 3) := by decide +kernel
theorem dX9_join_61 : decode cX9_join 61 = .ok (.iload_n 1, 1) := by decide +kernel
theorem dX9_join_62 : decode cX9_join 62 = .ok (.iload_n 2, 1) := by decide +kernel
theorem dX9_join_63 : decode cX9_join 63 = .ok (.iload_n 3, 1) := by decide +kernel
theorem dX9_join_64 : decode cX9_join 64 = .ok (.invokevirtual 138, 3) := by decide +kernel
theorem dX9_join_67 : decode cX9_join 67 = .ok (.aload_n 0, 1) := by decide +kernel
theorem dX9_join_68 : decode cX9_join 68 = .ok (.getfield 10, 3) := by decide +kernel
theorem dX9_join_71 : decode cX9_join 71 = .ok (.getfield 142, 3) := by decide +kernel
theorem dX9_join_74 : decode cX9_join 74 = .ok (.ireturn, 1) := by decide +kernel
theorem dX9_cut_0 : decode cX9_cut 0 = .ok (.aload_n 0, 1) := by decide +kernel
theorem dX9_cut_1 : decode cX9_cut 1 = .ok (.iload_n 1, 1) := by decide +kernel
theorem dX9_cut_2 : decode cX9_cut 2 = .ok (.iload_n 2, 1) := by decide +kernel
theorem dX9_cut_3 : decode cX9_cut 3 = .ok (.invokevirtual 128, 3) := by decide +kernel
theorem dX9_cut_6 : decode cX9_cut 6 = .ok (.ifCond .ne 6, 3) := by decide +kernel
theorem dX9_cut_9 : decode cX9_cut 9 = .ok (.bipush (-2), 2) := by decide +kernel
theorem dX9_cut_11 : decode cX9_cut 11 = .ok (.ireturn, 1) := by decide +kernel
theorem dX9_cut_12 : decode cX9_cut 12 = .ok (.aload_n 0, 1) := by decide +kernel
theorem dX9_cut_13 : decode cX9_cut 13 = .ok (.getfield 10, 3) := by decide +kernel
theorem dX9_cut_16 : decode cX9_cut 16 = .ok (.iload_n 1, 1) := by decide +kernel
theorem dX9_cut_17 : decode cX9_cut 17 = .ok (.iload_n 2, 1) := by decide +kernel
theorem dX9_cut_18 : decode cX9_cut 18 = .ok (.invokevirtual 117, 3) := by decide +kernel
theorem dX9_cut_21 : decode cX9_cut 21 = .ok (.istore_n 3, 1) := by decide +kernel
theorem dX9_cut_22 : decode cX9_cut 22 = .ok (.iload_n 3, 1) := by decide +kernel
theorem dX9_cut_23 : decode cX9_cut 23 = .ok (.ifCond .ne 6, 3) := by decide +kernel
theorem dX9_cut_26 : decode cX9_cut 26 = .ok (.bipush (-4), 2) := by decide +kernel
theorem dX9_cut_28 : decode cX9_cut 28 = .ok (.ireturn, 1) := by decide +kernel
theorem dX9_cut_29 : decode cX9_cut 29 = .ok (.aload_n 0, 1) := by decide +kernel
theorem dX9_cut_30 : decode cX9_cut 30 = .ok (.getfield 29, 3) := by decide +kernel
theorem dX9_cut_33 : decode cX9_cut 33 = .ok (.aload_n 0, 1) := by decide +kernel
theorem dX9_cut_34 : decode cX9_cut 34 = .ok (.getfield 10, 3) := by decide +kernel
theorem dX9_cut_37 : decode cX9_cut 37 = .ok (.invokevirtual 135, 3) := by decide +kernel
theorem dX9_cut_40 : decode cX9_cut 40 = .ok (.aload_n 0, 1) := by decide +kernel
theorem dX9_cut_41 : decode cX9_cut 41 = .ok (.getfield 10, 3) := by decide +kernel
theorem dX9_cut_44 : decode cX9_cut 44 = .ok (.iload_n 1, 1) := by decide +kernel
theorem dX9_cut_45 : decode cX9_cut 45 = .ok (.iload_n 2, 1) := by decide +kernel
theorem dX9_cut_46 : decode cX9_cut 46 = .ok (.iconst 0, 1) := by decide +kernel
theorem dX9_cut_47 : decode cX9_cut 47 = .ok (.invokevirtual 138, 3) := by decide +kernel
theorem dX9_cut_50 : decode cX9_cut 50 = .ok (.iload_n 3, 1) := by decide +kernel
theorem dX9_cut_51 : decode cX9_cut 51 = .ok (.ireturn, 1) := by decide +kernel
theorem dX9_lift_0 : decode cX9_lift 0 = .ok (.aload_n 0, 1) := by decide +kernel
theorem dX9_lift_1 : decode cX9_lift 1 = .ok (.getfield 10, 3) := by decide +kernel
theorem dX9_lift_4 : decode cX9_lift 4 = .ok (.iload_n 1, 1) := by decide +kernel
theorem dX9_lift_5 : decode cX9_lift 5 = .ok (.invokevirtual 121, 3) := by decide +kernel
theorem dX9_lift_8 : decode cX9_lift 8 = .ok (.ifCond .ne 6, 3) := by decide +kernel
theorem dX9_lift_11 : decode cX9_lift 11 = .ok (.bipush (-2), 2) := by decide +kernel
theorem dX9_lift_13 : decode cX9_lift 13 = .ok (.ireturn, 1) := by decide +kernel
theorem dX9_lift_14 : decode cX9_lift 14 = .ok (.iload_n 2, 1) := by decide +kernel
theorem dX9_lift_15 : decode cX9_lift 15 = .ok (.ifCond .lt 8, 3) := by decide +kernel
theorem dX9_lift_18 : decode cX9_lift 18 = .ok (.iload_n 2, 1) := by decide +kernel
theorem dX9_lift_19 : decode cX9_lift 19 = .ok (.iconst 3, 1) := by decide +kernel
theorem dX9_lift_20 : decode cX9_lift 20 = .ok (.if_icmp .lt 6, 3) := by decide +kernel
theorem dX9_lift_23 : decode cX9_lift 23 = .ok (.bipush (-3), 2) := by decide +kernel
theorem dX9_lift_25 : decode cX9_lift 25 = .ok (.ireturn, 1) := by decide +kernel
theorem dX9_lift_26 : decode cX9_lift 26 = .ok (.aload_n 0, 1) := by decide +kernel
theorem dX9_lift_27 : decode cX9_lift 27 = .ok (.getfield 10, 3) := by decide +kernel
theorem dX9_lift_30 : decode cX9_lift 30 = .ok (.iload_n 1, 1) := by decide +kernel
theorem dX9_lift_31 : decode cX9_lift 31 = .ok (.invokevirtual 125, 3) := by decide +kernel
theorem dX9_lift_34 : decode cX9_lift 34 = .ok (.istore_n 3, 1) := by decide +kernel
theorem dX9_lift_35 : decode cX9_lift 35 = .ok (.aload_n 0, 1) := by decide +kernel
theorem dX9_lift_36 : decode cX9_lift 36 = .ok (.getfield 29, 3) := by decide +kernel
theorem dX9_lift_39 : decode cX9_lift 39 = .ok (.aload_n 0, 1) := by decide +kernel
theorem dX9_lift_40 : decode cX9_lift 40 = .ok (.getfield 10, 3) := by decide +kernel
theorem dX9_lift_43 : decode cX9_lift 43 = .ok (.invokevirtual 135, 3) := by decide +kernel
theorem dX9_lift_46 : decode cX9_lift 46 = .ok (.aload_n 0, 1) := by decide +kernel
theorem dX9_lift_47 : decode cX9_lift 47 = .ok (.getfield 10, 3) := by decide +kernel
theorem dX9_lift_50 : decode cX9_lift 50 = .ok (.iload_n 1, 1) := by decide +kernel
theorem dX9_lift_51 : decode cX9_lift 51 = .ok (.iload_n 2, 1) := by decide +kernel
theorem dX9_lift_52 : decode cX9_lift 52 = .ok (.invokevirtual 145, 3) := by decide +kernel
theorem dX9_lift_55 : decode cX9_lift 55 = .ok (.iload_n 3, 1) := by decide +kernel
theorem dX9_lift_56 : decode cX9_lift 56 = .ok (.ireturn, 1) := by decide +kernel
theorem dX9_draw_0 : decode cX9_draw 0 = .ok (.aload_n 0, 1) := by decide +kernel
theorem dX9_draw_1 : decode cX9_draw 1 = .ok (.getfield 29, 3) := by decide +kernel
theorem dX9_draw_4 : decode cX9_draw 4 = .ok (.aload_n 0, 1) := by decide +kernel
theorem dX9_draw_5 : decode cX9_draw 5 = .ok (.getfield 10, 3) := by decide +kernel
theorem dX9_draw_8 : decode cX9_draw 8 = .ok (.invokevirtual 135, 3) := by decide +kernel
theorem dX9_draw_11 : decode cX9_draw 11 = .ok (.aload_n 0, 1) := by decide +kernel
theorem dX9_draw_12 : decode cX9_draw 12 = .ok (.getfield 10, 3) := by decide +kernel
theorem dX9_draw_15 : decode cX9_draw 15 = .ok (.iload_n 1, 1) := by decide +kernel
theorem dX9_draw_16 : decode cX9_draw 16 = .ok (.invokevirtual 149, 3) := by decide +kernel
theorem dX9_draw_19 : decode cX9_draw 19 = .ok (.aload_n 0, 1) := by decide +kernel
theorem dX9_draw_20 : decode cX9_draw 20 = .ok (.getfield 10, 3) := by decide +kernel
theorem dX9_draw_23 : decode cX9_draw 23 = .ok (.getfield 152, 3) := by decide +kernel
theorem dX9_draw_26 : decode cX9_draw 26 = .ok (.aload_n 0, 1) := by decide +kernel
theorem dX9_draw_27 : decode cX9_draw 27 = .ok (.getfield 10, 3) := by decide +kernel
theorem dX9_draw_30 : decode cX9_draw 30 = .ok (.iconst 0, 1) := by decide +kernel
theorem dX9_draw_31 : decode cX9_draw 31 = .ok (.invokevirtual 155, 3) := by decide +kernel
theorem dX9_draw_34 : decode cX9_draw 34 = .ok (.isub, 1) := by decide +kernel
theorem dX9_draw_35 : decode cX9_draw 35 = .ok (.ireturn, 1) := by decide +kernel
theorem dX9_thin_0 : decode cX9_thin 0 = .ok (.iload_n 1, 1) := by decide +kernel
theorem dX9_thin_1 : decode cX9_thin 1 = .ok (.iconst 1, 1) := by decide +kernel
theorem dX9_thin_2 : decode cX9_thin 2 = .ok (.if_icmp .lt 9, 3) := by decide +kernel
theorem dX9_thin_5 : decode cX9_thin 5 = .ok (.iload_n 1, 1) := by decide +kernel
theorem dX9_thin_6 : decode cX9_thin 6 = .ok (.bipush 9, 2) := by decide +kernel
theorem dX9_thin_8 : decode cX9_thin 8 = .ok (.if_icmp .le 6, 3) := by decide +kernel
theorem dX9_thin_11 : decode cX9_thin 11 = .ok (.bipush (-3), 2) := by decide +kernel
theorem dX9_thin_13 : decode cX9_thin 13 = .ok (.ireturn, 1) := by decide +kernel
theorem dX9_thin_14 : decode cX9_thin 14 = .ok (.aload_n 0, 1) := by decide +kernel
theorem dX9_thin_15 : decode cX9_thin 15 = .ok (.getfield 29, 3) := by decide +kernel
theorem dX9_thin_18 : decode cX9_thin 18 = .ok (.aload_n 0, 1) := by decide +kernel
theorem dX9_thin_19 : decode cX9_thin 19 = .ok (.getfield 10, 3) := by decide +kernel
theorem dX9_thin_22 : decode cX9_thin 22 = .ok (.invokevirtual 135, 3) := by decide +kernel
theorem dX9_thin_25 : decode cX9_thin 25 = .ok (.aload_n 0, 1) := by decide +kernel
theorem dX9_thin_26 : decode cX9_thin 26 = .ok (.getfield 65, 3) := by decide +kernel
theorem dX9_thin_29 : decode cX9_thin 29 = .ok (.aload_n 0, 1) := by decide +kernel
