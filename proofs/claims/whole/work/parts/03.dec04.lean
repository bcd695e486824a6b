theorem dX10_reads_6 : decode cX10_reads 6 = .ok (.iconst 0, 1) := by decide +kernel
theorem dX10_reads_7 : decode cX10_reads 7 = .ok (.putfield 65, 3) := by decide +kernel
theorem dX10_reads_10 : decode cX10_reads 10 = .ok (.aload_n 0, 1) := by decide +kernel
theorem dX10_reads_11 : decode cX10_reads 11 = .ok (.iconst 1, 1) := by decide +kernel
theorem dX10_reads_12 : decode cX10_reads 12 = .ok (.putfield 120, 3) := by decide +kernel
theorem dX10_reads_15 : decode cX10_reads 15 = .ok (.aload_n 0, 1) := by decide +kernel
theorem dX10_reads_16 : decode cX10_reads 16 = .ok (.aload_n 0, 1) := by decide +kernel
theorem dX10_reads_17 : decode cX10_reads 17 = .ok (.getfield 13, 3) := by decide +kernel
theorem dX10_reads_20 : decode cX10_reads 20 = .ok (.putfield 85, 3) := by decide +kernel
theorem dX10_reads_23 : decode cX10_reads 23 = .ok (.aload_n 0, 1) := by decide +kernel
theorem dX10_reads_24 : decode cX10_reads 24 = .ok (.aload_n 0, 1) := by decide +kernel
theorem dX10_reads_25 : decode cX10_reads 25 = .ok (.invokevirtual 123, 3) := by decide +kernel
theorem dX10_reads_28 : decode cX10_reads 28 = .ok (.putfield 88, 3) := by decide +kernel
theorem dX10_reads_31 : decode cX10_reads 31 = .ok (.iconst 0, 1) := by decide +kernel
theorem dX10_reads_32 : decode cX10_reads 32 = .ok (.istore_n 2, 1) := by decide +kernel
theorem dX10_reads_33 : decode cX10_reads 33 = .ok (.iload_n 2, 1) := by decide +kernel
theorem dX10_reads_34 : decode cX10_reads 34 = .ok (.sipush 144, 3) := by decide +kernel
theorem dX10_reads_37 : decode cX10_reads 37 = .ok (.if_icmp .ge 29, 3) := by decide +kernel
theorem dX10_reads_40 : decode cX10_reads 40 = .ok (.aload_n 0, 1) := by decide +kernel
theorem dX10_reads_41 : decode cX10_reads 41 = .ok (.getfield 27, 3) := by decide +kernel
theorem dX10_reads_44 : decode cX10_reads 44 = .ok (.iload_n 2, 1) := by decide +kernel
theorem dX10_reads_45 : decode cX10_reads 45 = .ok (.aload_n 0, 1) := by decide +kernel
theorem dX10_reads_46 : decode cX10_reads 46 = .ok (.getfield 7, 3) := by decide +kernel
theorem dX10_reads_49 : decode cX10_reads 49 = .ok (.iload_n 2, 1) := by decide +kernel
theorem dX10_reads_50 : decode cX10_reads 50 = .ok (.iaload, 1) := by decide +kernel
theorem dX10_reads_51 : decode cX10_reads 51 = .ok (.ifCond .le 7, 3) := by decide +kernel
theorem dX10_reads_54 : decode cX10_reads 54 = .ok (.iconst 1, 1) := by decide +kernel
theorem dX10_reads_55 : decode cX10_reads 55 = .ok (.goto 4, 3) := by decide +kernel
theorem dX10_reads_58 : decode cX10_reads 58 = .ok (.iconst 0, 1) := by decide +kernel
theorem dX10_reads_59 : decode cX10_reads 59 = .ok (.bastore, 1) := by decide +kernel
theorem dX10_reads_60 : decode cX10_reads 60 = .ok (.iinc 2 1, 3) := by decide +kernel
theorem dX10_reads_63 : decode cX10_reads 63 = .ok (.goto (-30), 3) := by decide +kernel
theorem dX10_reads_66 : decode cX10_reads 66 = .ok (.aload_n 0, 1) := by decide +kernel
theorem dX10_reads_67 : decode cX10_reads 67 = .ok (.invokevirtual 82, 3) := by decide +kernel
theorem dX10_reads_70 : decode cX10_reads 70 = .ok (.aload_n 0, 1) := by decide +kernel
theorem dX10_reads_71 : decode cX10_reads 71 = .ok (.invokevirtual 126, 3) := by decide +kernel
theorem dX10_reads_74 : decode cX10_reads 74 = .ok (.istore_n 2, 1) := by decide +kernel
theorem dX10_reads_75 : decode cX10_reads 75 = .ok (.iload_n 2, 1) := by decide +kernel
theorem dX10_reads_76 : decode cX10_reads 76 = .ok (.ifCond .eq 69, 3) := by decide +kernel
theorem dX10_reads_79 : decode cX10_reads 79 = .ok (.aload_n 0, 1) := by decide +kernel
theorem dX10_reads_80 : decode cX10_reads 80 = .ok (.getfield 68, 3) := by decide +kernel
theorem dX10_reads_83 : decode cX10_reads 83 = .ok (.aload_n 0, 1) := by decide +kernel
theorem dX10_reads_84 : decode cX10_reads 84 = .ok (.getfield 54, 3) := by decide +kernel
theorem dX10_reads_87 : decode cX10_reads 87 = .ok (.if_icmp .ge 58, 3) := by decide +kernel
theorem dX10_reads_90 : decode cX10_reads 90 = .ok (.aload_n 0, 1) := by decide +kernel
theorem dX10_reads_91 : decode cX10_reads 91 = .ok (.getfield 120, 3) := by decide +kernel
theorem dX10_reads_94 : decode cX10_reads 94 = .ok (.bipush 24, 2) := by decide +kernel
theorem dX10_reads_96 : decode cX10_reads 96 = .ok (.if_icmp .ge 21, 3) := by decide +kernel
theorem dX10_reads_99 : decode cX10_reads 99 = .ok (.aload_n 0, 1) := by decide +kernel
theorem dX10_reads_100 : decode cX10_reads 100 = .ok (.getfield 24, 3) := by decide +kernel
theorem dX10_reads_103 : decode cX10_reads 103 = .ok (.aload_n 0, 1) := by decide +kernel
theorem dX10_reads_104 : decode cX10_reads 104 = .ok (.getfield 68, 3) := by decide +kernel
theorem dX10_reads_107 : decode cX10_reads 107 = .ok (.iaload, 1) := by decide +kernel
theorem dX10_reads_108 : decode cX10_reads 108 = .ok (.bipush 59, 2) := by decide +kernel
theorem dX10_reads_110 : decode cX10_reads 110 = .ok (.if_icmp .ne 7, 3) := by decide +kernel
theorem dX10_reads_113 : decode cX10_reads 113 = .ok (.iconst 1, 1) := by decide +kernel
theorem dX10_reads_114 : decode cX10_reads 114 = .ok (.goto 4, 3) := by decide +kernel
theorem dX10_reads_117 : decode cX10_reads 117 = .ok (.iconst 0, 1) := by decide +kernel
theorem dX10_reads_118 : decode cX10_reads 118 = .ok (.istore_n 2, 1) := by decide +kernel
theorem dX10_reads_119 : decode cX10_reads 119 = .ok (.iload_n 2, 1) := by decide +kernel
theorem dX10_reads_120 : decode cX10_reads 120 = .ok (.ifCond .eq (-45), 3) := by decide +kernel
theorem dX10_reads_123 : decode cX10_reads 123 = .ok (.aload_n 0, 1) := by decide +kernel
theorem dX10_reads_124 : decode cX10_reads 124 = .ok (.invokevirtual 82, 3) := by decide +kernel
theorem dX10_reads_127 : decode cX10_reads 127 = .ok (.aload_n 0, 1) := by decide +kernel
theorem dX10_reads_128 : decode cX10_reads 128 = .ok (.invokevirtual 126, 3) := by decide +kernel
theorem dX10_reads_131 : decode cX10_reads 131 = .ok (.istore_n 2, 1) := by decide +kernel
theorem dX10_reads_132 : decode cX10_reads 132 = .ok (.aload_n 0, 1) := by decide +kernel
theorem dX10_reads_133 : decode cX10_reads 133 = .ok (.dup, 1) := by decide +kernel
theorem dX10_reads_134 : decode cX10_reads 134 = .ok (.getfield 120, 3) := by decide +kernel
theorem dX10_reads_137 : decode cX10_reads 137 = .ok (.iconst 1, 1) := by decide +kernel
theorem dX10_reads_138 : decode cX10_reads 138 = .ok (.iadd, 1) := by decide +kernel
theorem dX10_reads_139 : decode cX10_reads 139 = .ok (.putfield 120, 3) := by decide +kernel
theorem dX10_reads_142 : decode cX10_reads 142 = .ok (.goto (-67), 3) := by decide +kernel
theorem dX10_reads_145 : decode cX10_reads 145 = .ok (.iload_n 2, 1) := by decide +kernel
theorem dX10_reads_146 : decode cX10_reads 146 = .ok (.ireturn, 1) := by decide +kernel
theorem dX10_fault_0 : decode cX10_fault 0 = .ok (.aload_n 0, 1) := by decide +kernel
theorem dX10_fault_1 : decode cX10_fault 1 = .ok (.iconst 0, 1) := by decide +kernel
theorem dX10_fault_2 : decode cX10_fault 2 = .ok (.invokevirtual 129, 3) := by decide +kernel
theorem dX10_fault_5 : decode cX10_fault 5 = .ok (.ifCond .eq 7, 3) := by decide +kernel
theorem dX10_fault_8 : decode cX10_fault 8 = .ok (.iconst (-1), 1) := by decide +kernel
theorem dX10_fault_9 : decode cX10_fault 9 = .ok (.goto 7, 3) := by decide +kernel
theorem dX10_fault_12 : decode cX10_fault 12 = .ok (.aload_n 0, 1) := by decide +kernel
theorem dX10_fault_13 : decode cX10_fault 13 = .ok (.getfield 68, 3) := by decide +kernel
theorem dX10_fault_16 : decode cX10_fault 16 = .ok (.ireturn, 1) := by decide +kernel
theorem dX10_net_0 : decode cX10_net 0 = .ok (.aload_n 0, 1) := by decide +kernel
theorem dX10_net_1 : decode cX10_net 1 = .ok (.iconst 0, 1) := by decide +kernel
theorem dX10_net_2 : decode cX10_net 2 = .ok (.invokevirtual 129, 3) := by decide +kernel
theorem dX10_net_5 : decode cX10_net 5 = .ok (.ifCond .ne 6, 3) := by decide +kernel
theorem dX10_net_8 : decode cX10_net 8 = .ok (.bipush (-4), 2) := by decide +kernel
theorem dX10_net_10 : decode cX10_net 10 = .ok (.ireturn, 1) := by decide +kernel
theorem dX10_net_11 : decode cX10_net 11 = .ok (.aload_n 0, 1) := by decide +kernel
theorem dX10_net_12 : decode cX10_net 12 = .ok (.iconst 1, 1) := by decide +kernel
theorem dX10_net_13 : decode cX10_net 13 = .ok (.invokevirtual 129, 3) := by decide +kernel
theorem dX10_net_16 : decode cX10_net 16 = .ok (.pop, 1) := by decide +kernel
theorem dX10_net_17 : decode cX10_net 17 = .ok (.aload_n 0, 1) := by decide +kernel
theorem dX10_net_18 : decode cX10_net 18 = .ok (.iconst 0, 1) := by decide +kernel
theorem dX10_net_19 : decode cX10_net 19 = .ok (.putfield 54, 3) := by decide +kernel
theorem dX10_net_22 : decode cX10_net 22 = .ok (.aload_n 0, 1) := by decide +kernel
theorem dX10_net_23 : decode cX10_net 23 = .ok (.iconst 0, 1) := by decide +kernel
theorem dX10_net_24 : decode cX10_net 24 = .ok (.putfield 133, 3) := by decide +kernel
theorem dX10_net_27 : decode cX10_net 27 = .ok (.aload_n 0, 1) := by decide +kernel
theorem dX10_net_28 : decode cX10_net 28 = .ok (.getfield 20, 3) := by decide +kernel
theorem dX10_net_31 : decode cX10_net 31 = .ok (.iconst 0, 1) := by decide +kernel
theorem dX10_net_32 : decode cX10_net 32 = .ok (.iconst 0, 1) := by decide +kernel
theorem dX10_net_33 : decode cX10_net 33 = .ok (.bastore, 1) := by decide +kernel
theorem dX10_net_34 : decode cX10_net 34 = .ok (.aload_n 0, 1) := by decide +kernel
theorem dX10_net_35 : decode cX10_net 35 = .ok (.getfield 20, 3) := by decide +kernel
theorem dX10_net_38 : decode cX10_net 38 = .ok (.iconst 1, 1) := by decide +kernel
theorem dX10_net_39 : decode cX10_net 39 = .ok (.iconst 0, 1) := by decide +kernel
theorem dX10_net_40 : decode cX10_net 40 = .ok (.bastore, 1) := by decide +kernel
theorem dX10_net_41 : decode cX10_net 41 = .ok (.aload_n 0, 1) := by decide +kernel
theorem dX10_net_42 : decode cX10_net 42 = .ok (.getfield 120, 3) := by decide +kernel
theorem dX10_net_45 : decode cX10_net 45 = .ok (.ireturn, 1) := by decide +kernel
theorem dX10_link_0 : decode cX10_link 0 = .ok (.aload_n 0, 1) := by decide +kernel
theorem dX10_link_1 : decode cX10_link 1 = .ok (.iload_n 1, 1) := by decide +kernel
theorem dX10_link_2 : decode cX10_link 2 = .ok (.invokevirtual 136, 3) := by decide +kernel
theorem dX10_link_5 : decode cX10_link 5 = .ok (.istore_n 3, 1) := by decide +kernel
theorem dX10_link_6 : decode cX10_link 6 = .ok (.iload_n 3, 1) := by decide +kernel
theorem dX10_link_7 : decode cX10_link 7 = .ok (.ifCond .ge 6, 3) := by decide +kernel
theorem dX10_link_10 : decode cX10_link 10 = .ok (.bipush (-2), 2) := by decide +kernel
theorem dX10_link_12 : decode cX10_link 12 = .ok (.ireturn, 1) := by decide +kernel
theorem dX10_link_13 : decode cX10_link 13 = .ok (.iload_n 2, 1) := by decide +kernel
theorem dX10_link_14 : decode cX10_link 14 = .ok (.tableswitch 43 0 2 #[26, 31, 36], 26) := by decide +kernel
theorem dX10_link_40 : decode cX10_link 40 = .ok (.iload_n 3, 1) := by decide +kernel
theorem dX10_link_41 : decode cX10_link 41 = .ok (.bipush 12, 2) := by decide +kernel
theorem dX10_link_43 : decode cX10_link 43 = .ok (.idiv, 1) := by decide +kernel
theorem dX10_link_44 : decode cX10_link 44 = .ok (.ireturn, 1) := by decide +kernel
theorem dX10_link_45 : decode cX10_link 45 = .ok (.iload_n 3, 1) := by decide +kernel
theorem dX10_link_46 : decode cX10_link 46 = .ok (.bipush 12, 2) := by decide +kernel
theorem dX10_link_48 : decode cX10_link 48 = .ok (.irem, 1) := by decide +kernel
theorem dX10_link_49 : decode cX10_link 49 = .ok (.ireturn, 1) := by decide +kernel
theorem dX10_link_50 : decode cX10_link 50 = .ok (.aload_n 0, 1) := by decide +kernel
theorem dX10_link_51 : decode cX10_link 51 = .ok (.getfield 7, 3) := by decide +kernel
theorem dX10_link_54 : decode cX10_link 54 = .ok (.iload_n 3, 1) := by decide +kernel
theorem dX10_link_55 : decode cX10_link 55 = .ok (.iaload, 1) := by decide +kernel
theorem dX10_link_56 : decode cX10_link 56 = .ok (.ireturn, 1) := by decide +kernel
theorem dX10_link_57 : decode cX10_link 57 = .ok (.bipush (-3), 2) := by decide +kernel
theorem dX10_link_59 : decode cX10_link 59 = .ok (.ireturn, 1) := by decide +kernel
theorem dX10_level_0 : decode cX10_level 0 = .ok (.aload_n 0, 1) := by decide +kernel
theorem dX10_level_1 : decode cX10_level 1 = .ok (.iload_n 1, 1) := by decide +kernel
theorem dX10_level_2 : decode cX10_level 2 = .ok (.invokevirtual 140, 3) := by decide +kernel
theorem dX10_level_5 : decode cX10_level 5 = .ok (.ifCond .eq 16, 3) := by decide +kernel
theorem dX10_level_8 : decode cX10_level 8 = .ok (.aload_n 0, 1) := by decide +kernel
theorem dX10_level_9 : decode cX10_level 9 = .ok (.getfield 7, 3) := by decide +kernel
theorem dX10_level_12 : decode cX10_level 12 = .ok (.sipush 144, 3) := by decide +kernel
theorem dX10_level_15 : decode cX10_level 15 = .ok (.iload_n 1, 1) := by decide +kernel
theorem dX10_level_16 : decode cX10_level 16 = .ok (.iadd, 1) := by decide +kernel
theorem dX10_level_17 : decode cX10_level 17 = .ok (.iaload, 1) := by decide +kernel
theorem dX10_level_18 : decode cX10_level 18 = .ok (.goto 5, 3) := by decide +kernel
theorem dX10_level_21 : decode cX10_level 21 = .ok (.bipush (-2), 2) := by decide +kernel
theorem dX10_level_23 : decode cX10_level 23 = .ok (.ireturn, 1) := by decide +kernel
theorem dX10_finds_0 : decode cX10_finds 0 = .ok (.iconst 0, 1) := by decide +kernel
theorem dX10_finds_1 : decode cX10_finds 1 = .ok (.istore_n 2, 1) := by decide +kernel
theorem dX10_finds_2 : decode cX10_finds 2 = .ok (.iload_n 2, 1) := by decide +kernel
theorem dX10_finds_3 : decode cX10_finds 3 = .ok (.sipush 144, 3) := by decide +kernel
theorem dX10_finds_6 : decode cX10_finds 6 = .ok (.if_icmp .ge 73, 3) := by decide +kernel
theorem dX10_finds_9 : decode cX10_finds 9 = .ok (.aload_n 0, 1) := by decide +kernel
theorem dX10_finds_10 : decode cX10_finds 10 = .ok (.getfield 7, 3) := by decide +kernel
theorem dX10_finds_13 : decode cX10_finds 13 = .ok (.iload_n 2, 1) := by decide +kernel
theorem dX10_finds_14 : decode cX10_finds 14 = .ok (.iaload, 1) := by decide +kernel
theorem dX10_finds_15 : decode cX10_finds 15 = .ok (.ifCond .le 20, 3) := by decide +kernel
theorem dX10_finds_18 : decode cX10_finds 18 = .ok (.iload_n 1, 1) := by decide +kernel
theorem dX10_finds_19 : decode cX10_finds 19 = .ok (.ifCond .eq 12, 3) := by decide +kernel
theorem dX10_finds_22 : decode cX10_finds 22 = .ok (.aload_n 0, 1) := by decide +kernel
theorem dX10_finds_23 : decode cX10_finds 23 = .ok (.getfield 39, 3) := by decide +kernel
theorem dX10_finds_26 : decode cX10_finds 26 = .ok (.iload_n 2, 1) := by decide +kernel
theorem dX10_finds_27 : decode cX10_finds 27 = .ok (.baload, 1) := by decide +kernel
theorem dX10_finds_28 : decode cX10_finds 28 = .ok (.ifCond .eq 7, 3) := by decide +kernel
theorem dX10_finds_31 : decode cX10_finds 31 = .ok (.iconst 1, 1) := by decide +kernel
theorem dX10_finds_32 : decode cX10_finds 32 = .ok (.goto 4, 3) := by decide +kernel
theorem dX10_finds_35 : decode cX10_finds 35 = .ok (.iconst 0, 1) := by decide +kernel
theorem dX10_finds_36 : decode cX10_finds 36 = .ok (.istore_n 3, 1) := by decide +kernel
theorem dX10_finds_37 : decode cX10_finds 37 = .ok (.aload_n 0, 1) := by decide +kernel
theorem dX10_finds_38 : decode cX10_finds 38 = .ok (.getfield 36, 3) := by decide +kernel
theorem dX10_finds_41 : decode cX10_finds 41 = .ok (.iload_n 2, 1) := by decide +kernel
theorem dX10_finds_42 : decode cX10_finds 42 = .ok (.iload_n 2, 1) := by decide +kernel
theorem dX10_finds_43 : decode cX10_finds 43 = .ok (.bipush 12, 2) := by decide +kernel
theorem dX10_finds_45 : decode cX10_finds 45 = .ok (.idiv, 1) := by decide +kernel
theorem dX10_finds_46 : decode cX10_finds 46 = .ok (.iload_n 2, 1) := by decide +kernel
theorem dX10_finds_47 : decode cX10_finds 47 = .ok (.bipush 12, 2) := by decide +kernel
theorem dX10_finds_49 : decode cX10_finds 49 = .ok (.irem, 1) := by decide +kernel
theorem dX10_finds_50 : decode cX10_finds 50 = .ok (.if_icmp .ne 7, 3) := by decide +kernel
theorem dX10_finds_53 : decode cX10_finds 53 = .ok (.iconst 0, 1) := by decide +kernel
theorem dX10_finds_54 : decode cX10_finds 54 = .ok (.goto 18, 3) := by decide +kernel
theorem dX10_finds_57 : decode cX10_finds 57 = .ok (.iload_n 3, 1) := by decide +kernel
theorem dX10_finds_58 : decode cX10_finds 58 = .ok (.ifCond .eq 12, 3) := by decide +kernel
theorem dX10_finds_61 : decode cX10_finds 61 = .ok (.aload_n 0, 1) := by decide +kernel
theorem dX10_finds_62 : decode cX10_finds 62 = .ok (.getfield 7, 3) := by decide +kernel
theorem dX10_finds_65 : decode cX10_finds 65 = .ok (.iload_n 2, 1) := by decide +kernel
theorem dX10_finds_66 : decode cX10_finds 66 = .ok (.iaload, 1) := by decide +kernel
theorem dX10_finds_67 : decode cX10_finds 67 = .ok (.goto 5, 3) := by decide +kernel
theorem dX10_finds_70 : decode cX10_finds 70 = .ok (.ldc 143, 2) := by decide +kernel
theorem dX10_finds_72 : decode cX10_finds 72 = .ok (.iastore, 1) := by decide +kernel
theorem dX10_finds_73 : decode cX10_finds 73 = .ok (.iinc 2 1, 3) := by decide +kernel
theorem dX10_finds_76 : decode cX10_finds 76 = .ok (.goto (-74), 3) := by decide +kernel
theorem dX10_finds_79 : decode cX10_finds 79 = .ok (.iconst 0, 1) := by decide +kernel
theorem dX10_finds_80 : decode cX10_finds 80 = .ok (.istore_n 2, 1) := by decide +kernel
theorem dX10_finds_81 : decode cX10_finds 81 = .ok (.iload_n 2, 1) := by decide +kernel
theorem dX10_finds_82 : decode cX10_finds 82 = .ok (.aload_n 0, 1) := by decide +kernel
theorem dX10_finds_83 : decode cX10_finds 83 = .ok (.getfield 13, 3) := by decide +kernel
theorem dX10_finds_86 : decode cX10_finds 86 = .ok (.if_icmp .ge 115, 3) := by decide +kernel
theorem dX10_finds_89 : decode cX10_finds 89 = .ok (.iconst 0, 1) := by decide +kernel
theorem dX10_finds_90 : decode cX10_finds 90 = .ok (.istore_n 3, 1) := by decide +kernel
theorem dX10_finds_91 : decode cX10_finds 91 = .ok (.iload_n 3, 1) := by decide +kernel
theorem dX10_finds_92 : decode cX10_finds 92 = .ok (.aload_n 0, 1) := by decide +kernel
theorem dX10_finds_93 : decode cX10_finds 93 = .ok (.getfield 13, 3) := by decide +kernel
theorem dX10_finds_96 : decode cX10_finds 96 = .ok (.if_icmp .ge 99, 3) := by decide +kernel
theorem dX10_finds_99 : decode cX10_finds 99 = .ok (.iconst 0, 1) := by decide +kernel
theorem dX10_finds_100 : decode cX10_finds 100 = .ok (.istore 4, 2) := by decide +kernel
theorem dX10_finds_102 : decode cX10_finds 102 = .ok (.iload 4, 2) := by decide +kernel
theorem dX10_finds_104 : decode cX10_finds 104 = .ok (.aload_n 0, 1) := by decide +kernel
theorem dX10_finds_105 : decode cX10_finds 105 = .ok (.getfield 13, 3) := by decide +kernel
theorem dX10_finds_108 : decode cX10_finds 108 = .ok (.if_icmp .ge 81, 3) := by decide +kernel
theorem dX10_finds_111 : decode cX10_finds 111 = .ok (.aload_n 0, 1) := by decide +kernel
theorem dX10_finds_112 : decode cX10_finds 112 = .ok (.getfield 36, 3) := by decide +kernel
theorem dX10_finds_115 : decode cX10_finds 115 = .ok (.bipush 12, 2) := by decide +kernel
theorem dX10_finds_117 : decode cX10_finds 117 = .ok (.iload_n 3, 1) := by decide +kernel
theorem dX10_finds_118 : decode cX10_finds 118 = .ok (.imul, 1) := by decide +kernel
theorem dX10_finds_119 : decode cX10_finds 119 = .ok (.iload_n 2, 1) := by decide +kernel
theorem dX10_finds_120 : decode cX10_finds 120 = .ok (.iadd, 1) := by decide +kernel
theorem dX10_finds_121 : decode cX10_finds 121 = .ok (.iaload, 1) := by decide +kernel
theorem dX10_finds_122 : decode cX10_finds 122 = .ok (.aload_n 0, 1) := by decide +kernel
theorem dX10_finds_123 : decode cX10_finds 123 = .ok (.getfield 36, 3) := by decide +kernel
theorem dX10_finds_126 : decode cX10_finds 126 = .ok (.bipush 12, 2) := by decide +kernel
theorem dX10_finds_128 : decode cX10_finds 128 = .ok (.iload_n 2, 1) := by decide +kernel
theorem dX10_finds_129 : decode cX10_finds 129 = .ok (.imul, 1) := by decide +kernel
theorem dX10_finds_130 : decode cX10_finds 130 = .ok (.iload 4, 2) := by decide +kernel
theorem dX10_finds_132 : decode cX10_finds 132 = .ok (.iadd, 1) := by decide +kernel
theorem dX10_finds_133 : decode cX10_finds 133 = .ok (.iaload, 1) := by decide +kernel
theorem dX10_finds_134 : decode cX10_finds 134 = .ok (.iadd, 1) := by decide +kernel
theorem dX10_finds_135 : decode cX10_finds 135 = .ok (.istore 5, 2) := by decide +kernel
theorem dX10_finds_137 : decode cX10_finds 137 = .ok (.aload_n 0, 1) := by decide +kernel
theorem dX10_finds_138 : decode cX10_finds 138 = .ok (.getfield 36, 3) := by decide +kernel
theorem dX10_finds_141 : decode cX10_finds 141 = .ok (.bipush 12, 2) := by decide +kernel
theorem dX10_finds_143 : decode cX10_finds 143 = .ok (.iload_n 3, 1) := by decide +kernel
theorem dX10_finds_144 : decode cX10_finds 144 = .ok (.imul, 1) := by decide +kernel
theorem dX10_finds_145 : decode cX10_finds 145 = .ok (.iload 4, 2) := by decide +kernel
theorem dX10_finds_147 : decode cX10_finds 147 = .ok (.iadd, 1) := by decide +kernel
theorem dX10_finds_148 : decode cX10_finds 148 = .ok (.iload 5, 2) := by decide +kernel
theorem dX10_finds_150 : decode cX10_finds 150 = .ok (.aload_n 0, 1) := by decide +kernel
theorem dX10_finds_151 : decode cX10_finds 151 = .ok (.getfield 36, 3) := by decide +kernel
theorem dX10_finds_154 : decode cX10_finds 154 = .ok (.bipush 12, 2) := by decide +kernel
theorem dX10_finds_156 : decode cX10_finds 156 = .ok (.iload_n 3, 1) := by decide +kernel
theorem dX10_finds_157 : decode cX10_finds 157 = .ok (.imul, 1) := by decide +kernel
theorem dX10_finds_158 : decode cX10_finds 158 = .ok (.iload 4, 2) := by decide +kernel
theorem dX10_finds_160 : decode cX10_finds 160 = .ok (.iadd, 1) := by decide +kernel
theorem dX10_finds_161 : decode cX10_finds 161 = .ok (.iaload, 1) := by decide +kernel
theorem dX10_finds_162 : decode cX10_finds 162 = .ok (.if_icmp .ge 8, 3) := by decide +kernel
theorem dX10_finds_165 : decode cX10_finds 165 = .ok (.iload 5, 2) := by decide +kernel
theorem dX10_finds_167 : decode cX10_finds 167 = .ok (.goto 15, 3) := by decide +kernel
theorem dX10_finds_170 : decode cX10_finds 170 = .ok (.aload_n 0, 1) := by decide +kernel
theorem dX10_finds_171 : decode cX10_finds 171 = .ok (.getfield 36, 3) := by decide +kernel
theorem dX10_finds_174 : decode cX10_finds 174 = .ok (.bipush 12, 2) := by decide +kernel
theorem dX10_finds_176 : decode cX10_finds 176 = .ok (.iload_n 3, 1) := by decide +kernel
theorem dX10_finds_177 : decode cX10_finds 177 = .ok (.imul, 1) := by decide +kernel
theorem dX10_finds_178 : decode cX10_finds 178 = .ok (.iload 4, 2) := by decide +kernel
theorem dX10_finds_180 : decode cX10_finds 180 = .ok (.iadd, 1) := by decide +kernel
theorem dX10_finds_181 : decode cX10_finds 181 = .ok (.iaload, 1) := by decide +kernel
theorem dX10_finds_182 : decode cX10_finds 182 = .ok (.iastore, 1) := by decide +kernel
theorem dX10_finds_183 : decode cX10_finds 183 = .ok (.iinc 4 1, 3) := by decide +kernel
theorem dX10_finds_186 : decode cX10_finds 186 = .ok (.goto (-84), 3) := by decide +kernel
theorem dX10_finds_189 : decode cX10_finds 189 = .ok (.iinc 3 1, 3) := by decide +kernel
theorem dX10_finds_192 : decode cX10_finds 192 = .ok (.goto (-101), 3) := by decide +kernel
theorem dX10_finds_195 : decode cX10_finds 195 = .ok (.iinc 2 1, 3) := by decide +kernel
theorem dX10_finds_198 : decode cX10_finds 198 = .ok (.goto (-117), 3) := by decide +kernel
theorem dX10_finds_201 : decode cX10_finds 201 = .ok (.return_, 1) := by decide +kernel
theorem dX10_isWay_0 : decode cX10_isWay 0 = .ok (.aload_n 0, 1) := by decide +kernel
theorem dX10_isWay_1 : decode cX10_isWay 1 = .ok (.getfield 36, 3) := by decide +kernel
theorem dX10_isWay_4 : decode cX10_isWay 4 = .ok (.bipush 12, 2) := by decide +kernel
theorem dX10_isWay_6 : decode cX10_isWay 6 = .ok (.iload_n 1, 1) := by decide +kernel
theorem dX10_isWay_7 : decode cX10_isWay 7 = .ok (.imul, 1) := by decide +kernel
theorem dX10_isWay_8 : decode cX10_isWay 8 = .ok (.iload_n 2, 1) := by decide +kernel
theorem dX10_isWay_9 : decode cX10_isWay 9 = .ok (.iadd, 1) := by decide +kernel
theorem dX10_isWay_10 : decode cX10_isWay 10 = .ok (.iaload, 1) := by decide +kernel
theorem dX10_isWay_11 : decode cX10_isWay 11 = .ok (.ldc 143, 2) := by decide +kernel
theorem dX10_isWay_13 : decode cX10_isWay 13 = .ok (.if_icmp .ge 7, 3) := by decide +kernel
theorem dX10_isWay_16 : decode cX10_isWay 16 = .ok (.iconst 1, 1) := by decide +kernel
theorem dX10_isWay_17 : decode cX10_isWay 17 = .ok (.goto 4, 3) := by decide +kernel
theorem dX10_isWay_20 : decode cX10_isWay 20 = .ok (.iconst 0, 1) := by decide +kernel
theorem dX10_isWay_21 : decode cX10_isWay 21 = .ok (.ireturn, 1) := by decide +kernel
theorem dX10_distance_0 : decode cX10_distance 0 = .ok (.aload_n 0, 1) := by decide +kernel
theorem dX10_distance_1 : decode cX10_distance 1 = .ok (.iload_n 1, 1) := by decide +kernel
theorem dX10_distance_2 : decode cX10_distance 2 = .ok (.invokevirtual 140, 3) := by decide +kernel
theorem dX10_distance_5 : decode cX10_distance 5 = .ok (.ifCond .eq 11, 3) := by decide +kernel
theorem dX10_distance_8 : decode cX10_distance 8 = .ok (.aload_n 0, 1) := by decide +kernel
theorem dX10_distance_9 : decode cX10_distance 9 = .ok (.iload_n 2, 1) := by decide +kernel
theorem dX10_distance_10 : decode cX10_distance 10 = .ok (.invokevirtual 140, 3) := by decide +kernel
theorem dX10_distance_13 : decode cX10_distance 13 = .ok (.ifCond .ne 6, 3) := by decide +kernel
theorem dX10_distance_16 : decode cX10_distance 16 = .ok (.bipush (-2), 2) := by decide +kernel
theorem dX10_distance_18 : decode cX10_distance 18 = .ok (.ireturn, 1) := by decide +kernel
theorem dX10_distance_19 : decode cX10_distance 19 = .ok (.aload_n 0, 1) := by decide +kernel
theorem dX10_distance_20 : decode cX10_distance 20 = .ok (.iconst 0, 1) := by decide +kernel
theorem dX10_distance_21 : decode cX10_distance 21 = .ok (.invokevirtual 144, 3) := by decide +kernel
theorem dX10_distance_24 : decode cX10_distance 24 = .ok (.aload_n 0, 1) := by decide +kernel
theorem dX10_distance_25 : decode cX10_distance 25 = .ok (.iload_n 1, 1) := by decide +kernel
theorem dX10_distance_26 : decode cX10_distance 26 = .ok (.iload_n 2, 1) := by decide +kernel
theorem dX10_distance_27 : decode cX10_distance 27 = .ok (.invokevirtual 148, 3) := by decide +kernel
theorem dX10_distance_30 : decode cX10_distance 30 = .ok (.ifCond .eq 17, 3) := by decide +kernel
theorem dX10_distance_33 : decode cX10_distance 33 = .ok (.aload_n 0, 1) := by decide +kernel
theorem dX10_distance_34 : decode cX10_distance 34 = .ok (.getfield 36, 3) := by decide +kernel
theorem dX10_distance_37 : decode cX10_distance 37 = .ok (.bipush 12, 2) := by decide +kernel
theorem dX10_distance_39 : decode cX10_distance 39 = .ok (.iload_n 1, 1) := by decide +kernel
theorem dX10_distance_40 : decode cX10_distance 40 = .ok (.imul, 1) := by decide +kernel
theorem dX10_distance_41 : decode cX10_distance 41 = .ok (.iload_n 2, 1) := by decide +kernel
theorem dX10_distance_42 : decode cX10_distance 42 = .ok (.iadd, 1) := by decide +kernel
theorem dX10_distance_43 : decode cX10_distance 43 = .ok (.iaload, 1) := by decide +kernel
theorem dX10_distance_44 : decode cX10_distance 44 = .ok (.goto 4, 3) := by decide +kernel
theorem dX10_distance_47 : decode cX10_distance 47 = .ok (.iconst (-1), 1) := by decide +kernel
theorem dX10_distance_48 : decode cX10_distance 48 = .ok (.ireturn, 1) := by decide +kernel
theorem dX10_nearestOf_0 : decode cX10_nearestOf 0 = .ok (.iconst (-1), 1) := by decide +kernel
theorem dX10_nearestOf_1 : decode cX10_nearestOf 1 = .ok (.istore_n 3, 1) := by decide +kernel
theorem dX10_nearestOf_2 : decode cX10_nearestOf 2 = .ok (.iconst 0, 1) := by decide +kernel
theorem dX10_nearestOf_3 : decode cX10_nearestOf 3 = .ok (.istore 4, 2) := by decide +kernel
theorem dX10_nearestOf_5 : decode cX10_nearestOf 5 = .ok (.iload 4, 2) := by decide +kernel
theorem dX10_nearestOf_7 : decode cX10_nearestOf 7 = .ok (.aload_n 0, 1) := by decide +kernel
theorem dX10_nearestOf_8 : decode cX10_nearestOf 8 = .ok (.getfield 13, 3) := by decide +kernel
theorem dX10_nearestOf_11 : decode cX10_nearestOf 11 = .ok (.if_icmp .ge 68, 3) := by decide +kernel
theorem dX10_nearestOf_14 : decode cX10_nearestOf 14 = .ok (.aload_n 0, 1) := by decide +kernel
theorem dX10_nearestOf_15 : decode cX10_nearestOf 15 = .ok (.getfield 7, 3) := by decide +kernel
theorem dX10_nearestOf_18 : decode cX10_nearestOf 18 = .ok (.sipush 144, 3) := by decide +kernel
theorem dX10_nearestOf_21 : decode cX10_nearestOf 21 = .ok (.iload 4, 2) := by decide +kernel
theorem dX10_nearestOf_23 : decode cX10_nearestOf 23 = .ok (.iadd, 1) := by decide +kernel
theorem dX10_nearestOf_24 : decode cX10_nearestOf 24 = .ok (.iaload, 1) := by decide +kernel
theorem dX10_nearestOf_25 : decode cX10_nearestOf 25 = .ok (.iload_n 2, 1) := by decide +kernel
theorem dX10_nearestOf_26 : decode cX10_nearestOf 26 = .ok (.if_icmp .lt 47, 3) := by decide +kernel
theorem dX10_nearestOf_29 : decode cX10_nearestOf 29 = .ok (.aload_n 0, 1) := by decide +kernel
theorem dX10_nearestOf_30 : decode cX10_nearestOf 30 = .ok (.iload_n 1, 1) := by decide +kernel
theorem dX10_nearestOf_31 : decode cX10_nearestOf 31 = .ok (.iload 4, 2) := by decide +kernel
theorem dX10_nearestOf_33 : decode cX10_nearestOf 33 = .ok (.invokevirtual 148, 3) := by decide +kernel
theorem dX10_nearestOf_36 : decode cX10_nearestOf 36 = .ok (.ifCond .eq 37, 3) := by decide +kernel
theorem dX10_nearestOf_39 : decode cX10_nearestOf 39 = .ok (.iload_n 3, 1) := by decide +kernel
theorem dX10_nearestOf_40 : decode cX10_nearestOf 40 = .ok (.iconst (-1), 1) := by decide +kernel
theorem dX10_nearestOf_41 : decode cX10_nearestOf 41 = .ok (.if_icmp .eq 29, 3) := by decide +kernel
theorem dX10_nearestOf_44 : decode cX10_nearestOf 44 = .ok (.aload_n 0, 1) := by decide +kernel
theorem dX10_nearestOf_45 : decode cX10_nearestOf 45 = .ok (.getfield 36, 3) := by decide +kernel
theorem dX10_nearestOf_48 : decode cX10_nearestOf 48 = .ok (.bipush 12, 2) := by decide +kernel
theorem dX10_nearestOf_50 : decode cX10_nearestOf 50 = .ok (.iload_n 1, 1) := by decide +kernel
theorem dX10_nearestOf_51 : decode cX10_nearestOf 51 = .ok (.imul, 1) := by decide +kernel
theorem dX10_nearestOf_52 : decode cX10_nearestOf 52 = .ok (.iload 4, 2) := by decide +kernel
theorem dX10_nearestOf_54 : decode cX10_nearestOf 54 = .ok (.iadd, 1) := by decide +kernel
theorem dX10_nearestOf_55 : decode cX10_nearestOf 55 = .ok (.iaload, 1) := by decide +kernel
theorem dX10_nearestOf_56 : decode cX10_nearestOf 56 = .ok (.aload_n 0, 1) := by decide +kernel
theorem dX10_nearestOf_57 : decode cX10_nearestOf 57 = .ok (.getfield 36, 3) := by decide +kernel
theorem dX10_nearestOf_60 : decode cX10_nearestOf 60 = .ok (.bipush 12, 2) := by decide +kernel
theorem dX10_nearestOf_62 : decode cX10_nearestOf 62 = .ok (.iload_n 1, 1) := by decide +kernel
theorem dX10_nearestOf_63 : decode cX10_nearestOf 63 = .ok (.imul, 1) := by decide +kernel
theorem dX10_nearestOf_64 : decode cX10_nearestOf 64 = .ok (.iload_n 3, 1) := by decide +kernel
theorem dX10_nearestOf_65 : decode cX10_nearestOf 65 = .ok (.iadd, 1) := by decide +kernel
theorem dX10_nearestOf_66 : decode cX10_nearestOf 66 = .ok (.iaload, 1) := by decide +kernel
theorem dX10_nearestOf_67 : decode cX10_nearestOf 67 = .ok (.if_icmp .ge 6, 3) := by decide +kernel
theorem dX10_nearestOf_70 : decode cX10_nearestOf 70 = .ok (.iload 4, 2) := by decide +kernel
theorem dX10_nearestOf_72 : decode cX10_nearestOf 72 = .ok (.istore_n 3, 1) := by decide +kernel
theorem dX10_nearestOf_73 : decode cX10_nearestOf 73 = .ok (.iinc 4 1, 3) := by decide +kernel
theorem dX10_nearestOf_76 : decode cX10_nearestOf 76 = .ok (.goto (-71), 3) := by decide +kernel
theorem dX10_nearestOf_79 : decode cX10_nearestOf 79 = .ok (.iload_n 3, 1) := by decide +kernel
theorem dX10_nearestOf_80 : decode cX10_nearestOf 80 = .ok (.ireturn, 1) := by decide +kernel
theorem dX10_isInBunch_0 : decode cX10_isInBunch 0 = .ok (.aload_n 0, 1) := by decide +kernel
theorem dX10_isInBunch_1 : decode cX10_isInBunch 1 = .ok (.iload_n 1, 1) := by decide +kernel
theorem dX10_isInBunch_2 : decode cX10_isInBunch 2 = .ok (.aload_n 0, 1) := by decide +kernel
theorem dX10_isInBunch_3 : decode cX10_isInBunch 3 = .ok (.getfield 7, 3) := by decide +kernel
theorem dX10_isInBunch_6 : decode cX10_isInBunch 6 = .ok (.sipush 144, 3) := by decide +kernel
theorem dX10_isInBunch_9 : decode cX10_isInBunch 9 = .ok (.iload_n 2, 1) := by decide +kernel
theorem dX10_isInBunch_10 : decode cX10_isInBunch 10 = .ok (.iadd, 1) := by decide +kernel
theorem dX10_isInBunch_11 : decode cX10_isInBunch 11 = .ok (.iaload, 1) := by decide +kernel
theorem dX10_isInBunch_12 : decode cX10_isInBunch 12 = .ok (.iconst 1, 1) := by decide +kernel
theorem dX10_isInBunch_13 : decode cX10_isInBunch 13 = .ok (.iadd, 1) := by decide +kernel
theorem dX10_isInBunch_14 : decode cX10_isInBunch 14 = .ok (.invokevirtual 152, 3) := by decide +kernel
theorem dX10_isInBunch_17 : decode cX10_isInBunch 17 = .ok (.istore_n 3, 1) := by decide +kernel
theorem dX10_isInBunch_18 : decode cX10_isInBunch 18 = .ok (.aload_n 0, 1) := by decide +kernel
theorem dX10_isInBunch_19 : decode cX10_isInBunch 19 = .ok (.iload_n 1, 1) := by decide +kernel
theorem dX10_isInBunch_20 : decode cX10_isInBunch 20 = .ok (.iload_n 2, 1) := by decide +kernel
theorem dX10_isInBunch_21 : decode cX10_isInBunch 21 = .ok (.invokevirtual 148, 3) := by decide +kernel
theorem dX10_isInBunch_24 : decode cX10_isInBunch 24 = .ok (.ifCond .eq 37, 3) := by decide +kernel
theorem dX10_isInBunch_27 : decode cX10_isInBunch 27 = .ok (.iload_n 3, 1) := by decide +kernel
theorem dX10_isInBunch_28 : decode cX10_isInBunch 28 = .ok (.iconst (-1), 1) := by decide +kernel
theorem dX10_isInBunch_29 : decode cX10_isInBunch 29 = .ok (.if_icmp .eq 28, 3) := by decide +kernel
theorem dX10_isInBunch_32 : decode cX10_isInBunch 32 = .ok (.aload_n 0, 1) := by decide +kernel
theorem dX10_isInBunch_33 : decode cX10_isInBunch 33 = .ok (.getfield 36, 3) := by decide +kernel
theorem dX10_isInBunch_36 : decode cX10_isInBunch 36 = .ok (.bipush 12, 2) := by decide +kernel
theorem dX10_isInBunch_38 : decode cX10_isInBunch 38 = .ok (.iload_n 1, 1) := by decide +kernel
theorem dX10_isInBunch_39 : decode cX10_isInBunch 39 = .ok (.imul, 1) := by decide +kernel
theorem dX10_isInBunch_40 : decode cX10_isInBunch 40 = .ok (.iload_n 2, 1) := by decide +kernel
theorem dX10_isInBunch_41 : decode cX10_isInBunch 41 = .ok (.iadd, 1) := by decide +kernel
theorem dX10_isInBunch_42 : decode cX10_isInBunch 42 = .ok (.iaload, 1) := by decide +kernel
theorem dX10_isInBunch_43 : decode cX10_isInBunch 43 = .ok (.aload_n 0, 1) := by decide +kernel
theorem dX10_isInBunch_44 : decode cX10_isInBunch 44 = .ok (.getfield 36, 3) := by decide +kernel
theorem dX10_isInBunch_47 : decode cX10_isInBunch 47 = .ok (.bipush 12, 2) := by decide +kernel
theorem dX10_isInBunch_49 : decode cX10_isInBunch 49 = .ok (.iload_n 1, 1) := by decide +kernel
theorem dX10_isInBunch_50 : decode cX10_isInBunch 50 = .ok (.imul, 1) := by decide +kernel
theorem dX10_isInBunch_51 : decode cX10_isInBunch 51 = .ok (.iload_n 3, 1) := by decide +kernel
theorem dX10_isInBunch_52 : decode cX10_isInBunch 52 = .ok (.iadd, 1) := by decide +kernel
theorem dX10_isInBunch_53 : decode cX10_isInBunch 53 = .ok (.iaload, 1) := by decide +kernel
theorem dX10_isInBunch_54 : decode cX10_isInBunch 54 = .ok (.if_icmp .ge 7, 3) := by decide +kernel
theorem dX10_isInBunch_57 : decode cX10_isInBunch 57 = .ok (.iconst 1, 1) := by decide +kernel
theorem dX10_isInBunch_58 : decode cX10_isInBunch 58 = .ok (.goto 4, 3) := by decide +kernel
theorem dX10_isInBunch_61 : decode cX10_isInBunch 61 = .ok (.iconst 0, 1) := by decide +kernel
theorem dX10_isInBunch_62 : decode cX10_isInBunch 62 = .ok (.ireturn, 1) := by decide +kernel
theorem dX10_bunchOf_0 : decode cX10_bunchOf 0 = .ok (.iconst 0, 1) := by decide +kernel
theorem dX10_bunchOf_1 : decode cX10_bunchOf 1 = .ok (.istore_n 2, 1) := by decide +kernel
theorem dX10_bunchOf_2 : decode cX10_bunchOf 2 = .ok (.iconst 0, 1) := by decide +kernel
theorem dX10_bunchOf_3 : decode cX10_bunchOf 3 = .ok (.istore_n 3, 1) := by decide +kernel
theorem dX10_bunchOf_4 : decode cX10_bunchOf 4 = .ok (.iload_n 3, 1) := by decide +kernel
theorem dX10_bunchOf_5 : decode cX10_bunchOf 5 = .ok (.aload_n 0, 1) := by decide +kernel
theorem dX10_bunchOf_6 : decode cX10_bunchOf 6 = .ok (.getfield 13, 3) := by decide +kernel
theorem dX10_bunchOf_9 : decode cX10_bunchOf 9 = .ok (.if_icmp .ge 28, 3) := by decide +kernel
theorem dX10_bunchOf_12 : decode cX10_bunchOf 12 = .ok (.iload_n 2, 1) := by decide +kernel
theorem dX10_bunchOf_13 : decode cX10_bunchOf 13 = .ok (.aload_n 0, 1) := by decide +kernel
theorem dX10_bunchOf_14 : decode cX10_bunchOf 14 = .ok (.iload_n 1, 1) := by decide +kernel
theorem dX10_bunchOf_15 : decode cX10_bunchOf 15 = .ok (.iload_n 3, 1) := by decide +kernel
theorem dX10_bunchOf_16 : decode cX10_bunchOf 16 = .ok (.invokevirtual 156, 3) := by decide +kernel
theorem dX10_bunchOf_19 : decode cX10_bunchOf 19 = .ok (.ifCond .eq 9, 3) := by decide +kernel
theorem dX10_bunchOf_22 : decode cX10_bunchOf 22 = .ok (.iconst 1, 1) := by decide +kernel
theorem dX10_bunchOf_23 : decode cX10_bunchOf 23 = .ok (.iload_n 3, 1) := by decide +kernel
theorem dX10_bunchOf_24 : decode cX10_bunchOf 24 = .ok (.ishl, 1) := by decide +kernel
theorem dX10_bunchOf_25 : decode cX10_bunchOf 25 = .ok (.goto 4, 3) := by decide +kernel
theorem dX10_bunchOf_28 : decode cX10_bunchOf 28 = .ok (.iconst 0, 1) := by decide +kernel
theorem dX10_bunchOf_29 : decode cX10_bunchOf 29 = .ok (.ior, 1) := by decide +kernel
theorem dX10_bunchOf_30 : decode cX10_bunchOf 30 = .ok (.istore_n 2, 1) := by decide +kernel
theorem dX10_bunchOf_31 : decode cX10_bunchOf 31 = .ok (.iinc 3 1, 3) := by decide +kernel
theorem dX10_bunchOf_34 : decode cX10_bunchOf 34 = .ok (.goto (-30), 3) := by decide +kernel
theorem dX10_bunchOf_37 : decode cX10_bunchOf 37 = .ok (.iload_n 2, 1) := by decide +kernel
theorem dX10_bunchOf_38 : decode cX10_bunchOf 38 = .ok (.ireturn, 1) := by decide +kernel
theorem dX10_nearest_0 : decode cX10_nearest 0 = .ok (.aload_n 0, 1) := by decide +kernel
theorem dX10_nearest_1 : decode cX10_nearest 1 = .ok (.iload_n 1, 1) := by decide +kernel
theorem dX10_nearest_2 : decode cX10_nearest 2 = .ok (.invokevirtual 140, 3) := by decide +kernel
theorem dX10_nearest_5 : decode cX10_nearest 5 = .ok (.ifCond .ne 6, 3) := by decide +kernel
theorem dX10_nearest_8 : decode cX10_nearest 8 = .ok (.bipush (-2), 2) := by decide +kernel
theorem dX10_nearest_10 : decode cX10_nearest 10 = .ok (.ireturn, 1) := by decide +kernel
theorem dX10_nearest_11 : decode cX10_nearest 11 = .ok (.iload_n 2, 1) := by decide +kernel
theorem dX10_nearest_12 : decode cX10_nearest 12 = .ok (.i2l, 1) := by decide +kernel
theorem dX10_nearest_13 : decode cX10_nearest 13 = .ok (.lconst 0, 1) := by decide +kernel
theorem dX10_nearest_14 : decode cX10_nearest 14 = .ok (.ldc2_w 159, 3) := by decide +kernel
theorem dX10_nearest_17 : decode cX10_nearest 17 = .ok (.invokestatic 48, 3) := by decide +kernel
theorem dX10_nearest_20 : decode cX10_nearest 20 = .ok (.ifCond .eq 13, 3) := by decide +kernel
theorem dX10_nearest_23 : decode cX10_nearest 23 = .ok (.iload_n 3, 1) := by decide +kernel
theorem dX10_nearest_24 : decode cX10_nearest 24 = .ok (.i2l, 1) := by decide +kernel
theorem dX10_nearest_25 : decode cX10_nearest 25 = .ok (.lconst 0, 1) := by decide +kernel
theorem dX10_nearest_26 : decode cX10_nearest 26 = .ok (.lconst 1, 1) := by decide +kernel
theorem dX10_nearest_27 : decode cX10_nearest 27 = .ok (.invokestatic 48, 3) := by decide +kernel
theorem dX10_nearest_30 : decode cX10_nearest 30 = .ok (.ifCond .ne 6, 3) := by decide +kernel
theorem dX10_nearest_33 : decode cX10_nearest 33 = .ok (.bipush (-3), 2) := by decide +kernel
theorem dX10_nearest_35 : decode cX10_nearest 35 = .ok (.ireturn, 1) := by decide +kernel
theorem dX10_nearest_36 : decode cX10_nearest 36 = .ok (.aload_n 0, 1) := by decide +kernel
theorem dX10_nearest_37 : decode cX10_nearest 37 = .ok (.iconst 0, 1) := by decide +kernel
theorem dX10_nearest_38 : decode cX10_nearest 38 = .ok (.invokevirtual 144, 3) := by decide +kernel
theorem dX10_nearest_41 : decode cX10_nearest 41 = .ok (.aload_n 0, 1) := by decide +kernel
theorem dX10_nearest_42 : decode cX10_nearest 42 = .ok (.iload_n 1, 1) := by decide +kernel
theorem dX10_nearest_43 : decode cX10_nearest 43 = .ok (.iload_n 2, 1) := by decide +kernel
theorem dX10_nearest_44 : decode cX10_nearest 44 = .ok (.invokevirtual 152, 3) := by decide +kernel
theorem dX10_nearest_47 : decode cX10_nearest 47 = .ok (.istore 4, 2) := by decide +kernel
theorem dX10_nearest_49 : decode cX10_nearest 49 = .ok (.iload 4, 2) := by decide +kernel
theorem dX10_nearest_51 : decode cX10_nearest 51 = .ok (.iconst (-1), 1) := by decide +kernel
theorem dX10_nearest_52 : decode cX10_nearest 52 = .ok (.if_icmp .eq 7, 3) := by decide +kernel
theorem dX10_nearest_55 : decode cX10_nearest 55 = .ok (.iload_n 3, 1) := by decide +kernel
theorem dX10_nearest_56 : decode cX10_nearest 56 = .ok (.ifCond .ne 8, 3) := by decide +kernel
theorem dX10_nearest_59 : decode cX10_nearest 59 = .ok (.iload 4, 2) := by decide +kernel
theorem dX10_nearest_61 : decode cX10_nearest 61 = .ok (.goto 15, 3) := by decide +kernel
theorem dX10_nearest_64 : decode cX10_nearest 64 = .ok (.aload_n 0, 1) := by decide +kernel
theorem dX10_nearest_65 : decode cX10_nearest 65 = .ok (.getfield 36, 3) := by decide +kernel
theorem dX10_nearest_68 : decode cX10_nearest 68 = .ok (.bipush 12, 2) := by decide +kernel
theorem dX10_nearest_70 : decode cX10_nearest 70 = .ok (.iload_n 1, 1) := by decide +kernel
theorem dX10_nearest_71 : decode cX10_nearest 71 = .ok (.imul, 1) := by decide +kernel
theorem dX10_nearest_72 : decode cX10_nearest 72 = .ok (.iload 4, 2) := by decide +kernel
theorem dX10_nearest_74 : decode cX10_nearest 74 = .ok (.iadd, 1) := by decide +kernel
theorem dX10_nearest_75 : decode cX10_nearest 75 = .ok (.iaload, 1) := by decide +kernel
theorem dX10_nearest_76 : decode cX10_nearest 76 = .ok (.ireturn, 1) := by decide +kernel
theorem dX10_bunch_0 : decode cX10_bunch 0 = .ok (.aload_n 0, 1) := by decide +kernel
theorem dX10_bunch_1 : decode cX10_bunch 1 = .ok (.iload_n 1, 1) := by decide +kernel
theorem dX10_bunch_2 : decode cX10_bunch 2 = .ok (.invokevirtual 140, 3) := by decide +kernel
theorem dX10_bunch_5 : decode cX10_bunch 5 = .ok (.ifCond .ne 6, 3) := by decide +kernel
theorem dX10_bunch_8 : decode cX10_bunch 8 = .ok (.bipush (-2), 2) := by decide +kernel
theorem dX10_bunch_10 : decode cX10_bunch 10 = .ok (.ireturn, 1) := by decide +kernel
theorem dX10_bunch_11 : decode cX10_bunch 11 = .ok (.iload_n 2, 1) := by decide +kernel
theorem dX10_bunch_12 : decode cX10_bunch 12 = .ok (.i2l, 1) := by decide +kernel
theorem dX10_bunch_13 : decode cX10_bunch 13 = .ok (.lconst 0, 1) := by decide +kernel
theorem dX10_bunch_14 : decode cX10_bunch 14 = .ok (.lconst 1, 1) := by decide +kernel
theorem dX10_bunch_15 : decode cX10_bunch 15 = .ok (.invokestatic 48, 3) := by decide +kernel
theorem dX10_bunch_18 : decode cX10_bunch 18 = .ok (.ifCond .ne 6, 3) := by decide +kernel
theorem dX10_bunch_21 : decode cX10_bunch 21 = .ok (.bipush (-3), 2) := by decide +kernel
theorem dX10_bunch_23 : decode cX10_bunch 23 = .ok (.ireturn, 1) := by decide +kernel
theorem dX10_bunch_24 : decode cX10_bunch 24 = .ok (.aload_n 0, 1) := by decide +kernel
theorem dX10_bunch_25 : decode cX10_bunch 25 = .ok (.iconst 0, 1) := by decide +kernel
theorem dX10_bunch_26 : decode cX10_bunch 26 = .ok (.invokevirtual 144, 3) := by decide +kernel
theorem dX10_bunch_29 : decode cX10_bunch 29 = .ok (.iload_n 2, 1) := by decide +kernel
theorem dX10_bunch_30 : decode cX10_bunch 30 = .ok (.ifCond .ne 9, 3) := by decide +kernel
theorem dX10_bunch_33 : decode cX10_bunch 33 = .ok (.aload_n 0, 1) := by decide +kernel
theorem dX10_bunch_34 : decode cX10_bunch 34 = .ok (.iload_n 1, 1) := by decide +kernel
theorem dX10_bunch_35 : decode cX10_bunch 35 = .ok (.invokevirtual 161, 3) := by decide +kernel
theorem dX10_bunch_38 : decode cX10_bunch 38 = .ok (.ireturn, 1) := by decide +kernel
theorem dX10_bunch_39 : decode cX10_bunch 39 = .ok (.iconst 0, 1) := by decide +kernel
theorem dX10_bunch_40 : decode cX10_bunch 40 = .ok (.istore_n 3, 1) := by decide +kernel
theorem dX10_bunch_41 : decode cX10_bunch 41 = .ok (.iconst 0, 1) := by decide +kernel
theorem dX10_bunch_42 : decode cX10_bunch 42 = .ok (.istore 4, 2) := by decide +kernel
theorem dX10_bunch_44 : decode cX10_bunch 44 = .ok (.iload 4, 2) := by decide +kernel
theorem dX10_bunch_46 : decode cX10_bunch 46 = .ok (.aload_n 0, 1) := by decide +kernel
theorem dX10_bunch_47 : decode cX10_bunch 47 = .ok (.getfield 13, 3) := by decide +kernel
theorem dX10_bunch_50 : decode cX10_bunch 50 = .ok (.if_icmp .ge 30, 3) := by decide +kernel
theorem dX10_bunch_53 : decode cX10_bunch 53 = .ok (.iload_n 3, 1) := by decide +kernel
theorem dX10_bunch_54 : decode cX10_bunch 54 = .ok (.aload_n 0, 1) := by decide +kernel
theorem dX10_bunch_55 : decode cX10_bunch 55 = .ok (.iload 4, 2) := by decide +kernel
theorem dX10_bunch_57 : decode cX10_bunch 57 = .ok (.iload_n 1, 1) := by decide +kernel
theorem dX10_bunch_58 : decode cX10_bunch 58 = .ok (.invokevirtual 156, 3) := by decide +kernel
theorem dX10_bunch_61 : decode cX10_bunch 61 = .ok (.ifCond .eq 10, 3) := by decide +kernel
theorem dX10_bunch_64 : decode cX10_bunch 64 = .ok (.iconst 1, 1) := by decide +kernel
theorem dX10_bunch_65 : decode cX10_bunch 65 = .ok (.iload 4, 2) := by decide +kernel
theorem dX10_bunch_67 : decode cX10_bunch 67 = .ok (.ishl, 1) := by decide +kernel
theorem dX10_bunch_68 : decode cX10_bunch 68 = .ok (.goto 4, 3) := by decide +kernel
theorem dX10_bunch_71 : decode cX10_bunch 71 = .ok (.iconst 0, 1) := by decide +kernel
theorem dX10_bunch_72 : decode cX10_bunch 72 = .ok (.ior, 1) := by decide +kernel
theorem dX10_bunch_73 : decode cX10_bunch 73 = .ok (.istore_n 3, 1) := by decide +kernel
theorem dX10_bunch_74 : decode cX10_bunch 74 = .ok (.iinc 4 1, 3) := by decide +kernel
theorem dX10_bunch_77 : decode cX10_bunch 77 = .ok (.goto (-33), 3) := by decide +kernel
theorem dX10_bunch_80 : decode cX10_bunch 80 = .ok (.iload_n 3, 1) := by decide +kernel
theorem dX10_bunch_81 : decode cX10_bunch 81 = .ok (.ireturn, 1) := by decide +kernel
theorem dX10_nextOf_0 : decode cX10_nextOf 0 = .ok (.iconst 0, 1) := by decide +kernel
theorem dX10_nextOf_1 : decode cX10_nextOf 1 = .ok (.istore_n 3, 1) := by decide +kernel
theorem dX10_nextOf_2 : decode cX10_nextOf 2 = .ok (.iload_n 3, 1) := by decide +kernel
theorem dX10_nextOf_3 : decode cX10_nextOf 3 = .ok (.aload_n 0, 1) := by decide +kernel
theorem dX10_nextOf_4 : decode cX10_nextOf 4 = .ok (.getfield 13, 3) := by decide +kernel
theorem dX10_nextOf_7 : decode cX10_nextOf 7 = .ok (.if_icmp .ge 66, 3) := by decide +kernel
theorem dX10_nextOf_10 : decode cX10_nextOf 10 = .ok (.iload_n 1, 1) := by decide +kernel
theorem dX10_nextOf_11 : decode cX10_nextOf 11 = .ok (.iload_n 2, 1) := by decide +kernel
theorem dX10_nextOf_12 : decode cX10_nextOf 12 = .ok (.if_icmp .eq 61, 3) := by decide +kernel
theorem dX10_nextOf_15 : decode cX10_nextOf 15 = .ok (.aload_n 0, 1) := by decide +kernel
theorem dX10_nextOf_16 : decode cX10_nextOf 16 = .ok (.iload_n 1, 1) := by decide +kernel
theorem dX10_nextOf_17 : decode cX10_nextOf 17 = .ok (.iload_n 2, 1) := by decide +kernel
theorem dX10_nextOf_18 : decode cX10_nextOf 18 = .ok (.invokevirtual 148, 3) := by decide +kernel
theorem dX10_nextOf_21 : decode cX10_nextOf 21 = .ok (.ifCond .eq 52, 3) := by decide +kernel
theorem dX10_nextOf_24 : decode cX10_nextOf 24 = .ok (.aload_n 0, 1) := by decide +kernel
theorem dX10_nextOf_25 : decode cX10_nextOf 25 = .ok (.iload_n 1, 1) := by decide +kernel
theorem dX10_nextOf_26 : decode cX10_nextOf 26 = .ok (.iload_n 3, 1) := by decide +kernel
theorem dX10_nextOf_27 : decode cX10_nextOf 27 = .ok (.invokevirtual 164, 3) := by decide +kernel
theorem dX10_nextOf_30 : decode cX10_nextOf 30 = .ok (.ifCond .le 37, 3) := by decide +kernel
theorem dX10_nextOf_33 : decode cX10_nextOf 33 = .ok (.aload_n 0, 1) := by decide +kernel
theorem dX10_nextOf_34 : decode cX10_nextOf 34 = .ok (.iload_n 1, 1) := by decide +kernel
theorem dX10_nextOf_35 : decode cX10_nextOf 35 = .ok (.iload_n 3, 1) := by decide +kernel
theorem dX10_nextOf_36 : decode cX10_nextOf 36 = .ok (.invokevirtual 164, 3) := by decide +kernel
theorem dX10_nextOf_39 : decode cX10_nextOf 39 = .ok (.aload_n 0, 1) := by decide +kernel
theorem dX10_nextOf_40 : decode cX10_nextOf 40 = .ok (.getfield 36, 3) := by decide +kernel
theorem dX10_nextOf_43 : decode cX10_nextOf 43 = .ok (.bipush 12, 2) := by decide +kernel
theorem dX10_nextOf_45 : decode cX10_nextOf 45 = .ok (.iload_n 3, 1) := by decide +kernel
theorem dX10_nextOf_46 : decode cX10_nextOf 46 = .ok (.imul, 1) := by decide +kernel
theorem dX10_nextOf_47 : decode cX10_nextOf 47 = .ok (.iload_n 2, 1) := by decide +kernel
theorem dX10_nextOf_48 : decode cX10_nextOf 48 = .ok (.iadd, 1) := by decide +kernel
theorem dX10_nextOf_49 : decode cX10_nextOf 49 = .ok (.iaload, 1) := by decide +kernel
theorem dX10_nextOf_50 : decode cX10_nextOf 50 = .ok (.iadd, 1) := by decide +kernel
theorem dX10_nextOf_51 : decode cX10_nextOf 51 = .ok (.aload_n 0, 1) := by decide +kernel
theorem dX10_nextOf_52 : decode cX10_nextOf 52 = .ok (.getfield 36, 3) := by decide +kernel
theorem dX10_nextOf_55 : decode cX10_nextOf 55 = .ok (.bipush 12, 2) := by decide +kernel
theorem dX10_nextOf_57 : decode cX10_nextOf 57 = .ok (.iload_n 1, 1) := by decide +kernel
theorem dX10_nextOf_58 : decode cX10_nextOf 58 = .ok (.imul, 1) := by decide +kernel
theorem dX10_nextOf_59 : decode cX10_nextOf 59 = .ok (.iload_n 2, 1) := by decide +kernel
theorem dX10_nextOf_60 : decode cX10_nextOf 60 = .ok (.iadd, 1) := by decide +kernel
theorem dX10_nextOf_61 : decode cX10_nextOf 61 = .ok (.iaload, 1) := by decide +kernel
theorem dX10_nextOf_62 : decode cX10_nextOf 62 = .ok (.if_icmp .ne 5, 3) := by decide +kernel
theorem dX10_nextOf_65 : decode cX10_nextOf 65 = .ok (.iload_n 3, 1) := by decide +kernel
theorem dX10_nextOf_66 : decode cX10_nextOf 66 = .ok (.ireturn, 1) := by decide +kernel
theorem dX10_nextOf_67 : decode cX10_nextOf 67 = .ok (.iinc 3 1, 3) := by decide +kernel
theorem dX10_nextOf_70 : decode cX10_nextOf 70 = .ok (.goto (-68), 3) := by decide +kernel
theorem dX10_nextOf_73 : decode cX10_nextOf 73 = .ok (.iconst (-1), 1) := by decide +kernel
theorem dX10_nextOf_74 : decode cX10_nextOf 74 = .ok (.ireturn, 1) := by decide +kernel
theorem dX10_next_0 : decode cX10_next 0 = .ok (.aload_n 0, 1) := by decide +kernel
theorem dX10_next_1 : decode cX10_next 1 = .ok (.iload_n 1, 1) := by decide +kernel
theorem dX10_next_2 : decode cX10_next 2 = .ok (.invokevirtual 140, 3) := by decide +kernel
theorem dX10_next_5 : decode cX10_next 5 = .ok (.ifCond .eq 11, 3) := by decide +kernel
theorem dX10_next_8 : decode cX10_next 8 = .ok (.aload_n 0, 1) := by decide +kernel
theorem dX10_next_9 : decode cX10_next 9 = .ok (.iload_n 2, 1) := by decide +kernel
theorem dX10_next_10 : decode cX10_next 10 = .ok (.invokevirtual 140, 3) := by decide +kernel
theorem dX10_next_13 : decode cX10_next 13 = .ok (.ifCond .ne 6, 3) := by decide +kernel
theorem dX10_next_16 : decode cX10_next 16 = .ok (.bipush (-2), 2) := by decide +kernel
theorem dX10_next_18 : decode cX10_next 18 = .ok (.ireturn, 1) := by decide +kernel
theorem dX10_next_19 : decode cX10_next 19 = .ok (.aload_n 0, 1) := by decide +kernel
theorem dX10_next_20 : decode cX10_next 20 = .ok (.iconst 0, 1) := by decide +kernel
theorem dX10_next_21 : decode cX10_next 21 = .ok (.invokevirtual 144, 3) := by decide +kernel
theorem dX10_next_24 : decode cX10_next 24 = .ok (.aload_n 0, 1) := by decide +kernel
theorem dX10_next_25 : decode cX10_next 25 = .ok (.iload_n 1, 1) := by decide +kernel
theorem dX10_next_26 : decode cX10_next 26 = .ok (.iload_n 2, 1) := by decide +kernel
theorem dX10_next_27 : decode cX10_next 27 = .ok (.invokevirtual 166, 3) := by decide +kernel
theorem dX10_next_30 : decode cX10_next 30 = .ok (.ireturn, 1) := by decide +kernel
theorem dX10_takes_0 : decode cX10_takes 0 = .ok (.iconst 0, 1) := by decide +kernel
theorem dX10_takes_1 : decode cX10_takes 1 = .ok (.istore_n 3, 1) := by decide +kernel
theorem dX10_takes_2 : decode cX10_takes 2 = .ok (.iload_n 3, 1) := by decide +kernel
theorem dX10_takes_3 : decode cX10_takes 3 = .ok (.sipush 144, 3) := by decide +kernel
theorem dX10_takes_6 : decode cX10_takes 6 = .ok (.if_icmp .ge 81, 3) := by decide +kernel
theorem dX10_takes_9 : decode cX10_takes 9 = .ok (.iload_n 3, 1) := by decide +kernel
theorem dX10_takes_10 : decode cX10_takes 10 = .ok (.bipush 12, 2) := by decide +kernel
theorem dX10_takes_12 : decode cX10_takes 12 = .ok (.idiv, 1) := by decide +kernel
theorem dX10_takes_13 : decode cX10_takes 13 = .ok (.iload_n 3, 1) := by decide +kernel
theorem dX10_takes_14 : decode cX10_takes 14 = .ok (.bipush 12, 2) := by decide +kernel
theorem dX10_takes_16 : decode cX10_takes 16 = .ok (.irem, 1) := by decide +kernel
theorem dX10_takes_17 : decode cX10_takes 17 = .ok (.if_icmp .ge 64, 3) := by decide +kernel
theorem dX10_takes_20 : decode cX10_takes 20 = .ok (.aload_n 0, 1) := by decide +kernel
theorem dX10_takes_21 : decode cX10_takes 21 = .ok (.getfield 7, 3) := by decide +kernel
theorem dX10_takes_24 : decode cX10_takes 24 = .ok (.iload_n 3, 1) := by decide +kernel
theorem dX10_takes_25 : decode cX10_takes 25 = .ok (.iaload, 1) := by decide +kernel
theorem dX10_takes_26 : decode cX10_takes 26 = .ok (.iload_n 2, 1) := by decide +kernel
theorem dX10_takes_27 : decode cX10_takes 27 = .ok (.if_icmp .ne 54, 3) := by decide +kernel
theorem dX10_takes_30 : decode cX10_takes 30 = .ok (.aload_n 0, 1) := by decide +kernel
theorem dX10_takes_31 : decode cX10_takes 31 = .ok (.iconst 1, 1) := by decide +kernel
theorem dX10_takes_32 : decode cX10_takes 32 = .ok (.invokevirtual 144, 3) := by decide +kernel
theorem dX10_takes_35 : decode cX10_takes 35 = .ok (.aload_n 0, 1) := by decide +kernel
theorem dX10_takes_36 : decode cX10_takes 36 = .ok (.getfield 36, 3) := by decide +kernel
theorem dX10_takes_39 : decode cX10_takes 39 = .ok (.iload_n 3, 1) := by decide +kernel
theorem dX10_takes_40 : decode cX10_takes 40 = .ok (.iaload, 1) := by decide +kernel
theorem dX10_takes_41 : decode cX10_takes 41 = .ok (.iload_n 1, 1) := by decide +kernel
theorem dX10_takes_42 : decode cX10_takes 42 = .ok (.iload_n 2, 1) := by decide +kernel
theorem dX10_takes_43 : decode cX10_takes 43 = .ok (.imul, 1) := by decide +kernel
theorem dX10_takes_44 : decode cX10_takes 44 = .ok (.if_icmp .le 7, 3) := by decide +kernel
theorem dX10_takes_47 : decode cX10_takes 47 = .ok (.iconst 1, 1) := by decide +kernel
theorem dX10_takes_48 : decode cX10_takes 48 = .ok (.goto 4, 3) := by decide +kernel
theorem dX10_takes_51 : decode cX10_takes 51 = .ok (.iconst 0, 1) := by decide +kernel
theorem dX10_takes_52 : decode cX10_takes 52 = .ok (.istore 4, 2) := by decide +kernel
theorem dX10_takes_54 : decode cX10_takes 54 = .ok (.aload_n 0, 1) := by decide +kernel
theorem dX10_takes_55 : decode cX10_takes 55 = .ok (.getfield 39, 3) := by decide +kernel
theorem dX10_takes_58 : decode cX10_takes 58 = .ok (.iload_n 3, 1) := by decide +kernel
theorem dX10_takes_59 : decode cX10_takes 59 = .ok (.iload 4, 2) := by decide +kernel
theorem dX10_takes_61 : decode cX10_takes 61 = .ok (.bastore, 1) := by decide +kernel
theorem dX10_takes_62 : decode cX10_takes 62 = .ok (.aload_n 0, 1) := by decide +kernel
theorem dX10_takes_63 : decode cX10_takes 63 = .ok (.getfield 39, 3) := by decide +kernel
theorem dX10_takes_66 : decode cX10_takes 66 = .ok (.iload_n 3, 1) := by decide +kernel
theorem dX10_takes_67 : decode cX10_takes 67 = .ok (.bipush 12, 2) := by decide +kernel
theorem dX10_takes_69 : decode cX10_takes 69 = .ok (.irem, 1) := by decide +kernel
theorem dX10_takes_70 : decode cX10_takes 70 = .ok (.bipush 12, 2) := by decide +kernel
theorem dX10_takes_72 : decode cX10_takes 72 = .ok (.imul, 1) := by decide +kernel
theorem dX10_takes_73 : decode cX10_takes 73 = .ok (.iload_n 3, 1) := by decide +kernel
theorem dX10_takes_74 : decode cX10_takes 74 = .ok (.bipush 12, 2) := by decide +kernel
theorem dX10_takes_76 : decode cX10_takes 76 = .ok (.idiv, 1) := by decide +kernel
theorem dX10_takes_77 : decode cX10_takes 77 = .ok (.iadd, 1) := by decide +kernel
theorem dX10_takes_78 : decode cX10_takes 78 = .ok (.iload 4, 2) := by decide +kernel
theorem dX10_takes_80 : decode cX10_takes 80 = .ok (.bastore, 1) := by decide +kernel
theorem dX10_takes_81 : decode cX10_takes 81 = .ok (.iinc 3 1, 3) := by decide +kernel
theorem dX10_takes_84 : decode cX10_takes 84 = .ok (.goto (-82), 3) := by decide +kernel
theorem dX10_takes_87 : decode cX10_takes 87 = .ok (.return_, 1) := by decide +kernel
theorem dX10_thins_0 : decode cX10_thins 0 = .ok (.iconst 0, 1) := by decide +kernel
theorem dX10_thins_1 : decode cX10_thins 1 = .ok (.istore_n 2, 1) := by decide +kernel
theorem dX10_thins_2 : decode cX10_thins 2 = .ok (.iload_n 2, 1) := by decide +kernel
theorem dX10_thins_3 : decode cX10_thins 3 = .ok (.sipush 144, 3) := by decide +kernel
theorem dX10_thins_6 : decode cX10_thins 6 = .ok (.if_icmp .ge 16, 3) := by decide +kernel
theorem dX10_thins_9 : decode cX10_thins 9 = .ok (.aload_n 0, 1) := by decide +kernel
theorem dX10_thins_10 : decode cX10_thins 10 = .ok (.getfield 39, 3) := by decide +kernel
theorem dX10_thins_13 : decode cX10_thins 13 = .ok (.iload_n 2, 1) := by decide +kernel
theorem dX10_thins_14 : decode cX10_thins 14 = .ok (.iconst 0, 1) := by decide +kernel
theorem dX10_thins_15 : decode cX10_thins 15 = .ok (.bastore, 1) := by decide +kernel
theorem dX10_thins_16 : decode cX10_thins 16 = .ok (.iinc 2 1, 3) := by decide +kernel
theorem dX10_thins_19 : decode cX10_thins 19 = .ok (.goto (-17), 3) := by decide +kernel
theorem dX10_thins_22 : decode cX10_thins 22 = .ok (.iconst 1, 1) := by decide +kernel
theorem dX10_thins_23 : decode cX10_thins 23 = .ok (.istore_n 2, 1) := by decide +kernel
theorem dX10_thins_24 : decode cX10_thins 24 = .ok (.iload_n 2, 1) := by decide +kernel
theorem dX10_thins_25 : decode cX10_thins 25 = .ok (.bipush 100, 2) := by decide +kernel
theorem dX10_thins_27 : decode cX10_thins 27 = .ok (.if_icmp .ge 15, 3) := by decide +kernel
theorem dX10_thins_30 : decode cX10_thins 30 = .ok (.aload_n 0, 1) := by decide +kernel
theorem dX10_thins_31 : decode cX10_thins 31 = .ok (.iload_n 1, 1) := by decide +kernel
theorem dX10_thins_32 : decode cX10_thins 32 = .ok (.iload_n 2, 1) := by decide +kernel
theorem dX10_thins_33 : decode cX10_thins 33 = .ok (.invokevirtual 169, 3) := by decide +kernel
theorem dX10_thins_36 : decode cX10_thins 36 = .ok (.iinc 2 1, 3) := by decide +kernel
theorem dX10_thins_39 : decode cX10_thins 39 = .ok (.goto (-15), 3) := by decide +kernel
theorem dX10_thins_42 : decode cX10_thins 42 = .ok (.return_, 1) := by decide +kernel
theorem dX10_thinned_0 : decode cX10_thinned 0 = .ok (.iload_n 1, 1) := by decide +kernel
theorem dX10_thinned_1 : decode cX10_thinned 1 = .ok (.i2l, 1) := by decide +kernel
theorem dX10_thinned_2 : decode cX10_thinned 2 = .ok (.lconst 1, 1) := by decide +kernel
theorem dX10_thinned_3 : decode cX10_thinned 3 = .ok (.ldc2_w 173, 3) := by decide +kernel
theorem dX10_thinned_6 : decode cX10_thinned 6 = .ok (.invokestatic 48, 3) := by decide +kernel
theorem dX10_thinned_9 : decode cX10_thinned 9 = .ok (.ifCond .ne 6, 3) := by decide +kernel
theorem dX10_thinned_12 : decode cX10_thinned 12 = .ok (.bipush (-3), 2) := by decide +kernel
theorem dX10_thinned_14 : decode cX10_thinned 14 = .ok (.ireturn, 1) := by decide +kernel
theorem dX10_thinned_15 : decode cX10_thinned 15 = .ok (.iload_n 2, 1) := by decide +kernel
theorem dX10_thinned_16 : decode cX10_thinned 16 = .ok (.iconst (-1), 1) := by decide +kernel
theorem dX10_thinned_17 : decode cX10_thinned 17 = .ok (.if_icmp .ne 7, 3) := by decide +kernel
theorem dX10_thinned_20 : decode cX10_thinned 20 = .ok (.iconst 0, 1) := by decide +kernel
theorem dX10_thinned_21 : decode cX10_thinned 21 = .ok (.goto 8, 3) := by decide +kernel
theorem dX10_thinned_24 : decode cX10_thinned 24 = .ok (.aload_n 0, 1) := by decide +kernel
theorem dX10_thinned_25 : decode cX10_thinned 25 = .ok (.iload_n 2, 1) := by decide +kernel
theorem dX10_thinned_26 : decode cX10_thinned 26 = .ok (.invokevirtual 136, 3) := by decide +kernel
theorem dX10_thinned_29 : decode cX10_thinned 29 = .ok (.istore_n 3, 1) := by decide +kernel
theorem dX10_thinned_30 : decode cX10_thinned 30 = .ok (.iload_n 3, 1) := by decide +kernel
theorem dX10_thinned_31 : decode cX10_thinned 31 = .ok (.ifCond .ge 6, 3) := by decide +kernel
theorem dX10_thinned_34 : decode cX10_thinned 34 = .ok (.bipush (-2), 2) := by decide +kernel
theorem dX10_thinned_36 : decode cX10_thinned 36 = .ok (.ireturn, 1) := by decide +kernel
theorem dX10_thinned_37 : decode cX10_thinned 37 = .ok (.aload_n 0, 1) := by decide +kernel
theorem dX10_thinned_38 : decode cX10_thinned 38 = .ok (.iload_n 1, 1) := by decide +kernel
theorem dX10_thinned_39 : decode cX10_thinned 39 = .ok (.invokevirtual 175, 3) := by decide +kernel
theorem dX10_thinned_42 : decode cX10_thinned 42 = .ok (.iload_n 2, 1) := by decide +kernel
theorem dX10_thinned_43 : decode cX10_thinned 43 = .ok (.iconst (-1), 1) := by decide +kernel
theorem dX10_thinned_44 : decode cX10_thinned 44 = .ok (.if_icmp .eq 18, 3) := by decide +kernel
theorem dX10_thinned_47 : decode cX10_thinned 47 = .ok (.aload_n 0, 1) := by decide +kernel
theorem dX10_thinned_48 : decode cX10_thinned 48 = .ok (.getfield 39, 3) := by decide +kernel
theorem dX10_thinned_51 : decode cX10_thinned 51 = .ok (.iload_n 3, 1) := by decide +kernel
theorem dX10_thinned_52 : decode cX10_thinned 52 = .ok (.baload, 1) := by decide +kernel
theorem dX10_thinned_53 : decode cX10_thinned 53 = .ok (.ifCond .eq 7, 3) := by decide +kernel
theorem dX10_thinned_56 : decode cX10_thinned 56 = .ok (.iconst 1, 1) := by decide +kernel
theorem dX10_thinned_57 : decode cX10_thinned 57 = .ok (.goto 4, 3) := by decide +kernel
theorem dX10_thinned_60 : decode cX10_thinned 60 = .ok (.iconst 0, 1) := by decide +kernel
theorem dX10_thinned_61 : decode cX10_thinned 61 = .ok (.ireturn, 1) := by decide +kernel
theorem dX10_thinned_62 : decode cX10_thinned 62 = .ok (.iconst 0, 1) := by decide +kernel
theorem dX10_thinned_63 : decode cX10_thinned 63 = .ok (.istore 4, 2) := by decide +kernel
theorem dX10_thinned_65 : decode cX10_thinned 65 = .ok (.iconst 0, 1) := by decide +kernel
theorem dX10_thinned_66 : decode cX10_thinned 66 = .ok (.istore 5, 2) := by decide +kernel
theorem dX10_thinned_68 : decode cX10_thinned 68 = .ok (.iload 5, 2) := by decide +kernel
theorem dX10_thinned_70 : decode cX10_thinned 70 = .ok (.sipush 144, 3) := by decide +kernel
theorem dX10_thinned_73 : decode cX10_thinned 73 = .ok (.if_icmp .ge 29, 3) := by decide +kernel
theorem dX10_thinned_76 : decode cX10_thinned 76 = .ok (.iload 4, 2) := by decide +kernel
theorem dX10_thinned_78 : decode cX10_thinned 78 = .ok (.aload_n 0, 1) := by decide +kernel
theorem dX10_thinned_79 : decode cX10_thinned 79 = .ok (.getfield 39, 3) := by decide +kernel
theorem dX10_thinned_82 : decode cX10_thinned 82 = .ok (.iload 5, 2) := by decide +kernel
theorem dX10_thinned_84 : decode cX10_thinned 84 = .ok (.baload, 1) := by decide +kernel
theorem dX10_thinned_85 : decode cX10_thinned 85 = .ok (.ifCond .eq 7, 3) := by decide +kernel
theorem dX10_thinned_88 : decode cX10_thinned 88 = .ok (.iconst 1, 1) := by decide +kernel
theorem dX10_thinned_89 : decode cX10_thinned 89 = .ok (.goto 4, 3) := by decide +kernel
theorem dX10_thinned_92 : decode cX10_thinned 92 = .ok (.iconst 0, 1) := by decide +kernel
theorem dX10_thinned_93 : decode cX10_thinned 93 = .ok (.iadd, 1) := by decide +kernel
theorem dX10_thinned_94 : decode cX10_thinned 94 = .ok (.istore 4, 2) := by decide +kernel
theorem dX10_thinned_96 : decode cX10_thinned 96 = .ok (.iinc 5 1, 3) := by decide +kernel
theorem dX10_thinned_99 : decode cX10_thinned 99 = .ok (.goto (-31), 3) := by decide +kernel
theorem dX10_thinned_102 : decode cX10_thinned 102 = .ok (.iload 4, 2) := by decide +kernel
theorem dX10_thinned_104 : decode cX10_thinned 104 = .ok (.iconst 2, 1) := by decide +kernel
theorem dX10_thinned_105 : decode cX10_thinned 105 = .ok (.idiv, 1) := by decide +kernel
theorem dX10_thinned_106 : decode cX10_thinned 106 = .ok (.ireturn, 1) := by decide +kernel
theorem dX10_divisor_0 : decode cX10_divisor 0 = .ok (.iload_n 0, 1) := by decide +kernel
theorem dX10_divisor_1 : decode cX10_divisor 1 = .ok (.istore_n 2, 1) := by decide +kernel
theorem dX10_divisor_2 : decode cX10_divisor 2 = .ok (.iload_n 1, 1) := by decide +kernel
theorem dX10_divisor_3 : decode cX10_divisor 3 = .ok (.istore_n 3, 1) := by decide +kernel
theorem dX10_divisor_4 : decode cX10_divisor 4 = .ok (.iload_n 3, 1) := by decide +kernel
theorem dX10_divisor_5 : decode cX10_divisor 5 = .ok (.ifCond .eq 16, 3) := by decide +kernel
theorem dX10_divisor_8 : decode cX10_divisor 8 = .ok (.iload_n 2, 1) := by decide +kernel
theorem dX10_divisor_9 : decode cX10_divisor 9 = .ok (.iload_n 3, 1) := by decide +kernel
theorem dX10_divisor_10 : decode cX10_divisor 10 = .ok (.irem, 1) := by decide +kernel
theorem dX10_divisor_11 : decode cX10_divisor 11 = .ok (.istore 4, 2) := by decide +kernel
theorem dX10_divisor_13 : decode cX10_divisor 13 = .ok (.iload_n 3, 1) := by decide +kernel
theorem dX10_divisor_14 : decode cX10_divisor 14 = .ok (.istore_n 2, 1) := by decide +kernel
theorem dX10_divisor_15 : decode cX10_divisor 15 = .ok (.iload 4, 2) := by decide +kernel
theorem dX10_divisor_17 : decode cX10_divisor 17 = .ok (.istore_n 3, 1) := by decide +kernel
theorem dX10_divisor_18 : decode cX10_divisor 18 = .ok (.goto (-14), 3) := by decide +kernel
theorem dX10_divisor_21 : decode cX10_divisor 21 = .ok (.iload_n 2, 1) := by decide +kernel
theorem dX10_divisor_22 : decode cX10_divisor 22 = .ok (.ireturn, 1) := by decide +kernel
theorem dX10_worst_0 : decode cX10_worst 0 = .ok (.iload_n 1, 1) := by decide +kernel
theorem dX10_worst_1 : decode cX10_worst 1 = .ok (.i2l, 1) := by decide +kernel
theorem dX10_worst_2 : decode cX10_worst 2 = .ok (.lconst 1, 1) := by decide +kernel
theorem dX10_worst_3 : decode cX10_worst 3 = .ok (.ldc2_w 173, 3) := by decide +kernel
theorem dX10_worst_6 : decode cX10_worst 6 = .ok (.invokestatic 48, 3) := by decide +kernel
theorem dX10_worst_9 : decode cX10_worst 9 = .ok (.ifCond .eq 13, 3) := by decide +kernel
theorem dX10_worst_12 : decode cX10_worst 12 = .ok (.iload_n 2, 1) := by decide +kernel
theorem dX10_worst_13 : decode cX10_worst 13 = .ok (.i2l, 1) := by decide +kernel
theorem dX10_worst_14 : decode cX10_worst 14 = .ok (.lconst 0, 1) := by decide +kernel
theorem dX10_worst_15 : decode cX10_worst 15 = .ok (.lconst 1, 1) := by decide +kernel
theorem dX10_worst_16 : decode cX10_worst 16 = .ok (.invokestatic 48, 3) := by decide +kernel
theorem dX10_worst_19 : decode cX10_worst 19 = .ok (.ifCond .ne 6, 3) := by decide +kernel
theorem dX10_worst_22 : decode cX10_worst 22 = .ok (.bipush (-3), 2) := by decide +kernel
theorem dX10_worst_24 : decode cX10_worst 24 = .ok (.ireturn, 1) := by decide +kernel
theorem dX10_worst_25 : decode cX10_worst 25 = .ok (.aload_n 0, 1) := by decide +kernel
theorem dX10_worst_26 : decode cX10_worst 26 = .ok (.iconst 0, 1) := by decide +kernel
theorem dX10_worst_27 : decode cX10_worst 27 = .ok (.invokevirtual 144, 3) := by decide +kernel
theorem dX10_worst_30 : decode cX10_worst 30 = .ok (.iconst 0, 1) := by decide +kernel
theorem dX10_worst_31 : decode cX10_worst 31 = .ok (.istore_n 3, 1) := by decide +kernel
theorem dX10_worst_32 : decode cX10_worst 32 = .ok (.iload_n 3, 1) := by decide +kernel
theorem dX10_worst_33 : decode cX10_worst 33 = .ok (.sipush 144, 3) := by decide +kernel
theorem dX10_worst_36 : decode cX10_worst 36 = .ok (.if_icmp .ge 21, 3) := by decide +kernel
theorem dX10_worst_39 : decode cX10_worst 39 = .ok (.aload_n 0, 1) := by decide +kernel
theorem dX10_worst_40 : decode cX10_worst 40 = .ok (.getfield 42, 3) := by decide +kernel
theorem dX10_worst_43 : decode cX10_worst 43 = .ok (.iload_n 3, 1) := by decide +kernel
theorem dX10_worst_44 : decode cX10_worst 44 = .ok (.aload_n 0, 1) := by decide +kernel
theorem dX10_worst_45 : decode cX10_worst 45 = .ok (.getfield 36, 3) := by decide +kernel
theorem dX10_worst_48 : decode cX10_worst 48 = .ok (.iload_n 3, 1) := by decide +kernel
theorem dX10_worst_49 : decode cX10_worst 49 = .ok (.iaload, 1) := by decide +kernel
theorem dX10_worst_50 : decode cX10_worst 50 = .ok (.iastore, 1) := by decide +kernel
theorem dX10_worst_51 : decode cX10_worst 51 = .ok (.iinc 3 1, 3) := by decide +kernel
theorem dX10_worst_54 : decode cX10_worst 54 = .ok (.goto (-22), 3) := by decide +kernel
theorem dX10_worst_57 : decode cX10_worst 57 = .ok (.aload_n 0, 1) := by decide +kernel
theorem dX10_worst_58 : decode cX10_worst 58 = .ok (.iload_n 1, 1) := by decide +kernel
theorem dX10_worst_59 : decode cX10_worst 59 = .ok (.invokevirtual 175, 3) := by decide +kernel
theorem dX10_worst_62 : decode cX10_worst 62 = .ok (.aload_n 0, 1) := by decide +kernel
theorem dX10_worst_63 : decode cX10_worst 63 = .ok (.iconst 1, 1) := by decide +kernel
theorem dX10_worst_64 : decode cX10_worst 64 = .ok (.invokevirtual 144, 3) := by decide +kernel
theorem dX10_worst_67 : decode cX10_worst 67 = .ok (.iconst 0, 1) := by decide +kernel
theorem dX10_worst_68 : decode cX10_worst 68 = .ok (.istore_n 3, 1) := by decide +kernel
theorem dX10_worst_69 : decode cX10_worst 69 = .ok (.iconst 1, 1) := by decide +kernel
theorem dX10_worst_70 : decode cX10_worst 70 = .ok (.istore 4, 2) := by decide +kernel
theorem dX10_worst_72 : decode cX10_worst 72 = .ok (.iconst 0, 1) := by decide +kernel
theorem dX10_worst_73 : decode cX10_worst 73 = .ok (.istore 5, 2) := by decide +kernel
theorem dX10_worst_75 : decode cX10_worst 75 = .ok (.iload 5, 2) := by decide +kernel
theorem dX10_worst_77 : decode cX10_worst 77 = .ok (.aload_n 0, 1) := by decide +kernel
theorem dX10_worst_78 : decode cX10_worst 78 = .ok (.getfield 13, 3) := by decide +kernel
theorem dX10_worst_81 : decode cX10_worst 81 = .ok (.if_icmp .ge 91, 3) := by decide +kernel
theorem dX10_worst_84 : decode cX10_worst 84 = .ok (.iload 5, 2) := by decide +kernel
theorem dX10_worst_86 : decode cX10_worst 86 = .ok (.iconst 1, 1) := by decide +kernel
theorem dX10_worst_87 : decode cX10_worst 87 = .ok (.iadd, 1) := by decide +kernel
theorem dX10_worst_88 : decode cX10_worst 88 = .ok (.istore 6, 2) := by decide +kernel
theorem dX10_worst_90 : decode cX10_worst 90 = .ok (.iload 6, 2) := by decide +kernel
theorem dX10_worst_92 : decode cX10_worst 92 = .ok (.aload_n 0, 1) := by decide +kernel
theorem dX10_worst_93 : decode cX10_worst 93 = .ok (.getfield 13, 3) := by decide +kernel
theorem dX10_worst_96 : decode cX10_worst 96 = .ok (.if_icmp .ge 70, 3) := by decide +kernel
theorem dX10_worst_99 : decode cX10_worst 99 = .ok (.bipush 12, 2) := by decide +kernel
theorem dX10_worst_101 : decode cX10_worst 101 = .ok (.iload 5, 2) := by decide +kernel
theorem dX10_worst_103 : decode cX10_worst 103 = .ok (.imul, 1) := by decide +kernel
theorem dX10_worst_104 : decode cX10_worst 104 = .ok (.iload 6, 2) := by decide +kernel
theorem dX10_worst_106 : decode cX10_worst 106 = .ok (.iadd, 1) := by decide +kernel
theorem dX10_worst_107 : decode cX10_worst 107 = .ok (.istore 7, 2) := by decide +kernel
theorem dX10_worst_109 : decode cX10_worst 109 = .ok (.aload_n 0, 1) := by decide +kernel
theorem dX10_worst_110 : decode cX10_worst 110 = .ok (.getfield 42, 3) := by decide +kernel
theorem dX10_worst_113 : decode cX10_worst 113 = .ok (.iload 7, 2) := by decide +kernel
theorem dX10_worst_115 : decode cX10_worst 115 = .ok (.iaload, 1) := by decide +kernel
theorem dX10_worst_116 : decode cX10_worst 116 = .ok (.ldc 143, 2) := by decide +kernel
theorem dX10_worst_118 : decode cX10_worst 118 = .ok (.if_icmp .ge 42, 3) := by decide +kernel
theorem dX10_worst_121 : decode cX10_worst 121 = .ok (.aload_n 0, 1) := by decide +kernel
theorem dX10_worst_122 : decode cX10_worst 122 = .ok (.getfield 36, 3) := by decide +kernel
theorem dX10_worst_125 : decode cX10_worst 125 = .ok (.iload 7, 2) := by decide +kernel
theorem dX10_worst_127 : decode cX10_worst 127 = .ok (.iaload, 1) := by decide +kernel
theorem dX10_worst_128 : decode cX10_worst 128 = .ok (.iload 4, 2) := by decide +kernel
theorem dX10_worst_130 : decode cX10_worst 130 = .ok (.imul, 1) := by decide +kernel
theorem dX10_worst_131 : decode cX10_worst 131 = .ok (.iload_n 3, 1) := by decide +kernel
theorem dX10_worst_132 : decode cX10_worst 132 = .ok (.aload_n 0, 1) := by decide +kernel
theorem dX10_worst_133 : decode cX10_worst 133 = .ok (.getfield 42, 3) := by decide +kernel
theorem dX10_worst_136 : decode cX10_worst 136 = .ok (.iload 7, 2) := by decide +kernel
theorem dX10_worst_138 : decode cX10_worst 138 = .ok (.iaload, 1) := by decide +kernel
theorem dX10_worst_139 : decode cX10_worst 139 = .ok (.imul, 1) := by decide +kernel
theorem dX10_worst_140 : decode cX10_worst 140 = .ok (.if_icmp .le 20, 3) := by decide +kernel
theorem dX10_worst_143 : decode cX10_worst 143 = .ok (.aload_n 0, 1) := by decide +kernel
theorem dX10_worst_144 : decode cX10_worst 144 = .ok (.getfield 36, 3) := by decide +kernel
theorem dX10_worst_147 : decode cX10_worst 147 = .ok (.iload 7, 2) := by decide +kernel
theorem dX10_worst_149 : decode cX10_worst 149 = .ok (.iaload, 1) := by decide +kernel
theorem dX10_worst_150 : decode cX10_worst 150 = .ok (.istore_n 3, 1) := by decide +kernel
theorem dX10_worst_151 : decode cX10_worst 151 = .ok (.aload_n 0, 1) := by decide +kernel
theorem dX10_worst_152 : decode cX10_worst 152 = .ok (.getfield 42, 3) := by decide +kernel
theorem dX10_worst_155 : decode cX10_worst 155 = .ok (.iload 7, 2) := by decide +kernel
theorem dX10_worst_157 : decode cX10_worst 157 = .ok (.iaload, 1) := by decide +kernel
theorem dX10_worst_158 : decode cX10_worst 158 = .ok (.istore 4, 2) := by decide +kernel
theorem dX10_worst_160 : decode cX10_worst 160 = .ok (.iinc 6 1, 3) := by decide +kernel
theorem dX10_worst_163 : decode cX10_worst 163 = .ok (.goto (-73), 3) := by decide +kernel
theorem dX10_worst_166 : decode cX10_worst 166 = .ok (.iinc 5 1, 3) := by decide +kernel
theorem dX10_worst_169 : decode cX10_worst 169 = .ok (.goto (-94), 3) := by decide +kernel
theorem dX10_worst_172 : decode cX10_worst 172 = .ok (.iload_n 3, 1) := by decide +kernel
theorem dX10_worst_173 : decode cX10_worst 173 = .ok (.ifCond .ne 5, 3) := by decide +kernel
theorem dX10_worst_176 : decode cX10_worst 176 = .ok (.iconst (-1), 1) := by decide +kernel
theorem dX10_worst_177 : decode cX10_worst 177 = .ok (.ireturn, 1) := by decide +kernel
theorem dX10_worst_178 : decode cX10_worst 178 = .ok (.iload_n 3, 1) := by decide +kernel
theorem dX10_worst_179 : decode cX10_worst 179 = .ok (.iload 4, 2) := by decide +kernel
theorem dX10_worst_181 : decode cX10_worst 181 = .ok (.invokestatic 178, 3) := by decide +kernel
theorem dX10_worst_184 : decode cX10_worst 184 = .ok (.istore 5, 2) := by decide +kernel
theorem dX10_worst_186 : decode cX10_worst 186 = .ok (.iload_n 2, 1) := by decide +kernel
theorem dX10_worst_187 : decode cX10_worst 187 = .ok (.ifCond .ne 10, 3) := by decide +kernel
theorem dX10_worst_190 : decode cX10_worst 190 = .ok (.iload_n 3, 1) := by decide +kernel
theorem dX10_worst_191 : decode cX10_worst 191 = .ok (.iload 5, 2) := by decide +kernel
theorem dX10_worst_193 : decode cX10_worst 193 = .ok (.idiv, 1) := by decide +kernel
theorem dX10_worst_194 : decode cX10_worst 194 = .ok (.goto 8, 3) := by decide +kernel
theorem dX10_worst_197 : decode cX10_worst 197 = .ok (.iload 4, 2) := by decide +kernel
theorem dX10_worst_199 : decode cX10_worst 199 = .ok (.iload 5, 2) := by decide +kernel
theorem dX10_worst_201 : decode cX10_worst 201 = .ok (.idiv, 1) := by decide +kernel
theorem dX10_worst_202 : decode cX10_worst 202 = .ok (.ireturn, 1) := by decide +kernel
theorem dX10_keepPast_0 : decode cX10_keepPast 0 = .ok (.iconst 0, 1) := by decide +kernel
theorem dX10_keepPast_1 : decode cX10_keepPast 1 = .ok (.istore_n 1, 1) := by decide +kernel
theorem dX10_keepPast_2 : decode cX10_keepPast 2 = .ok (.iload_n 1, 1) := by decide +kernel
theorem dX10_keepPast_3 : decode cX10_keepPast 3 = .ok (.sipush 1099, 3) := by decide +kernel
theorem dX10_keepPast_6 : decode cX10_keepPast 6 = .ok (.if_icmp .ge 38, 3) := by decide +kernel
theorem dX10_keepPast_9 : decode cX10_keepPast 9 = .ok (.aload_n 0, 1) := by decide +kernel
theorem dX10_keepPast_10 : decode cX10_keepPast 10 = .ok (.getfield 133, 3) := by decide +kernel
theorem dX10_keepPast_13 : decode cX10_keepPast 13 = .ok (.bipush 8, 2) := by decide +kernel
theorem dX10_keepPast_15 : decode cX10_keepPast 15 = .ok (.if_icmp .ne 29, 3) := by decide +kernel
theorem dX10_keepPast_18 : decode cX10_keepPast 18 = .ok (.aload_n 0, 1) := by decide +kernel
theorem dX10_keepPast_19 : decode cX10_keepPast 19 = .ok (.getfield 7, 3) := by decide +kernel
theorem dX10_keepPast_22 : decode cX10_keepPast 22 = .ok (.sipush 157, 3) := by decide +kernel
theorem dX10_keepPast_25 : decode cX10_keepPast 25 = .ok (.iload_n 1, 1) := by decide +kernel
theorem dX10_keepPast_26 : decode cX10_keepPast 26 = .ok (.iadd, 1) := by decide +kernel
theorem dX10_keepPast_27 : decode cX10_keepPast 27 = .ok (.aload_n 0, 1) := by decide +kernel
theorem dX10_keepPast_28 : decode cX10_keepPast 28 = .ok (.getfield 7, 3) := by decide +kernel
theorem dX10_keepPast_31 : decode cX10_keepPast 31 = .ok (.sipush 314, 3) := by decide +kernel
theorem dX10_keepPast_34 : decode cX10_keepPast 34 = .ok (.iload_n 1, 1) := by decide +kernel
theorem dX10_keepPast_35 : decode cX10_keepPast 35 = .ok (.iadd, 1) := by decide +kernel
theorem dX10_keepPast_36 : decode cX10_keepPast 36 = .ok (.iaload, 1) := by decide +kernel
theorem dX10_keepPast_37 : decode cX10_keepPast 37 = .ok (.iastore, 1) := by decide +kernel
theorem dX10_keepPast_38 : decode cX10_keepPast 38 = .ok (.iinc 1 1, 3) := by decide +kernel
theorem dX10_keepPast_41 : decode cX10_keepPast 41 = .ok (.goto (-39), 3) := by decide +kernel
theorem dX10_keepPast_44 : decode cX10_keepPast 44 = .ok (.aload_n 0, 1) := by decide +kernel
theorem dX10_keepPast_45 : decode cX10_keepPast 45 = .ok (.dup, 1) := by decide +kernel
theorem dX10_keepPast_46 : decode cX10_keepPast 46 = .ok (.getfield 133, 3) := by decide +kernel
theorem dX10_keepPast_49 : decode cX10_keepPast 49 = .ok (.aload_n 0, 1) := by decide +kernel
theorem dX10_keepPast_50 : decode cX10_keepPast 50 = .ok (.getfield 133, 3) := by decide +kernel
theorem dX10_keepPast_53 : decode cX10_keepPast 53 = .ok (.bipush 8, 2) := by decide +kernel
theorem dX10_keepPast_55 : decode cX10_keepPast 55 = .ok (.if_icmp .ne 7, 3) := by decide +kernel
theorem dX10_keepPast_58 : decode cX10_keepPast 58 = .ok (.iconst 1, 1) := by decide +kernel
theorem dX10_keepPast_59 : decode cX10_keepPast 59 = .ok (.goto 4, 3) := by decide +kernel
theorem dX10_keepPast_62 : decode cX10_keepPast 62 = .ok (.iconst 0, 1) := by decide +kernel
theorem dX10_keepPast_63 : decode cX10_keepPast 63 = .ok (.isub, 1) := by decide +kernel
theorem dX10_keepPast_64 : decode cX10_keepPast 64 = .ok (.putfield 133, 3) := by decide +kernel
theorem dX10_keepPast_67 : decode cX10_keepPast 67 = .ok (.aload_n 0, 1) := by decide +kernel
theorem dX10_keepPast_68 : decode cX10_keepPast 68 = .ok (.iconst 0, 1) := by decide +kernel
theorem dX10_keepPast_69 : decode cX10_keepPast 69 = .ok (.sipush 157, 3) := by decide +kernel
theorem dX10_keepPast_72 : decode cX10_keepPast 72 = .ok (.sipush 157, 3) := by decide +kernel
theorem dX10_keepPast_75 : decode cX10_keepPast 75 = .ok (.aload_n 0, 1) := by decide +kernel
theorem dX10_keepPast_76 : decode cX10_keepPast 76 = .ok (.getfield 133, 3) := by decide +kernel
theorem dX10_keepPast_79 : decode cX10_keepPast 79 = .ok (.imul, 1) := by decide +kernel
theorem dX10_keepPast_80 : decode cX10_keepPast 80 = .ok (.iadd, 1) := by decide +kernel
theorem dX10_keepPast_81 : decode cX10_keepPast 81 = .ok (.invokevirtual 181, 3) := by decide +kernel
theorem dX10_keepPast_84 : decode cX10_keepPast 84 = .ok (.aload_n 0, 1) := by decide +kernel
theorem dX10_keepPast_85 : decode cX10_keepPast 85 = .ok (.dup, 1) := by decide +kernel
theorem dX10_keepPast_86 : decode cX10_keepPast 86 = .ok (.getfield 133, 3) := by decide +kernel
theorem dX10_keepPast_89 : decode cX10_keepPast 89 = .ok (.iconst 1, 1) := by decide +kernel
theorem dX10_keepPast_90 : decode cX10_keepPast 90 = .ok (.iadd, 1) := by decide +kernel
theorem dX10_keepPast_91 : decode cX10_keepPast 91 = .ok (.putfield 133, 3) := by decide +kernel
theorem dX10_keepPast_94 : decode cX10_keepPast 94 = .ok (.return_, 1) := by decide +kernel
theorem dX10_copyRow_0 : decode cX10_copyRow 0 = .ok (.iconst 0, 1) := by decide +kernel
theorem dX10_copyRow_1 : decode cX10_copyRow 1 = .ok (.istore_n 3, 1) := by decide +kernel
theorem dX10_copyRow_2 : decode cX10_copyRow 2 = .ok (.iload_n 3, 1) := by decide +kernel
theorem dX10_copyRow_3 : decode cX10_copyRow 3 = .ok (.sipush 157, 3) := by decide +kernel
theorem dX10_copyRow_6 : decode cX10_copyRow 6 = .ok (.if_icmp .ge 25, 3) := by decide +kernel
theorem dX10_copyRow_9 : decode cX10_copyRow 9 = .ok (.aload_n 0, 1) := by decide +kernel
theorem dX10_copyRow_10 : decode cX10_copyRow 10 = .ok (.getfield 7, 3) := by decide +kernel
theorem dX10_copyRow_13 : decode cX10_copyRow 13 = .ok (.iload_n 2, 1) := by decide +kernel
theorem dX10_copyRow_14 : decode cX10_copyRow 14 = .ok (.iload_n 3, 1) := by decide +kernel
theorem dX10_copyRow_15 : decode cX10_copyRow 15 = .ok (.iadd, 1) := by decide +kernel
theorem dX10_copyRow_16 : decode cX10_copyRow 16 = .ok (.aload_n 0, 1) := by decide +kernel
theorem dX10_copyRow_17 : decode cX10_copyRow 17 = .ok (.getfield 7, 3) := by decide +kernel
theorem dX10_copyRow_20 : decode cX10_copyRow 20 = .ok (.iload_n 1, 1) := by decide +kernel
theorem dX10_copyRow_21 : decode cX10_copyRow 21 = .ok (.iload_n 3, 1) := by decide +kernel
theorem dX10_copyRow_22 : decode cX10_copyRow 22 = .ok (.iadd, 1) := by decide +kernel
theorem dX10_copyRow_23 : decode cX10_copyRow 23 = .ok (.iaload, 1) := by decide +kernel
theorem dX10_copyRow_24 : decode cX10_copyRow 24 = .ok (.iastore, 1) := by decide +kernel
theorem dX10_copyRow_25 : decode cX10_copyRow 25 = .ok (.iinc 3 1, 3) := by decide +kernel
theorem dX10_copyRow_28 : decode cX10_copyRow 28 = .ok (.goto (-26), 3) := by decide +kernel
theorem dX10_copyRow_31 : decode cX10_copyRow 31 = .ok (.return_, 1) := by decide +kernel
theorem dX10_join_0 : decode cX10_join 0 = .ok (.aload_n 0, 1) := by decide +kernel
theorem dX10_join_1 : decode cX10_join 1 = .ok (.iload_n 1, 1) := by decide +kernel
theorem dX10_join_2 : decode cX10_join 2 = .ok (.invokevirtual 140, 3) := by decide +kernel
theorem dX10_join_5 : decode cX10_join 5 = .ok (.ifCond .eq 16, 3) := by decide +kernel
theorem dX10_join_8 : decode cX10_join 8 = .ok (.aload_n 0, 1) := by decide +kernel
theorem dX10_join_9 : decode cX10_join 9 = .ok (.iload_n 2, 1) := by decide +kernel
theorem dX10_join_10 : decode cX10_join 10 = .ok (.invokevirtual 140, 3) := by decide +kernel
theorem dX10_join_13 : decode cX10_join 13 = .ok (.ifCond .eq 8, 3) := by decide +kernel
theorem dX10_join_16 : decode cX10_join 16 = .ok (.iload_n 1, 1) := by decide +kernel
theorem dX10_join_17 : decode cX10_join 17 = .ok (.iload_n 2, 1) := by decide +kernel
theorem dX10_join_18 : decode cX10_join 18 = .ok (.if_icmp .ne 6, 3) := by decide +kernel
theorem dX10_join_21 : decode cX10_join 21 = .ok (.bipush (-2), 2) := by decide +kernel
theorem dX10_join_23 : decode cX10_join 23 = .ok (.ireturn, 1) := by decide +kernel
theorem dX10_join_24 : decode cX10_join 24 = .ok (.iload_n 3, 1) := by decide +kernel
theorem dX10_join_25 : decode cX10_join 25 = .ok (.i2l, 1) := by decide +kernel
theorem dX10_join_26 : decode cX10_join 26 = .ok (.lconst 1, 1) := by decide +kernel
theorem dX10_join_27 : decode cX10_join 27 = .ok (.ldc2_w 184, 3) := by decide +kernel
theorem dX10_join_30 : decode cX10_join 30 = .ok (.invokestatic 48, 3) := by decide +kernel
theorem dX10_join_33 : decode cX10_join 33 = .ok (.ifCond .ne 6, 3) := by decide +kernel
theorem dX10_join_36 : decode cX10_join 36 = .ok (.bipush (-3), 2) := by decide +kernel
theorem dX10_join_38 : decode cX10_join 38 = .ok (.ireturn, 1) := by decide +kernel
theorem dX10_join_39 : decode cX10_join 39 = .ok (.aload_n 0, 1) := by decide +kernel
theorem dX10_join_40 : decode cX10_join 40 = .ok (.iload_n 1, 1) := by decide +kernel
theorem dX10_join_41 : decode cX10_join 41 = .ok (.iload_n 2, 1) := by decide +kernel
theorem dX10_join_42 : decode cX10_join 42 = .ok (.invokevirtual 164, 3) := by decide +kernel
theorem dX10_join_45 : decode cX10_join 45 = .ok (.ifCond .ne 15, 3) := by decide +kernel
theorem dX10_join_48 : decode cX10_join 48 = .ok (.aload_n 0, 1) := by decide +kernel
theorem dX10_join_49 : decode cX10_join 49 = .ok (.invokevirtual 123, 3) := by decide +kernel
theorem dX10_join_52 : decode cX10_join 52 = .ok (.bipush 30, 2) := by decide +kernel
theorem dX10_join_54 : decode cX10_join 54 = .ok (.if_icmp .ne 6, 3) := by decide +kernel
theorem dX10_join_57 : decode cX10_join 57 = .ok (.bipush (-5), 2) := by decide +kernel
theorem dX10_join_59 : decode cX10_join 59 = .ok (.ireturn, 1) := by decide +kernel
theorem dX10_join_60 : decode cX10_join 60 = .ok (.aload_n 0, 1) := by decide +kernel
theorem dX10_join_61 : decode cX10_join 61 = .ok (.invokevirtual 186, 3) := by decide +kernel
theorem dX10_join_64 : decode cX10_join 64 = .ok (.aload_n 0, 1) := by decide +kernel
theorem dX10_join_65 : decode cX10_join 65 = .ok (.iload_n 1, 1) := by decide +kernel
theorem dX10_join_66 : decode cX10_join 66 = .ok (.iload_n 2, 1) := by decide +kernel
theorem dX10_join_67 : decode cX10_join 67 = .ok (.iload_n 3, 1) := by decide +kernel
theorem dX10_join_68 : decode cX10_join 68 = .ok (.invokevirtual 95, 3) := by decide +kernel
theorem dX10_join_71 : decode cX10_join 71 = .ok (.aload_n 0, 1) := by decide +kernel
theorem dX10_join_72 : decode cX10_join 72 = .ok (.invokevirtual 123, 3) := by decide +kernel
theorem dX10_join_75 : decode cX10_join 75 = .ok (.ireturn, 1) := by decide +kernel
theorem dX10_cut_0 : decode cX10_cut 0 = .ok (.aload_n 0, 1) := by decide +kernel
theorem dX10_cut_1 : decode cX10_cut 1 = .ok (.iload_n 1, 1) := by decide +kernel
theorem dX10_cut_2 : decode cX10_cut 2 = .ok (.invokevirtual 140, 3) := by decide +kernel
theorem dX10_cut_5 : decode cX10_cut 5 = .ok (.ifCond .eq 11, 3) := by decide +kernel
theorem dX10_cut_8 : decode cX10_cut 8 = .ok (.aload_n 0, 1) := by decide +kernel
theorem dX10_cut_9 : decode cX10_cut 9 = .ok (.iload_n 2, 1) := by decide +kernel
theorem dX10_cut_10 : decode cX10_cut 10 = .ok (.invokevirtual 140, 3) := by decide +kernel
theorem dX10_cut_13 : decode cX10_cut 13 = .ok (.ifCond .ne 6, 3) := by decide +kernel
theorem dX10_cut_16 : decode cX10_cut 16 = .ok (.bipush (-2), 2) := by decide +kernel
theorem dX10_cut_18 : decode cX10_cut 18 = .ok (.ireturn, 1) := by decide +kernel
theorem dX10_cut_19 : decode cX10_cut 19 = .ok (.aload_n 0, 1) := by decide +kernel
theorem dX10_cut_20 : decode cX10_cut 20 = .ok (.iload_n 1, 1) := by decide +kernel
theorem dX10_cut_21 : decode cX10_cut 21 = .ok (.iload_n 2, 1) := by decide +kernel
theorem dX10_cut_22 : decode cX10_cut 22 = .ok (.invokevirtual 164, 3) := by decide +kernel
theorem dX10_cut_25 : decode cX10_cut 25 = .ok (.istore_n 3, 1) := by decide +kernel
theorem dX10_cut_26 : decode cX10_cut 26 = .ok (.iload_n 3, 1) := by decide +kernel
theorem dX10_cut_27 : decode cX10_cut 27 = .ok (.ifCond .ne 6, 3) := by decide +kernel
theorem dX10_cut_30 : decode cX10_cut 30 = .ok (.bipush (-4), 2) := by decide +kernel
theorem dX10_cut_32 : decode cX10_cut 32 = .ok (.ireturn, 1) := by decide +kernel
theorem dX10_cut_33 : decode cX10_cut 33 = .ok (.aload_n 0, 1) := by decide +kernel
theorem dX10_cut_34 : decode cX10_cut 34 = .ok (.invokevirtual 186, 3) := by decide +kernel
theorem dX10_cut_37 : decode cX10_cut 37 = .ok (.aload_n 0, 1) := by decide +kernel
theorem dX10_cut_38 : decode cX10_cut 38 = .ok (.iload_n 1, 1) := by decide +kernel
theorem dX10_cut_39 : decode cX10_cut 39 = .ok (.iload_n 2, 1) := by decide +kernel
theorem dX10_cut_40 : decode cX10_cut 40 = .ok (.iconst 0, 1) := by decide +kernel
theorem dX10_cut_41 : decode cX10_cut 41 = .ok (.invokevirtual 95, 3) := by decide +kernel
theorem dX10_cut_44 : decode cX10_cut 44 = .ok (.iload_n 3, 1) := by decide +kernel
theorem dX10_cut_45 : decode cX10_cut 45 = .ok (.ireturn, 1) := by decide +kernel
theorem dX10_lift_0 : decode cX10_lift 0 = .ok (.aload_n 0, 1) := by decide +kernel
theorem dX10_lift_1 : decode cX10_lift 1 = .ok (.iload_n 1, 1) := by decide +kernel
theorem dX10_lift_2 : decode cX10_lift 2 = .ok (.invokevirtual 140, 3) := by decide +kernel
theorem dX10_lift_5 : decode cX10_lift 5 = .ok (.ifCond .ne 6, 3) := by decide +kernel
theorem dX10_lift_8 : decode cX10_lift 8 = .ok (.bipush (-2), 2) := by decide +kernel
theorem dX10_lift_10 : decode cX10_lift 10 = .ok (.ireturn, 1) := by decide +kernel
theorem dX10_lift_11 : decode cX10_lift 11 = .ok (.iload_n 2, 1) := by decide +kernel
theorem dX10_lift_12 : decode cX10_lift 12 = .ok (.i2l, 1) := by decide +kernel
theorem dX10_lift_13 : decode cX10_lift 13 = .ok (.lconst 0, 1) := by decide +kernel
theorem dX10_lift_14 : decode cX10_lift 14 = .ok (.ldc2_w 159, 3) := by decide +kernel
theorem dX10_lift_17 : decode cX10_lift 17 = .ok (.invokestatic 48, 3) := by decide +kernel
theorem dX10_lift_20 : decode cX10_lift 20 = .ok (.ifCond .ne 6, 3) := by decide +kernel
