theorem dX9_weighThinned_58 : decode cX9_weighThinned 58 = .ok (.aload_n 0, 1) := by decide +kernel
theorem dX9_weighThinned_59 : decode cX9_weighThinned 59 = .ok (.getfield 58, 3) := by decide +kernel
theorem dX9_weighThinned_62 : decode cX9_weighThinned 62 = .ok (.iload_n 2, 1) := by decide +kernel
theorem dX9_weighThinned_63 : decode cX9_weighThinned 63 = .ok (.iload_n 3, 1) := by decide +kernel
theorem dX9_weighThinned_64 : decode cX9_weighThinned 64 = .ok (.invokevirtual 184, 3) := by decide +kernel
theorem dX9_weighThinned_67 : decode cX9_weighThinned 67 = .ok (.istore 4, 2) := by decide +kernel
theorem dX9_weighThinned_69 : decode cX9_weighThinned 69 = .ok (.iload 4, 2) := by decide +kernel
theorem dX9_weighThinned_71 : decode cX9_weighThinned 71 = .ok (.iconst (-1), 1) := by decide +kernel
theorem dX9_weighThinned_72 : decode cX9_weighThinned 72 = .ok (.if_icmp .eq 26, 3) := by decide +kernel
theorem dX9_weighThinned_75 : decode cX9_weighThinned 75 = .ok (.aload_n 0, 1) := by decide +kernel
theorem dX9_weighThinned_76 : decode cX9_weighThinned 76 = .ok (.getfield 79, 3) := by decide +kernel
theorem dX9_weighThinned_79 : decode cX9_weighThinned 79 = .ok (.aload_n 0, 1) := by decide +kernel
theorem dX9_weighThinned_80 : decode cX9_weighThinned 80 = .ok (.getfield 65, 3) := by decide +kernel
theorem dX9_weighThinned_83 : decode cX9_weighThinned 83 = .ok (.getfield 302, 3) := by decide +kernel
theorem dX9_weighThinned_86 : decode cX9_weighThinned 86 = .ok (.iload_n 2, 1) := by decide +kernel
theorem dX9_weighThinned_87 : decode cX9_weighThinned 87 = .ok (.iload_n 3, 1) := by decide +kernel
theorem dX9_weighThinned_88 : decode cX9_weighThinned 88 = .ok (.invokevirtual 184, 3) := by decide +kernel
theorem dX9_weighThinned_91 : decode cX9_weighThinned 91 = .ok (.iload 4, 2) := by decide +kernel
theorem dX9_weighThinned_93 : decode cX9_weighThinned 93 = .ok (.iload_n 2, 1) := by decide +kernel
theorem dX9_weighThinned_94 : decode cX9_weighThinned 94 = .ok (.iload_n 3, 1) := by decide +kernel
theorem dX9_weighThinned_95 : decode cX9_weighThinned 95 = .ok (.invokevirtual 303, 3) := by decide +kernel
theorem dX9_weighThinned_98 : decode cX9_weighThinned 98 = .ok (.iinc 3 1, 3) := by decide +kernel
theorem dX9_weighThinned_101 : decode cX9_weighThinned 101 = .ok (.goto (-54), 3) := by decide +kernel
theorem dX9_weighThinned_104 : decode cX9_weighThinned 104 = .ok (.iinc 2 1, 3) := by decide +kernel
theorem dX9_weighThinned_107 : decode cX9_weighThinned 107 = .ok (.goto (-75), 3) := by decide +kernel
theorem dX9_weighThinned_110 : decode cX9_weighThinned 110 = .ok (.return_, 1) := by decide +kernel
theorem dX9_weighTold_0 : decode cX9_weighTold 0 = .ok (.aload_n 0, 1) := by decide +kernel
theorem dX9_weighTold_1 : decode cX9_weighTold 1 = .ok (.getfield 58, 3) := by decide +kernel
theorem dX9_weighTold_4 : decode cX9_weighTold 4 = .ok (.aload_n 0, 1) := by decide +kernel
theorem dX9_weighTold_5 : decode cX9_weighTold 5 = .ok (.getfield 10, 3) := by decide +kernel
theorem dX9_weighTold_8 : decode cX9_weighTold 8 = .ok (.invokevirtual 182, 3) := by decide +kernel
theorem dX9_weighTold_11 : decode cX9_weighTold 11 = .ok (.aload_n 0, 1) := by decide +kernel
theorem dX9_weighTold_12 : decode cX9_weighTold 12 = .ok (.getfield 79, 3) := by decide +kernel
theorem dX9_weighTold_15 : decode cX9_weighTold 15 = .ok (.invokevirtual 299, 3) := by decide +kernel
theorem dX9_weighTold_18 : decode cX9_weighTold 18 = .ok (.iconst 0, 1) := by decide +kernel
theorem dX9_weighTold_19 : decode cX9_weighTold 19 = .ok (.istore_n 1, 1) := by decide +kernel
theorem dX9_weighTold_20 : decode cX9_weighTold 20 = .ok (.iconst 0, 1) := by decide +kernel
theorem dX9_weighTold_21 : decode cX9_weighTold 21 = .ok (.istore_n 2, 1) := by decide +kernel
theorem dX9_weighTold_22 : decode cX9_weighTold 22 = .ok (.iload_n 2, 1) := by decide +kernel
theorem dX9_weighTold_23 : decode cX9_weighTold 23 = .ok (.aload_n 0, 1) := by decide +kernel
theorem dX9_weighTold_24 : decode cX9_weighTold 24 = .ok (.getfield 10, 3) := by decide +kernel
theorem dX9_weighTold_27 : decode cX9_weighTold 27 = .ok (.getfield 152, 3) := by decide +kernel
theorem dX9_weighTold_30 : decode cX9_weighTold 30 = .ok (.if_icmp .ge 97, 3) := by decide +kernel
theorem dX9_weighTold_33 : decode cX9_weighTold 33 = .ok (.iload_n 2, 1) := by decide +kernel
theorem dX9_weighTold_34 : decode cX9_weighTold 34 = .ok (.iconst 1, 1) := by decide +kernel
theorem dX9_weighTold_35 : decode cX9_weighTold 35 = .ok (.iadd, 1) := by decide +kernel
theorem dX9_weighTold_36 : decode cX9_weighTold 36 = .ok (.istore_n 3, 1) := by decide +kernel
theorem dX9_weighTold_37 : decode cX9_weighTold 37 = .ok (.iload_n 3, 1) := by decide +kernel
theorem dX9_weighTold_38 : decode cX9_weighTold 38 = .ok (.aload_n 0, 1) := by decide +kernel
theorem dX9_weighTold_39 : decode cX9_weighTold 39 = .ok (.getfield 10, 3) := by decide +kernel
theorem dX9_weighTold_42 : decode cX9_weighTold 42 = .ok (.getfield 152, 3) := by decide +kernel
theorem dX9_weighTold_45 : decode cX9_weighTold 45 = .ok (.if_icmp .ge 76, 3) := by decide +kernel
theorem dX9_weighTold_48 : decode cX9_weighTold 48 = .ok (.aload_n 0, 1) := by decide +kernel
theorem dX9_weighTold_49 : decode cX9_weighTold 49 = .ok (.getfield 58, 3) := by decide +kernel
theorem dX9_weighTold_52 : decode cX9_weighTold 52 = .ok (.iload_n 2, 1) := by decide +kernel
theorem dX9_weighTold_53 : decode cX9_weighTold 53 = .ok (.iload_n 3, 1) := by decide +kernel
theorem dX9_weighTold_54 : decode cX9_weighTold 54 = .ok (.invokevirtual 184, 3) := by decide +kernel
theorem dX9_weighTold_57 : decode cX9_weighTold 57 = .ok (.istore 4, 2) := by decide +kernel
theorem dX9_weighTold_59 : decode cX9_weighTold 59 = .ok (.iload 4, 2) := by decide +kernel
theorem dX9_weighTold_61 : decode cX9_weighTold 61 = .ok (.iconst (-1), 1) := by decide +kernel
theorem dX9_weighTold_62 : decode cX9_weighTold 62 = .ok (.if_icmp .ne 6, 3) := by decide +kernel
theorem dX9_weighTold_65 : decode cX9_weighTold 65 = .ok (.goto 50, 3) := by decide +kernel
theorem dX9_weighTold_68 : decode cX9_weighTold 68 = .ok (.aload_n 0, 1) := by decide +kernel
theorem dX9_weighTold_69 : decode cX9_weighTold 69 = .ok (.getfield 72, 3) := by decide +kernel
theorem dX9_weighTold_72 : decode cX9_weighTold 72 = .ok (.aload_n 0, 1) := by decide +kernel
theorem dX9_weighTold_73 : decode cX9_weighTold 73 = .ok (.getfield 37, 3) := by decide +kernel
theorem dX9_weighTold_76 : decode cX9_weighTold 76 = .ok (.iload_n 2, 1) := by decide +kernel
theorem dX9_weighTold_77 : decode cX9_weighTold 77 = .ok (.iload_n 3, 1) := by decide +kernel
theorem dX9_weighTold_78 : decode cX9_weighTold 78 = .ok (.invokevirtual 238, 3) := by decide +kernel
theorem dX9_weighTold_81 : decode cX9_weighTold 81 = .ok (.aload_n 0, 1) := by decide +kernel
theorem dX9_weighTold_82 : decode cX9_weighTold 82 = .ok (.getfield 72, 3) := by decide +kernel
theorem dX9_weighTold_85 : decode cX9_weighTold 85 = .ok (.getfield 242, 3) := by decide +kernel
theorem dX9_weighTold_88 : decode cX9_weighTold 88 = .ok (.ifCond .ne 24, 3) := by decide +kernel
theorem dX9_weighTold_91 : decode cX9_weighTold 91 = .ok (.aload_n 0, 1) := by decide +kernel
theorem dX9_weighTold_92 : decode cX9_weighTold 92 = .ok (.getfield 79, 3) := by decide +kernel
theorem dX9_weighTold_95 : decode cX9_weighTold 95 = .ok (.aload_n 0, 1) := by decide +kernel
theorem dX9_weighTold_96 : decode cX9_weighTold 96 = .ok (.getfield 72, 3) := by decide +kernel
theorem dX9_weighTold_99 : decode cX9_weighTold 99 = .ok (.getfield 245, 3) := by decide +kernel
theorem dX9_weighTold_102 : decode cX9_weighTold 102 = .ok (.iload 4, 2) := by decide +kernel
theorem dX9_weighTold_104 : decode cX9_weighTold 104 = .ok (.iload_n 2, 1) := by decide +kernel
theorem dX9_weighTold_105 : decode cX9_weighTold 105 = .ok (.iload_n 3, 1) := by decide +kernel
theorem dX9_weighTold_106 : decode cX9_weighTold 106 = .ok (.invokevirtual 303, 3) := by decide +kernel
theorem dX9_weighTold_109 : decode cX9_weighTold 109 = .ok (.goto 6, 3) := by decide +kernel
theorem dX9_weighTold_112 : decode cX9_weighTold 112 = .ok (.iinc 1 1, 3) := by decide +kernel
theorem dX9_weighTold_115 : decode cX9_weighTold 115 = .ok (.iinc 3 1, 3) := by decide +kernel
theorem dX9_weighTold_118 : decode cX9_weighTold 118 = .ok (.goto (-81), 3) := by decide +kernel
theorem dX9_weighTold_121 : decode cX9_weighTold 121 = .ok (.iinc 2 1, 3) := by decide +kernel
theorem dX9_weighTold_124 : decode cX9_weighTold 124 = .ok (.goto (-102), 3) := by decide +kernel
theorem dX9_weighTold_127 : decode cX9_weighTold 127 = .ok (.iload_n 1, 1) := by decide +kernel
theorem dX9_weighTold_128 : decode cX9_weighTold 128 = .ok (.ireturn, 1) := by decide +kernel
theorem dX9_parts_0 : decode cX9_parts 0 = .ok (.aload_n 0, 1) := by decide +kernel
theorem dX9_parts_1 : decode cX9_parts 1 = .ok (.getfield 58, 3) := by decide +kernel
theorem dX9_parts_4 : decode cX9_parts 4 = .ok (.aload_n 0, 1) := by decide +kernel
theorem dX9_parts_5 : decode cX9_parts 5 = .ok (.getfield 10, 3) := by decide +kernel
theorem dX9_parts_8 : decode cX9_parts 8 = .ok (.invokevirtual 182, 3) := by decide +kernel
theorem dX9_parts_11 : decode cX9_parts 11 = .ok (.iconst 0, 1) := by decide +kernel
theorem dX9_parts_12 : decode cX9_parts 12 = .ok (.istore_n 1, 1) := by decide +kernel
theorem dX9_parts_13 : decode cX9_parts 13 = .ok (.iconst 0, 1) := by decide +kernel
theorem dX9_parts_14 : decode cX9_parts 14 = .ok (.istore_n 2, 1) := by decide +kernel
theorem dX9_parts_15 : decode cX9_parts 15 = .ok (.iload_n 2, 1) := by decide +kernel
theorem dX9_parts_16 : decode cX9_parts 16 = .ok (.aload_n 0, 1) := by decide +kernel
theorem dX9_parts_17 : decode cX9_parts 17 = .ok (.getfield 10, 3) := by decide +kernel
theorem dX9_parts_20 : decode cX9_parts 20 = .ok (.getfield 152, 3) := by decide +kernel
theorem dX9_parts_23 : decode cX9_parts 23 = .ok (.if_icmp .ge 43, 3) := by decide +kernel
theorem dX9_parts_26 : decode cX9_parts 26 = .ok (.iconst 0, 1) := by decide +kernel
theorem dX9_parts_27 : decode cX9_parts 27 = .ok (.istore_n 3, 1) := by decide +kernel
theorem dX9_parts_28 : decode cX9_parts 28 = .ok (.iload_n 3, 1) := by decide +kernel
theorem dX9_parts_29 : decode cX9_parts 29 = .ok (.iload_n 2, 1) := by decide +kernel
theorem dX9_parts_30 : decode cX9_parts 30 = .ok (.if_icmp .ge 22, 3) := by decide +kernel
theorem dX9_parts_33 : decode cX9_parts 33 = .ok (.aload_n 0, 1) := by decide +kernel
theorem dX9_parts_34 : decode cX9_parts 34 = .ok (.getfield 58, 3) := by decide +kernel
theorem dX9_parts_37 : decode cX9_parts 37 = .ok (.iload_n 3, 1) := by decide +kernel
theorem dX9_parts_38 : decode cX9_parts 38 = .ok (.iload_n 2, 1) := by decide +kernel
theorem dX9_parts_39 : decode cX9_parts 39 = .ok (.invokevirtual 184, 3) := by decide +kernel
theorem dX9_parts_42 : decode cX9_parts 42 = .ok (.iconst (-1), 1) := by decide +kernel
theorem dX9_parts_43 : decode cX9_parts 43 = .ok (.if_icmp .ne 9, 3) := by decide +kernel
theorem dX9_parts_46 : decode cX9_parts 46 = .ok (.iinc 3 1, 3) := by decide +kernel
theorem dX9_parts_49 : decode cX9_parts 49 = .ok (.goto (-21), 3) := by decide +kernel
theorem dX9_parts_52 : decode cX9_parts 52 = .ok (.iload_n 3, 1) := by decide +kernel
theorem dX9_parts_53 : decode cX9_parts 53 = .ok (.iload_n 2, 1) := by decide +kernel
theorem dX9_parts_54 : decode cX9_parts 54 = .ok (.if_icmp .ne 6, 3) := by decide +kernel
theorem dX9_parts_57 : decode cX9_parts 57 = .ok (.iinc 1 1, 3) := by decide +kernel
theorem dX9_parts_60 : decode cX9_parts 60 = .ok (.iinc 2 1, 3) := by decide +kernel
theorem dX9_parts_63 : decode cX9_parts 63 = .ok (.goto (-48), 3) := by decide +kernel
theorem dX9_parts_66 : decode cX9_parts 66 = .ok (.iload_n 1, 1) := by decide +kernel
theorem dX9_parts_67 : decode cX9_parts 67 = .ok (.ireturn, 1) := by decide +kernel
theorem dX9_writtenNotes_0 : decode cX9_writtenNotes 0 = .ok (.iconst 0, 1) := by decide +kernel
theorem dX9_writtenNotes_1 : decode cX9_writtenNotes 1 = .ok (.istore_n 1, 1) := by decide +kernel
theorem dX9_writtenNotes_2 : decode cX9_writtenNotes 2 = .ok (.iconst 0, 1) := by decide +kernel
theorem dX9_writtenNotes_3 : decode cX9_writtenNotes 3 = .ok (.istore_n 2, 1) := by decide +kernel
theorem dX9_writtenNotes_4 : decode cX9_writtenNotes 4 = .ok (.iload_n 2, 1) := by decide +kernel
theorem dX9_writtenNotes_5 : decode cX9_writtenNotes 5 = .ok (.aload_n 0, 1) := by decide +kernel
theorem dX9_writtenNotes_6 : decode cX9_writtenNotes 6 = .ok (.getfield 10, 3) := by decide +kernel
theorem dX9_writtenNotes_9 : decode cX9_writtenNotes 9 = .ok (.getfield 152, 3) := by decide +kernel
theorem dX9_writtenNotes_12 : decode cX9_writtenNotes 12 = .ok (.if_icmp .ge 24, 3) := by decide +kernel
theorem dX9_writtenNotes_15 : decode cX9_writtenNotes 15 = .ok (.aload_n 0, 1) := by decide +kernel
theorem dX9_writtenNotes_16 : decode cX9_writtenNotes 16 = .ok (.getfield 37, 3) := by decide +kernel
theorem dX9_writtenNotes_19 : decode cX9_writtenNotes 19 = .ok (.iload_n 2, 1) := by decide +kernel
theorem dX9_writtenNotes_20 : decode cX9_writtenNotes 20 = .ok (.aaload, 1) := by decide +kernel
theorem dX9_writtenNotes_21 : decode cX9_writtenNotes 21 = .ok (.getfield 232, 3) := by decide +kernel
theorem dX9_writtenNotes_24 : decode cX9_writtenNotes 24 = .ok (.ifCond .eq 6, 3) := by decide +kernel
theorem dX9_writtenNotes_27 : decode cX9_writtenNotes 27 = .ok (.iinc 1 1, 3) := by decide +kernel
theorem dX9_writtenNotes_30 : decode cX9_writtenNotes 30 = .ok (.iinc 2 1, 3) := by decide +kernel
theorem dX9_writtenNotes_33 : decode cX9_writtenNotes 33 = .ok (.goto (-29), 3) := by decide +kernel
theorem dX9_writtenNotes_36 : decode cX9_writtenNotes 36 = .ok (.iload_n 1, 1) := by decide +kernel
theorem dX9_writtenNotes_37 : decode cX9_writtenNotes 37 = .ok (.ireturn, 1) := by decide +kernel
theorem dX9_freshNotes_0 : decode cX9_freshNotes 0 = .ok (.iconst 0, 1) := by decide +kernel
theorem dX9_freshNotes_1 : decode cX9_freshNotes 1 = .ok (.istore_n 1, 1) := by decide +kernel
theorem dX9_freshNotes_2 : decode cX9_freshNotes 2 = .ok (.iconst 0, 1) := by decide +kernel
theorem dX9_freshNotes_3 : decode cX9_freshNotes 3 = .ok (.istore_n 2, 1) := by decide +kernel
theorem dX9_freshNotes_4 : decode cX9_freshNotes 4 = .ok (.iload_n 2, 1) := by decide +kernel
theorem dX9_freshNotes_5 : decode cX9_freshNotes 5 = .ok (.aload_n 0, 1) := by decide +kernel
theorem dX9_freshNotes_6 : decode cX9_freshNotes 6 = .ok (.getfield 10, 3) := by decide +kernel
theorem dX9_freshNotes_9 : decode cX9_freshNotes 9 = .ok (.getfield 152, 3) := by decide +kernel
theorem dX9_freshNotes_12 : decode cX9_freshNotes 12 = .ok (.if_icmp .ge 20, 3) := by decide +kernel
theorem dX9_freshNotes_15 : decode cX9_freshNotes 15 = .ok (.aload_n 0, 1) := by decide +kernel
theorem dX9_freshNotes_16 : decode cX9_freshNotes 16 = .ok (.iload_n 2, 1) := by decide +kernel
theorem dX9_freshNotes_17 : decode cX9_freshNotes 17 = .ok (.invokevirtual 229, 3) := by decide +kernel
theorem dX9_freshNotes_20 : decode cX9_freshNotes 20 = .ok (.ifCond .eq 6, 3) := by decide +kernel
theorem dX9_freshNotes_23 : decode cX9_freshNotes 23 = .ok (.iinc 1 1, 3) := by decide +kernel
theorem dX9_freshNotes_26 : decode cX9_freshNotes 26 = .ok (.iinc 2 1, 3) := by decide +kernel
theorem dX9_freshNotes_29 : decode cX9_freshNotes 29 = .ok (.goto (-25), 3) := by decide +kernel
theorem dX9_freshNotes_32 : decode cX9_freshNotes 32 = .ok (.iload_n 1, 1) := by decide +kernel
theorem dX9_freshNotes_33 : decode cX9_freshNotes 33 = .ok (.ireturn, 1) := by decide +kernel
theorem dX9_nodesInNotes_0 : decode cX9_nodesInNotes 0 = .ok (.iconst 0, 1) := by decide +kernel
theorem dX9_nodesInNotes_1 : decode cX9_nodesInNotes 1 = .ok (.istore_n 1, 1) := by decide +kernel
theorem dX9_nodesInNotes_2 : decode cX9_nodesInNotes 2 = .ok (.iconst 0, 1) := by decide +kernel
theorem dX9_nodesInNotes_3 : decode cX9_nodesInNotes 3 = .ok (.istore_n 2, 1) := by decide +kernel
theorem dX9_nodesInNotes_4 : decode cX9_nodesInNotes 4 = .ok (.iload_n 2, 1) := by decide +kernel
theorem dX9_nodesInNotes_5 : decode cX9_nodesInNotes 5 = .ok (.aload_n 0, 1) := by decide +kernel
theorem dX9_nodesInNotes_6 : decode cX9_nodesInNotes 6 = .ok (.getfield 10, 3) := by decide +kernel
theorem dX9_nodesInNotes_9 : decode cX9_nodesInNotes 9 = .ok (.getfield 152, 3) := by decide +kernel
theorem dX9_nodesInNotes_12 : decode cX9_nodesInNotes 12 = .ok (.if_icmp .ge 36, 3) := by decide +kernel
theorem dX9_nodesInNotes_15 : decode cX9_nodesInNotes 15 = .ok (.aload_n 0, 1) := by decide +kernel
theorem dX9_nodesInNotes_16 : decode cX9_nodesInNotes 16 = .ok (.getfield 37, 3) := by decide +kernel
theorem dX9_nodesInNotes_19 : decode cX9_nodesInNotes 19 = .ok (.iload_n 2, 1) := by decide +kernel
theorem dX9_nodesInNotes_20 : decode cX9_nodesInNotes 20 = .ok (.aaload, 1) := by decide +kernel
theorem dX9_nodesInNotes_21 : decode cX9_nodesInNotes 21 = .ok (.getfield 232, 3) := by decide +kernel
theorem dX9_nodesInNotes_24 : decode cX9_nodesInNotes 24 = .ok (.ifCond .eq 18, 3) := by decide +kernel
theorem dX9_nodesInNotes_27 : decode cX9_nodesInNotes 27 = .ok (.iload_n 1, 1) := by decide +kernel
theorem dX9_nodesInNotes_28 : decode cX9_nodesInNotes 28 = .ok (.aload_n 0, 1) := by decide +kernel
theorem dX9_nodesInNotes_29 : decode cX9_nodesInNotes 29 = .ok (.getfield 37, 3) := by decide +kernel
theorem dX9_nodesInNotes_32 : decode cX9_nodesInNotes 32 = .ok (.iload_n 2, 1) := by decide +kernel
theorem dX9_nodesInNotes_33 : decode cX9_nodesInNotes 33 = .ok (.aaload, 1) := by decide +kernel
theorem dX9_nodesInNotes_34 : decode cX9_nodesInNotes 34 = .ok (.getfield 199, 3) := by decide +kernel
theorem dX9_nodesInNotes_37 : decode cX9_nodesInNotes 37 = .ok (.invokestatic 224, 3) := by decide +kernel
theorem dX9_nodesInNotes_40 : decode cX9_nodesInNotes 40 = .ok (.iadd, 1) := by decide +kernel
theorem dX9_nodesInNotes_41 : decode cX9_nodesInNotes 41 = .ok (.istore_n 1, 1) := by decide +kernel
theorem dX9_nodesInNotes_42 : decode cX9_nodesInNotes 42 = .ok (.iinc 2 1, 3) := by decide +kernel
theorem dX9_nodesInNotes_45 : decode cX9_nodesInNotes 45 = .ok (.goto (-41), 3) := by decide +kernel
theorem dX9_nodesInNotes_48 : decode cX9_nodesInNotes 48 = .ok (.iload_n 1, 1) := by decide +kernel
theorem dX9_nodesInNotes_49 : decode cX9_nodesInNotes 49 = .ok (.ireturn, 1) := by decide +kernel
theorem dX10_init_0 : decode cX10_init 0 = .ok (.aload_n 0, 1) := by decide +kernel
theorem dX10_init_1 : decode cX10_init 1 = .ok (.invokespecial 1, 3) := by decide +kernel
theorem dX10_init_4 : decode cX10_init 4 = .ok (.aload_n 0, 1) := by decide +kernel
theorem dX10_init_5 : decode cX10_init 5 = .ok (.sipush 1727, 3) := by decide +kernel
theorem dX10_init_8 : decode cX10_init 8 = .ok (.newarray .int, 2) := by decide +kernel
theorem dX10_init_10 : decode cX10_init 10 = .ok (.putfield 7, 3) := by decide +kernel
theorem dX10_init_13 : decode cX10_init 13 = .ok (.aload_n 0, 1) := by decide +kernel
theorem dX10_init_14 : decode cX10_init 14 = .ok (.iconst 2, 1) := by decide +kernel
theorem dX10_init_15 : decode cX10_init 15 = .ok (.putfield 13, 3) := by decide +kernel
theorem dX10_init_18 : decode cX10_init 18 = .ok (.aload_n 0, 1) := by decide +kernel
theorem dX10_init_19 : decode cX10_init 19 = .ok (.sipush 720, 3) := by decide +kernel
theorem dX10_init_22 : decode cX10_init 22 = .ok (.newarray .int, 2) := by decide +kernel
theorem dX10_init_24 : decode cX10_init 24 = .ok (.putfield 17, 3) := by decide +kernel
theorem dX10_init_27 : decode cX10_init 27 = .ok (.aload_n 0, 1) := by decide +kernel
theorem dX10_init_28 : decode cX10_init 28 = .ok (.iconst 2, 1) := by decide +kernel
theorem dX10_init_29 : decode cX10_init 29 = .ok (.newarray .boolean, 2) := by decide +kernel
theorem dX10_init_31 : decode cX10_init 31 = .ok (.putfield 20, 3) := by decide +kernel
theorem dX10_init_34 : decode cX10_init 34 = .ok (.aload_n 0, 1) := by decide +kernel
theorem dX10_init_35 : decode cX10_init 35 = .ok (.sipush 200, 3) := by decide +kernel
theorem dX10_init_38 : decode cX10_init 38 = .ok (.newarray .int, 2) := by decide +kernel
theorem dX10_init_40 : decode cX10_init 40 = .ok (.putfield 24, 3) := by decide +kernel
theorem dX10_init_43 : decode cX10_init 43 = .ok (.aload_n 0, 1) := by decide +kernel
theorem dX10_init_44 : decode cX10_init 44 = .ok (.sipush 144, 3) := by decide +kernel
theorem dX10_init_47 : decode cX10_init 47 = .ok (.newarray .boolean, 2) := by decide +kernel
theorem dX10_init_49 : decode cX10_init 49 = .ok (.putfield 27, 3) := by decide +kernel
theorem dX10_init_52 : decode cX10_init 52 = .ok (.aload_n 0, 1) := by decide +kernel
theorem dX10_init_53 : decode cX10_init 53 = .ok (.iconst 3, 1) := by decide +kernel
theorem dX10_init_54 : decode cX10_init 54 = .ok (.newarray .int, 2) := by decide +kernel
theorem dX10_init_56 : decode cX10_init 56 = .ok (.putfield 30, 3) := by decide +kernel
theorem dX10_init_59 : decode cX10_init 59 = .ok (.aload_n 0, 1) := by decide +kernel
theorem dX10_init_60 : decode cX10_init 60 = .ok (.bipush 15, 2) := by decide +kernel
theorem dX10_init_62 : decode cX10_init 62 = .ok (.newarray .int, 2) := by decide +kernel
theorem dX10_init_64 : decode cX10_init 64 = .ok (.dup, 1) := by decide +kernel
theorem dX10_init_65 : decode cX10_init 65 = .ok (.iconst 0, 1) := by decide +kernel
theorem dX10_init_66 : decode cX10_init 66 = .ok (.bipush 110, 2) := by decide +kernel
theorem dX10_init_68 : decode cX10_init 68 = .ok (.iastore, 1) := by decide +kernel
theorem dX10_init_69 : decode cX10_init 69 = .ok (.dup, 1) := by decide +kernel
theorem dX10_init_70 : decode cX10_init 70 = .ok (.iconst 1, 1) := by decide +kernel
theorem dX10_init_71 : decode cX10_init 71 = .ok (.bipush 101, 2) := by decide +kernel
theorem dX10_init_73 : decode cX10_init 73 = .ok (.iastore, 1) := by decide +kernel
theorem dX10_init_74 : decode cX10_init 74 = .ok (.dup, 1) := by decide +kernel
theorem dX10_init_75 : decode cX10_init 75 = .ok (.iconst 2, 1) := by decide +kernel
theorem dX10_init_76 : decode cX10_init 76 = .ok (.bipush 116, 2) := by decide +kernel
theorem dX10_init_78 : decode cX10_init 78 = .ok (.iastore, 1) := by decide +kernel
theorem dX10_init_79 : decode cX10_init 79 = .ok (.dup, 1) := by decide +kernel
theorem dX10_init_80 : decode cX10_init 80 = .ok (.iconst 3, 1) := by decide +kernel
theorem dX10_init_81 : decode cX10_init 81 = .ok (.iconst 0, 1) := by decide +kernel
theorem dX10_init_82 : decode cX10_init 82 = .ok (.iastore, 1) := by decide +kernel
theorem dX10_init_83 : decode cX10_init 83 = .ok (.dup, 1) := by decide +kernel
theorem dX10_init_84 : decode cX10_init 84 = .ok (.iconst 4, 1) := by decide +kernel
theorem dX10_init_85 : decode cX10_init 85 = .ok (.iconst 0, 1) := by decide +kernel
theorem dX10_init_86 : decode cX10_init 86 = .ok (.iastore, 1) := by decide +kernel
theorem dX10_init_87 : decode cX10_init 87 = .ok (.dup, 1) := by decide +kernel
theorem dX10_init_88 : decode cX10_init 88 = .ok (.iconst 5, 1) := by decide +kernel
theorem dX10_init_89 : decode cX10_init 89 = .ok (.bipush 108, 2) := by decide +kernel
theorem dX10_init_91 : decode cX10_init 91 = .ok (.iastore, 1) := by decide +kernel
theorem dX10_init_92 : decode cX10_init 92 = .ok (.dup, 1) := by decide +kernel
theorem dX10_init_93 : decode cX10_init 93 = .ok (.bipush 6, 2) := by decide +kernel
theorem dX10_init_95 : decode cX10_init 95 = .ok (.bipush 105, 2) := by decide +kernel
theorem dX10_init_97 : decode cX10_init 97 = .ok (.iastore, 1) := by decide +kernel
theorem dX10_init_98 : decode cX10_init 98 = .ok (.dup, 1) := by decide +kernel
theorem dX10_init_99 : decode cX10_init 99 = .ok (.bipush 7, 2) := by decide +kernel
theorem dX10_init_101 : decode cX10_init 101 = .ok (.bipush 110, 2) := by decide +kernel
theorem dX10_init_103 : decode cX10_init 103 = .ok (.iastore, 1) := by decide +kernel
theorem dX10_init_104 : decode cX10_init 104 = .ok (.dup, 1) := by decide +kernel
theorem dX10_init_105 : decode cX10_init 105 = .ok (.bipush 8, 2) := by decide +kernel
theorem dX10_init_107 : decode cX10_init 107 = .ok (.bipush 107, 2) := by decide +kernel
theorem dX10_init_109 : decode cX10_init 109 = .ok (.iastore, 1) := by decide +kernel
theorem dX10_init_110 : decode cX10_init 110 = .ok (.dup, 1) := by decide +kernel
theorem dX10_init_111 : decode cX10_init 111 = .ok (.bipush 9, 2) := by decide +kernel
theorem dX10_init_113 : decode cX10_init 113 = .ok (.iconst 0, 1) := by decide +kernel
theorem dX10_init_114 : decode cX10_init 114 = .ok (.iastore, 1) := by decide +kernel
theorem dX10_init_115 : decode cX10_init 115 = .ok (.dup, 1) := by decide +kernel
theorem dX10_init_116 : decode cX10_init 116 = .ok (.bipush 10, 2) := by decide +kernel
theorem dX10_init_118 : decode cX10_init 118 = .ok (.bipush 108, 2) := by decide +kernel
theorem dX10_init_120 : decode cX10_init 120 = .ok (.iastore, 1) := by decide +kernel
theorem dX10_init_121 : decode cX10_init 121 = .ok (.dup, 1) := by decide +kernel
theorem dX10_init_122 : decode cX10_init 122 = .ok (.bipush 11, 2) := by decide +kernel
theorem dX10_init_124 : decode cX10_init 124 = .ok (.bipush 101, 2) := by decide +kernel
theorem dX10_init_126 : decode cX10_init 126 = .ok (.iastore, 1) := by decide +kernel
theorem dX10_init_127 : decode cX10_init 127 = .ok (.dup, 1) := by decide +kernel
theorem dX10_init_128 : decode cX10_init 128 = .ok (.bipush 12, 2) := by decide +kernel
theorem dX10_init_130 : decode cX10_init 130 = .ok (.bipush 118, 2) := by decide +kernel
theorem dX10_init_132 : decode cX10_init 132 = .ok (.iastore, 1) := by decide +kernel
theorem dX10_init_133 : decode cX10_init 133 = .ok (.dup, 1) := by decide +kernel
theorem dX10_init_134 : decode cX10_init 134 = .ok (.bipush 13, 2) := by decide +kernel
theorem dX10_init_136 : decode cX10_init 136 = .ok (.bipush 101, 2) := by decide +kernel
theorem dX10_init_138 : decode cX10_init 138 = .ok (.iastore, 1) := by decide +kernel
theorem dX10_init_139 : decode cX10_init 139 = .ok (.dup, 1) := by decide +kernel
theorem dX10_init_140 : decode cX10_init 140 = .ok (.bipush 14, 2) := by decide +kernel
theorem dX10_init_142 : decode cX10_init 142 = .ok (.bipush 108, 2) := by decide +kernel
theorem dX10_init_144 : decode cX10_init 144 = .ok (.iastore, 1) := by decide +kernel
theorem dX10_init_145 : decode cX10_init 145 = .ok (.putfield 33, 3) := by decide +kernel
theorem dX10_init_148 : decode cX10_init 148 = .ok (.aload_n 0, 1) := by decide +kernel
theorem dX10_init_149 : decode cX10_init 149 = .ok (.sipush 144, 3) := by decide +kernel
theorem dX10_init_152 : decode cX10_init 152 = .ok (.newarray .int, 2) := by decide +kernel
theorem dX10_init_154 : decode cX10_init 154 = .ok (.putfield 36, 3) := by decide +kernel
theorem dX10_init_157 : decode cX10_init 157 = .ok (.aload_n 0, 1) := by decide +kernel
theorem dX10_init_158 : decode cX10_init 158 = .ok (.sipush 144, 3) := by decide +kernel
theorem dX10_init_161 : decode cX10_init 161 = .ok (.newarray .boolean, 2) := by decide +kernel
theorem dX10_init_163 : decode cX10_init 163 = .ok (.putfield 39, 3) := by decide +kernel
theorem dX10_init_166 : decode cX10_init 166 = .ok (.aload_n 0, 1) := by decide +kernel
theorem dX10_init_167 : decode cX10_init 167 = .ok (.sipush 144, 3) := by decide +kernel
theorem dX10_init_170 : decode cX10_init 170 = .ok (.newarray .int, 2) := by decide +kernel
theorem dX10_init_172 : decode cX10_init 172 = .ok (.putfield 42, 3) := by decide +kernel
theorem dX10_init_175 : decode cX10_init 175 = .ok (.aload_n 0, 1) := by decide +kernel
theorem dX10_init_176 : decode cX10_init 176 = .ok (.bipush 20, 2) := by decide +kernel
theorem dX10_init_178 : decode cX10_init 178 = .ok (.newarray .int, 2) := by decide +kernel
theorem dX10_init_180 : decode cX10_init 180 = .ok (.putfield 45, 3) := by decide +kernel
theorem dX10_init_183 : decode cX10_init 183 = .ok (.aload_n 0, 1) := by decide +kernel
theorem dX10_init_184 : decode cX10_init 184 = .ok (.getfield 7, 3) := by decide +kernel
theorem dX10_init_187 : decode cX10_init 187 = .ok (.sipush 156, 3) := by decide +kernel
theorem dX10_init_190 : decode cX10_init 190 = .ok (.iconst 1, 1) := by decide +kernel
theorem dX10_init_191 : decode cX10_init 191 = .ok (.iastore, 1) := by decide +kernel
theorem dX10_init_192 : decode cX10_init 192 = .ok (.return_, 1) := by decide +kernel
theorem dX10_in_0 : decode cX10_in 0 = .ok (.lload_n 0, 1) := by decide +kernel
theorem dX10_in_1 : decode cX10_in 1 = .ok (.lload_n 2, 1) := by decide +kernel
theorem dX10_in_2 : decode cX10_in 2 = .ok (.lcmp, 1) := by decide +kernel
theorem dX10_in_3 : decode cX10_in 3 = .ok (.ifCond .lt 14, 3) := by decide +kernel
theorem dX10_in_6 : decode cX10_in 6 = .ok (.lload_n 0, 1) := by decide +kernel
theorem dX10_in_7 : decode cX10_in 7 = .ok (.lload 4, 2) := by decide +kernel
theorem dX10_in_9 : decode cX10_in 9 = .ok (.lcmp, 1) := by decide +kernel
theorem dX10_in_10 : decode cX10_in 10 = .ok (.ifCond .gt 7, 3) := by decide +kernel
theorem dX10_in_13 : decode cX10_in 13 = .ok (.iconst 1, 1) := by decide +kernel
theorem dX10_in_14 : decode cX10_in 14 = .ok (.goto 4, 3) := by decide +kernel
theorem dX10_in_17 : decode cX10_in 17 = .ok (.iconst 0, 1) := by decide +kernel
theorem dX10_in_18 : decode cX10_in 18 = .ok (.ireturn, 1) := by decide +kernel
theorem dX10_isNode_0 : decode cX10_isNode 0 = .ok (.iload_n 1, 1) := by decide +kernel
theorem dX10_isNode_1 : decode cX10_isNode 1 = .ok (.i2l, 1) := by decide +kernel
theorem dX10_isNode_2 : decode cX10_isNode 2 = .ok (.lconst 0, 1) := by decide +kernel
theorem dX10_isNode_3 : decode cX10_isNode 3 = .ok (.aload_n 0, 1) := by decide +kernel
theorem dX10_isNode_4 : decode cX10_isNode 4 = .ok (.getfield 13, 3) := by decide +kernel
theorem dX10_isNode_7 : decode cX10_isNode 7 = .ok (.iconst 1, 1) := by decide +kernel
theorem dX10_isNode_8 : decode cX10_isNode 8 = .ok (.isub, 1) := by decide +kernel
theorem dX10_isNode_9 : decode cX10_isNode 9 = .ok (.i2l, 1) := by decide +kernel
theorem dX10_isNode_10 : decode cX10_isNode 10 = .ok (.invokestatic 48, 3) := by decide +kernel
theorem dX10_isNode_13 : decode cX10_isNode 13 = .ok (.ireturn, 1) := by decide +kernel
theorem dX10_has_0 : decode cX10_has 0 = .ok (.iload_n 0, 1) := by decide +kernel
theorem dX10_has_1 : decode cX10_has 1 = .ok (.iload_n 1, 1) := by decide +kernel
theorem dX10_has_2 : decode cX10_has 2 = .ok (.ishr, 1) := by decide +kernel
theorem dX10_has_3 : decode cX10_has 3 = .ok (.iconst 1, 1) := by decide +kernel
theorem dX10_has_4 : decode cX10_has 4 = .ok (.iand, 1) := by decide +kernel
theorem dX10_has_5 : decode cX10_has 5 = .ok (.iconst 1, 1) := by decide +kernel
theorem dX10_has_6 : decode cX10_has 6 = .ok (.if_icmp .ne 7, 3) := by decide +kernel
theorem dX10_has_9 : decode cX10_has 9 = .ok (.iconst 1, 1) := by decide +kernel
theorem dX10_has_10 : decode cX10_has 10 = .ok (.goto 4, 3) := by decide +kernel
theorem dX10_has_13 : decode cX10_has 13 = .ok (.iconst 0, 1) := by decide +kernel
theorem dX10_has_14 : decode cX10_has 14 = .ok (.ireturn, 1) := by decide +kernel
theorem dX10_ones_0 : decode cX10_ones 0 = .ok (.iconst 0, 1) := by decide +kernel
theorem dX10_ones_1 : decode cX10_ones 1 = .ok (.istore_n 1, 1) := by decide +kernel
theorem dX10_ones_2 : decode cX10_ones 2 = .ok (.iconst 0, 1) := by decide +kernel
theorem dX10_ones_3 : decode cX10_ones 3 = .ok (.istore_n 2, 1) := by decide +kernel
theorem dX10_ones_4 : decode cX10_ones 4 = .ok (.iload_n 2, 1) := by decide +kernel
theorem dX10_ones_5 : decode cX10_ones 5 = .ok (.bipush 12, 2) := by decide +kernel
theorem dX10_ones_7 : decode cX10_ones 7 = .ok (.if_icmp .ge 17, 3) := by decide +kernel
theorem dX10_ones_10 : decode cX10_ones 10 = .ok (.iload_n 1, 1) := by decide +kernel
theorem dX10_ones_11 : decode cX10_ones 11 = .ok (.iload_n 0, 1) := by decide +kernel
theorem dX10_ones_12 : decode cX10_ones 12 = .ok (.iload_n 2, 1) := by decide +kernel
theorem dX10_ones_13 : decode cX10_ones 13 = .ok (.ishr, 1) := by decide +kernel
theorem dX10_ones_14 : decode cX10_ones 14 = .ok (.iconst 1, 1) := by decide +kernel
theorem dX10_ones_15 : decode cX10_ones 15 = .ok (.iand, 1) := by decide +kernel
theorem dX10_ones_16 : decode cX10_ones 16 = .ok (.iadd, 1) := by decide +kernel
theorem dX10_ones_17 : decode cX10_ones 17 = .ok (.istore_n 1, 1) := by decide +kernel
theorem dX10_ones_18 : decode cX10_ones 18 = .ok (.iinc 2 1, 3) := by decide +kernel
theorem dX10_ones_21 : decode cX10_ones 21 = .ok (.goto (-17), 3) := by decide +kernel
theorem dX10_ones_24 : decode cX10_ones 24 = .ok (.iload_n 1, 1) := by decide +kernel
theorem dX10_ones_25 : decode cX10_ones 25 = .ok (.ireturn, 1) := by decide +kernel
theorem dX10_length_0 : decode cX10_length 0 = .ok (.aload_n 0, 1) := by decide +kernel
theorem dX10_length_1 : decode cX10_length 1 = .ok (.getfield 7, 3) := by decide +kernel
theorem dX10_length_4 : decode cX10_length 4 = .ok (.bipush 12, 2) := by decide +kernel
theorem dX10_length_6 : decode cX10_length 6 = .ok (.iload_n 1, 1) := by decide +kernel
theorem dX10_length_7 : decode cX10_length 7 = .ok (.imul, 1) := by decide +kernel
theorem dX10_length_8 : decode cX10_length 8 = .ok (.iload_n 2, 1) := by decide +kernel
theorem dX10_length_9 : decode cX10_length 9 = .ok (.iadd, 1) := by decide +kernel
theorem dX10_length_10 : decode cX10_length 10 = .ok (.iaload, 1) := by decide +kernel
theorem dX10_length_11 : decode cX10_length 11 = .ok (.ireturn, 1) := by decide +kernel
theorem dX10_lies_0 : decode cX10_lies 0 = .ok (.aload_n 0, 1) := by decide +kernel
theorem dX10_lies_1 : decode cX10_lies 1 = .ok (.getfield 7, 3) := by decide +kernel
theorem dX10_lies_4 : decode cX10_lies 4 = .ok (.bipush 12, 2) := by decide +kernel
theorem dX10_lies_6 : decode cX10_lies 6 = .ok (.iload_n 1, 1) := by decide +kernel
theorem dX10_lies_7 : decode cX10_lies 7 = .ok (.imul, 1) := by decide +kernel
theorem dX10_lies_8 : decode cX10_lies 8 = .ok (.iload_n 2, 1) := by decide +kernel
theorem dX10_lies_9 : decode cX10_lies 9 = .ok (.iadd, 1) := by decide +kernel
theorem dX10_lies_10 : decode cX10_lies 10 = .ok (.iload_n 3, 1) := by decide +kernel
theorem dX10_lies_11 : decode cX10_lies 11 = .ok (.iastore, 1) := by decide +kernel
theorem dX10_lies_12 : decode cX10_lies 12 = .ok (.aload_n 0, 1) := by decide +kernel
theorem dX10_lies_13 : decode cX10_lies 13 = .ok (.getfield 7, 3) := by decide +kernel
theorem dX10_lies_16 : decode cX10_lies 16 = .ok (.bipush 12, 2) := by decide +kernel
theorem dX10_lies_18 : decode cX10_lies 18 = .ok (.iload_n 2, 1) := by decide +kernel
theorem dX10_lies_19 : decode cX10_lies 19 = .ok (.imul, 1) := by decide +kernel
theorem dX10_lies_20 : decode cX10_lies 20 = .ok (.iload_n 1, 1) := by decide +kernel
theorem dX10_lies_21 : decode cX10_lies 21 = .ok (.iadd, 1) := by decide +kernel
theorem dX10_lies_22 : decode cX10_lies 22 = .ok (.iload_n 3, 1) := by decide +kernel
theorem dX10_lies_23 : decode cX10_lies 23 = .ok (.iastore, 1) := by decide +kernel
theorem dX10_lies_24 : decode cX10_lies 24 = .ok (.return_, 1) := by decide +kernel
theorem dX10_links_0 : decode cX10_links 0 = .ok (.iconst 0, 1) := by decide +kernel
theorem dX10_links_1 : decode cX10_links 1 = .ok (.istore_n 1, 1) := by decide +kernel
theorem dX10_links_2 : decode cX10_links 2 = .ok (.iconst 0, 1) := by decide +kernel
theorem dX10_links_3 : decode cX10_links 3 = .ok (.istore_n 2, 1) := by decide +kernel
theorem dX10_links_4 : decode cX10_links 4 = .ok (.iload_n 2, 1) := by decide +kernel
theorem dX10_links_5 : decode cX10_links 5 = .ok (.sipush 144, 3) := by decide +kernel
theorem dX10_links_8 : decode cX10_links 8 = .ok (.if_icmp .ge 26, 3) := by decide +kernel
theorem dX10_links_11 : decode cX10_links 11 = .ok (.iload_n 1, 1) := by decide +kernel
theorem dX10_links_12 : decode cX10_links 12 = .ok (.aload_n 0, 1) := by decide +kernel
theorem dX10_links_13 : decode cX10_links 13 = .ok (.getfield 7, 3) := by decide +kernel
theorem dX10_links_16 : decode cX10_links 16 = .ok (.iload_n 2, 1) := by decide +kernel
theorem dX10_links_17 : decode cX10_links 17 = .ok (.iaload, 1) := by decide +kernel
theorem dX10_links_18 : decode cX10_links 18 = .ok (.ifCond .le 7, 3) := by decide +kernel
theorem dX10_links_21 : decode cX10_links 21 = .ok (.iconst 1, 1) := by decide +kernel
theorem dX10_links_22 : decode cX10_links 22 = .ok (.goto 4, 3) := by decide +kernel
theorem dX10_links_25 : decode cX10_links 25 = .ok (.iconst 0, 1) := by decide +kernel
theorem dX10_links_26 : decode cX10_links 26 = .ok (.iadd, 1) := by decide +kernel
theorem dX10_links_27 : decode cX10_links 27 = .ok (.istore_n 1, 1) := by decide +kernel
theorem dX10_links_28 : decode cX10_links 28 = .ok (.iinc 2 1, 3) := by decide +kernel
theorem dX10_links_31 : decode cX10_links 31 = .ok (.goto (-27), 3) := by decide +kernel
theorem dX10_links_34 : decode cX10_links 34 = .ok (.iload_n 1, 1) := by decide +kernel
theorem dX10_links_35 : decode cX10_links 35 = .ok (.iconst 2, 1) := by decide +kernel
theorem dX10_links_36 : decode cX10_links 36 = .ok (.idiv, 1) := by decide +kernel
theorem dX10_links_37 : decode cX10_links 37 = .ok (.ireturn, 1) := by decide +kernel
theorem dX10_pairOf_0 : decode cX10_pairOf 0 = .ok (.iload_n 1, 1) := by decide +kernel
theorem dX10_pairOf_1 : decode cX10_pairOf 1 = .ok (.istore_n 2, 1) := by decide +kernel
theorem dX10_pairOf_2 : decode cX10_pairOf 2 = .ok (.iconst 0, 1) := by decide +kernel
theorem dX10_pairOf_3 : decode cX10_pairOf 3 = .ok (.istore_n 3, 1) := by decide +kernel
theorem dX10_pairOf_4 : decode cX10_pairOf 4 = .ok (.iload_n 3, 1) := by decide +kernel
theorem dX10_pairOf_5 : decode cX10_pairOf 5 = .ok (.sipush 144, 3) := by decide +kernel
theorem dX10_pairOf_8 : decode cX10_pairOf 8 = .ok (.if_icmp .ge 42, 3) := by decide +kernel
theorem dX10_pairOf_11 : decode cX10_pairOf 11 = .ok (.iload_n 1, 1) := by decide +kernel
theorem dX10_pairOf_12 : decode cX10_pairOf 12 = .ok (.ifCond .lt 38, 3) := by decide +kernel
theorem dX10_pairOf_15 : decode cX10_pairOf 15 = .ok (.iload_n 3, 1) := by decide +kernel
theorem dX10_pairOf_16 : decode cX10_pairOf 16 = .ok (.bipush 12, 2) := by decide +kernel
theorem dX10_pairOf_18 : decode cX10_pairOf 18 = .ok (.idiv, 1) := by decide +kernel
theorem dX10_pairOf_19 : decode cX10_pairOf 19 = .ok (.iload_n 3, 1) := by decide +kernel
theorem dX10_pairOf_20 : decode cX10_pairOf 20 = .ok (.bipush 12, 2) := by decide +kernel
theorem dX10_pairOf_22 : decode cX10_pairOf 22 = .ok (.irem, 1) := by decide +kernel
theorem dX10_pairOf_23 : decode cX10_pairOf 23 = .ok (.if_icmp .ge 21, 3) := by decide +kernel
theorem dX10_pairOf_26 : decode cX10_pairOf 26 = .ok (.aload_n 0, 1) := by decide +kernel
theorem dX10_pairOf_27 : decode cX10_pairOf 27 = .ok (.getfield 7, 3) := by decide +kernel
theorem dX10_pairOf_30 : decode cX10_pairOf 30 = .ok (.iload_n 3, 1) := by decide +kernel
theorem dX10_pairOf_31 : decode cX10_pairOf 31 = .ok (.iaload, 1) := by decide +kernel
theorem dX10_pairOf_32 : decode cX10_pairOf 32 = .ok (.ifCond .le 12, 3) := by decide +kernel
theorem dX10_pairOf_35 : decode cX10_pairOf 35 = .ok (.iload_n 2, 1) := by decide +kernel
theorem dX10_pairOf_36 : decode cX10_pairOf 36 = .ok (.ifCond .ne 5, 3) := by decide +kernel
theorem dX10_pairOf_39 : decode cX10_pairOf 39 = .ok (.iload_n 3, 1) := by decide +kernel
theorem dX10_pairOf_40 : decode cX10_pairOf 40 = .ok (.ireturn, 1) := by decide +kernel
theorem dX10_pairOf_41 : decode cX10_pairOf 41 = .ok (.iinc 2 (-1), 3) := by decide +kernel
theorem dX10_pairOf_44 : decode cX10_pairOf 44 = .ok (.iinc 3 1, 3) := by decide +kernel
theorem dX10_pairOf_47 : decode cX10_pairOf 47 = .ok (.goto (-43), 3) := by decide +kernel
theorem dX10_pairOf_50 : decode cX10_pairOf 50 = .ok (.iconst (-1), 1) := by decide +kernel
theorem dX10_pairOf_51 : decode cX10_pairOf 51 = .ok (.ireturn, 1) := by decide +kernel
theorem dX10_type_0 : decode cX10_type 0 = .ok (.iload_n 1, 1) := by decide +kernel
theorem dX10_type_1 : decode cX10_type 1 = .ok (.i2l, 1) := by decide +kernel
theorem dX10_type_2 : decode cX10_type 2 = .ok (.lconst 0, 1) := by decide +kernel
theorem dX10_type_3 : decode cX10_type 3 = .ok (.ldc2_w 52, 3) := by decide +kernel
theorem dX10_type_6 : decode cX10_type 6 = .ok (.invokestatic 48, 3) := by decide +kernel
theorem dX10_type_9 : decode cX10_type 9 = .ok (.ifCond .ne 6, 3) := by decide +kernel
theorem dX10_type_12 : decode cX10_type 12 = .ok (.bipush (-3), 2) := by decide +kernel
theorem dX10_type_14 : decode cX10_type 14 = .ok (.ireturn, 1) := by decide +kernel
theorem dX10_type_15 : decode cX10_type 15 = .ok (.aload_n 0, 1) := by decide +kernel
theorem dX10_type_16 : decode cX10_type 16 = .ok (.getfield 54, 3) := by decide +kernel
theorem dX10_type_19 : decode cX10_type 19 = .ok (.sipush 200, 3) := by decide +kernel
theorem dX10_type_22 : decode cX10_type 22 = .ok (.if_icmp .ne 6, 3) := by decide +kernel
theorem dX10_type_25 : decode cX10_type 25 = .ok (.bipush (-5), 2) := by decide +kernel
theorem dX10_type_27 : decode cX10_type 27 = .ok (.ireturn, 1) := by decide +kernel
theorem dX10_type_28 : decode cX10_type 28 = .ok (.aload_n 0, 1) := by decide +kernel
theorem dX10_type_29 : decode cX10_type 29 = .ok (.getfield 24, 3) := by decide +kernel
theorem dX10_type_32 : decode cX10_type 32 = .ok (.aload_n 0, 1) := by decide +kernel
theorem dX10_type_33 : decode cX10_type 33 = .ok (.getfield 54, 3) := by decide +kernel
theorem dX10_type_36 : decode cX10_type 36 = .ok (.iload_n 1, 1) := by decide +kernel
theorem dX10_type_37 : decode cX10_type 37 = .ok (.iastore, 1) := by decide +kernel
theorem dX10_type_38 : decode cX10_type 38 = .ok (.aload_n 0, 1) := by decide +kernel
theorem dX10_type_39 : decode cX10_type 39 = .ok (.dup, 1) := by decide +kernel
theorem dX10_type_40 : decode cX10_type 40 = .ok (.getfield 54, 3) := by decide +kernel
theorem dX10_type_43 : decode cX10_type 43 = .ok (.iconst 1, 1) := by decide +kernel
theorem dX10_type_44 : decode cX10_type 44 = .ok (.iadd, 1) := by decide +kernel
theorem dX10_type_45 : decode cX10_type 45 = .ok (.putfield 54, 3) := by decide +kernel
theorem dX10_type_48 : decode cX10_type 48 = .ok (.aload_n 0, 1) := by decide +kernel
theorem dX10_type_49 : decode cX10_type 49 = .ok (.getfield 54, 3) := by decide +kernel
theorem dX10_type_52 : decode cX10_type 52 = .ok (.ireturn, 1) := by decide +kernel
theorem dX10_erase_0 : decode cX10_erase 0 = .ok (.aload_n 0, 1) := by decide +kernel
theorem dX10_erase_1 : decode cX10_erase 1 = .ok (.getfield 54, 3) := by decide +kernel
theorem dX10_erase_4 : decode cX10_erase 4 = .ok (.istore_n 1, 1) := by decide +kernel
theorem dX10_erase_5 : decode cX10_erase 5 = .ok (.aload_n 0, 1) := by decide +kernel
theorem dX10_erase_6 : decode cX10_erase 6 = .ok (.iconst 0, 1) := by decide +kernel
theorem dX10_erase_7 : decode cX10_erase 7 = .ok (.putfield 54, 3) := by decide +kernel
theorem dX10_erase_10 : decode cX10_erase 10 = .ok (.iload_n 1, 1) := by decide +kernel
theorem dX10_erase_11 : decode cX10_erase 11 = .ok (.ireturn, 1) := by decide +kernel
theorem dX10_isSmall_0 : decode cX10_isSmall 0 = .ok (.iload_n 0, 1) := by decide +kernel
theorem dX10_isSmall_1 : decode cX10_isSmall 1 = .ok (.i2l, 1) := by decide +kernel
theorem dX10_isSmall_2 : decode cX10_isSmall 2 = .ok (.ldc2_w 57, 3) := by decide +kernel
theorem dX10_isSmall_5 : decode cX10_isSmall 5 = .ok (.ldc2_w 59, 3) := by decide +kernel
theorem dX10_isSmall_8 : decode cX10_isSmall 8 = .ok (.invokestatic 48, 3) := by decide +kernel
theorem dX10_isSmall_11 : decode cX10_isSmall 11 = .ok (.ireturn, 1) := by decide +kernel
theorem dX10_isDigit_0 : decode cX10_isDigit 0 = .ok (.iload_n 0, 1) := by decide +kernel
theorem dX10_isDigit_1 : decode cX10_isDigit 1 = .ok (.i2l, 1) := by decide +kernel
theorem dX10_isDigit_2 : decode cX10_isDigit 2 = .ok (.ldc2_w 61, 3) := by decide +kernel
theorem dX10_isDigit_5 : decode cX10_isDigit 5 = .ok (.ldc2_w 63, 3) := by decide +kernel
theorem dX10_isDigit_8 : decode cX10_isDigit 8 = .ok (.invokestatic 48, 3) := by decide +kernel
theorem dX10_isDigit_11 : decode cX10_isDigit 11 = .ok (.ireturn, 1) := by decide +kernel
theorem dX10_nextToken_0 : decode cX10_nextToken 0 = .ok (.aload_n 0, 1) := by decide +kernel
theorem dX10_nextToken_1 : decode cX10_nextToken 1 = .ok (.aload_n 0, 1) := by decide +kernel
theorem dX10_nextToken_2 : decode cX10_nextToken 2 = .ok (.getfield 65, 3) := by decide +kernel
theorem dX10_nextToken_5 : decode cX10_nextToken 5 = .ok (.putfield 68, 3) := by decide +kernel
theorem dX10_nextToken_8 : decode cX10_nextToken 8 = .ok (.aload_n 0, 1) := by decide +kernel
theorem dX10_nextToken_9 : decode cX10_nextToken 9 = .ok (.getfield 68, 3) := by decide +kernel
theorem dX10_nextToken_12 : decode cX10_nextToken 12 = .ok (.aload_n 0, 1) := by decide +kernel
theorem dX10_nextToken_13 : decode cX10_nextToken 13 = .ok (.getfield 54, 3) := by decide +kernel
theorem dX10_nextToken_16 : decode cX10_nextToken 16 = .ok (.if_icmp .ge 30, 3) := by decide +kernel
theorem dX10_nextToken_19 : decode cX10_nextToken 19 = .ok (.aload_n 0, 1) := by decide +kernel
theorem dX10_nextToken_20 : decode cX10_nextToken 20 = .ok (.getfield 24, 3) := by decide +kernel
theorem dX10_nextToken_23 : decode cX10_nextToken 23 = .ok (.aload_n 0, 1) := by decide +kernel
theorem dX10_nextToken_24 : decode cX10_nextToken 24 = .ok (.getfield 68, 3) := by decide +kernel
theorem dX10_nextToken_27 : decode cX10_nextToken 27 = .ok (.iaload, 1) := by decide +kernel
theorem dX10_nextToken_28 : decode cX10_nextToken 28 = .ok (.bipush 32, 2) := by decide +kernel
theorem dX10_nextToken_30 : decode cX10_nextToken 30 = .ok (.if_icmp .ne 16, 3) := by decide +kernel
theorem dX10_nextToken_33 : decode cX10_nextToken 33 = .ok (.aload_n 0, 1) := by decide +kernel
theorem dX10_nextToken_34 : decode cX10_nextToken 34 = .ok (.dup, 1) := by decide +kernel
theorem dX10_nextToken_35 : decode cX10_nextToken 35 = .ok (.getfield 68, 3) := by decide +kernel
theorem dX10_nextToken_38 : decode cX10_nextToken 38 = .ok (.iconst 1, 1) := by decide +kernel
theorem dX10_nextToken_39 : decode cX10_nextToken 39 = .ok (.iadd, 1) := by decide +kernel
theorem dX10_nextToken_40 : decode cX10_nextToken 40 = .ok (.putfield 68, 3) := by decide +kernel
theorem dX10_nextToken_43 : decode cX10_nextToken 43 = .ok (.goto (-35), 3) := by decide +kernel
theorem dX10_nextToken_46 : decode cX10_nextToken 46 = .ok (.aload_n 0, 1) := by decide +kernel
theorem dX10_nextToken_47 : decode cX10_nextToken 47 = .ok (.aload_n 0, 1) := by decide +kernel
theorem dX10_nextToken_48 : decode cX10_nextToken 48 = .ok (.getfield 68, 3) := by decide +kernel
theorem dX10_nextToken_51 : decode cX10_nextToken 51 = .ok (.aload_n 0, 1) := by decide +kernel
theorem dX10_nextToken_52 : decode cX10_nextToken 52 = .ok (.getfield 54, 3) := by decide +kernel
theorem dX10_nextToken_55 : decode cX10_nextToken 55 = .ok (.if_icmp .ge 12, 3) := by decide +kernel
theorem dX10_nextToken_58 : decode cX10_nextToken 58 = .ok (.aload_n 0, 1) := by decide +kernel
theorem dX10_nextToken_59 : decode cX10_nextToken 59 = .ok (.getfield 68, 3) := by decide +kernel
theorem dX10_nextToken_62 : decode cX10_nextToken 62 = .ok (.iconst 1, 1) := by decide +kernel
theorem dX10_nextToken_63 : decode cX10_nextToken 63 = .ok (.iadd, 1) := by decide +kernel
theorem dX10_nextToken_64 : decode cX10_nextToken 64 = .ok (.goto 7, 3) := by decide +kernel
theorem dX10_nextToken_67 : decode cX10_nextToken 67 = .ok (.aload_n 0, 1) := by decide +kernel
theorem dX10_nextToken_68 : decode cX10_nextToken 68 = .ok (.getfield 68, 3) := by decide +kernel
theorem dX10_nextToken_71 : decode cX10_nextToken 71 = .ok (.putfield 65, 3) := by decide +kernel
theorem dX10_nextToken_74 : decode cX10_nextToken 74 = .ok (.aload_n 0, 1) := by decide +kernel
theorem dX10_nextToken_75 : decode cX10_nextToken 75 = .ok (.getfield 68, 3) := by decide +kernel
theorem dX10_nextToken_78 : decode cX10_nextToken 78 = .ok (.aload_n 0, 1) := by decide +kernel
theorem dX10_nextToken_79 : decode cX10_nextToken 79 = .ok (.getfield 54, 3) := by decide +kernel
theorem dX10_nextToken_82 : decode cX10_nextToken 82 = .ok (.if_icmp .ge 57, 3) := by decide +kernel
theorem dX10_nextToken_85 : decode cX10_nextToken 85 = .ok (.aload_n 0, 1) := by decide +kernel
theorem dX10_nextToken_86 : decode cX10_nextToken 86 = .ok (.getfield 24, 3) := by decide +kernel
theorem dX10_nextToken_89 : decode cX10_nextToken 89 = .ok (.aload_n 0, 1) := by decide +kernel
theorem dX10_nextToken_90 : decode cX10_nextToken 90 = .ok (.getfield 68, 3) := by decide +kernel
theorem dX10_nextToken_93 : decode cX10_nextToken 93 = .ok (.iaload, 1) := by decide +kernel
theorem dX10_nextToken_94 : decode cX10_nextToken 94 = .ok (.invokestatic 71, 3) := by decide +kernel
theorem dX10_nextToken_97 : decode cX10_nextToken 97 = .ok (.ifCond .eq 42, 3) := by decide +kernel
theorem dX10_nextToken_100 : decode cX10_nextToken 100 = .ok (.aload_n 0, 1) := by decide +kernel
theorem dX10_nextToken_101 : decode cX10_nextToken 101 = .ok (.getfield 65, 3) := by decide +kernel
theorem dX10_nextToken_104 : decode cX10_nextToken 104 = .ok (.aload_n 0, 1) := by decide +kernel
theorem dX10_nextToken_105 : decode cX10_nextToken 105 = .ok (.getfield 54, 3) := by decide +kernel
theorem dX10_nextToken_108 : decode cX10_nextToken 108 = .ok (.if_icmp .ge 96, 3) := by decide +kernel
theorem dX10_nextToken_111 : decode cX10_nextToken 111 = .ok (.aload_n 0, 1) := by decide +kernel
theorem dX10_nextToken_112 : decode cX10_nextToken 112 = .ok (.getfield 24, 3) := by decide +kernel
theorem dX10_nextToken_115 : decode cX10_nextToken 115 = .ok (.aload_n 0, 1) := by decide +kernel
theorem dX10_nextToken_116 : decode cX10_nextToken 116 = .ok (.getfield 65, 3) := by decide +kernel
theorem dX10_nextToken_119 : decode cX10_nextToken 119 = .ok (.iaload, 1) := by decide +kernel
theorem dX10_nextToken_120 : decode cX10_nextToken 120 = .ok (.invokestatic 71, 3) := by decide +kernel
theorem dX10_nextToken_123 : decode cX10_nextToken 123 = .ok (.ifCond .eq 81, 3) := by decide +kernel
theorem dX10_nextToken_126 : decode cX10_nextToken 126 = .ok (.aload_n 0, 1) := by decide +kernel
theorem dX10_nextToken_127 : decode cX10_nextToken 127 = .ok (.dup, 1) := by decide +kernel
theorem dX10_nextToken_128 : decode cX10_nextToken 128 = .ok (.getfield 65, 3) := by decide +kernel
theorem dX10_nextToken_131 : decode cX10_nextToken 131 = .ok (.iconst 1, 1) := by decide +kernel
theorem dX10_nextToken_132 : decode cX10_nextToken 132 = .ok (.iadd, 1) := by decide +kernel
theorem dX10_nextToken_133 : decode cX10_nextToken 133 = .ok (.putfield 65, 3) := by decide +kernel
theorem dX10_nextToken_136 : decode cX10_nextToken 136 = .ok (.goto (-36), 3) := by decide +kernel
theorem dX10_nextToken_139 : decode cX10_nextToken 139 = .ok (.aload_n 0, 1) := by decide +kernel
theorem dX10_nextToken_140 : decode cX10_nextToken 140 = .ok (.getfield 68, 3) := by decide +kernel
theorem dX10_nextToken_143 : decode cX10_nextToken 143 = .ok (.aload_n 0, 1) := by decide +kernel
theorem dX10_nextToken_144 : decode cX10_nextToken 144 = .ok (.getfield 54, 3) := by decide +kernel
theorem dX10_nextToken_147 : decode cX10_nextToken 147 = .ok (.if_icmp .ge 57, 3) := by decide +kernel
theorem dX10_nextToken_150 : decode cX10_nextToken 150 = .ok (.aload_n 0, 1) := by decide +kernel
theorem dX10_nextToken_151 : decode cX10_nextToken 151 = .ok (.getfield 24, 3) := by decide +kernel
theorem dX10_nextToken_154 : decode cX10_nextToken 154 = .ok (.aload_n 0, 1) := by decide +kernel
theorem dX10_nextToken_155 : decode cX10_nextToken 155 = .ok (.getfield 68, 3) := by decide +kernel
theorem dX10_nextToken_158 : decode cX10_nextToken 158 = .ok (.iaload, 1) := by decide +kernel
theorem dX10_nextToken_159 : decode cX10_nextToken 159 = .ok (.invokestatic 75, 3) := by decide +kernel
theorem dX10_nextToken_162 : decode cX10_nextToken 162 = .ok (.ifCond .eq 42, 3) := by decide +kernel
theorem dX10_nextToken_165 : decode cX10_nextToken 165 = .ok (.aload_n 0, 1) := by decide +kernel
theorem dX10_nextToken_166 : decode cX10_nextToken 166 = .ok (.getfield 65, 3) := by decide +kernel
theorem dX10_nextToken_169 : decode cX10_nextToken 169 = .ok (.aload_n 0, 1) := by decide +kernel
theorem dX10_nextToken_170 : decode cX10_nextToken 170 = .ok (.getfield 54, 3) := by decide +kernel
theorem dX10_nextToken_173 : decode cX10_nextToken 173 = .ok (.if_icmp .ge 31, 3) := by decide +kernel
theorem dX10_nextToken_176 : decode cX10_nextToken 176 = .ok (.aload_n 0, 1) := by decide +kernel
theorem dX10_nextToken_177 : decode cX10_nextToken 177 = .ok (.getfield 24, 3) := by decide +kernel
theorem dX10_nextToken_180 : decode cX10_nextToken 180 = .ok (.aload_n 0, 1) := by decide +kernel
theorem dX10_nextToken_181 : decode cX10_nextToken 181 = .ok (.getfield 65, 3) := by decide +kernel
theorem dX10_nextToken_184 : decode cX10_nextToken 184 = .ok (.iaload, 1) := by decide +kernel
theorem dX10_nextToken_185 : decode cX10_nextToken 185 = .ok (.invokestatic 75, 3) := by decide +kernel
theorem dX10_nextToken_188 : decode cX10_nextToken 188 = .ok (.ifCond .eq 16, 3) := by decide +kernel
theorem dX10_nextToken_191 : decode cX10_nextToken 191 = .ok (.aload_n 0, 1) := by decide +kernel
theorem dX10_nextToken_192 : decode cX10_nextToken 192 = .ok (.dup, 1) := by decide +kernel
theorem dX10_nextToken_193 : decode cX10_nextToken 193 = .ok (.getfield 65, 3) := by decide +kernel
theorem dX10_nextToken_196 : decode cX10_nextToken 196 = .ok (.iconst 1, 1) := by decide +kernel
theorem dX10_nextToken_197 : decode cX10_nextToken 197 = .ok (.iadd, 1) := by decide +kernel
theorem dX10_nextToken_198 : decode cX10_nextToken 198 = .ok (.putfield 65, 3) := by decide +kernel
theorem dX10_nextToken_201 : decode cX10_nextToken 201 = .ok (.goto (-36), 3) := by decide +kernel
theorem dX10_nextToken_204 : decode cX10_nextToken 204 = .ok (.return_, 1) := by decide +kernel
theorem dX10_wordHere_0 : decode cX10_wordHere 0 = .ok (.iconst 0, 1) := by decide +kernel
theorem dX10_wordHere_1 : decode cX10_wordHere 1 = .ok (.istore_n 1, 1) := by decide +kernel
theorem dX10_wordHere_2 : decode cX10_wordHere 2 = .ok (.iload_n 1, 1) := by decide +kernel
theorem dX10_wordHere_3 : decode cX10_wordHere 3 = .ok (.iconst 2, 1) := by decide +kernel
theorem dX10_wordHere_4 : decode cX10_wordHere 4 = .ok (.if_icmp .gt 110, 3) := by decide +kernel
theorem dX10_wordHere_7 : decode cX10_wordHere 7 = .ok (.aload_n 0, 1) := by decide +kernel
theorem dX10_wordHere_8 : decode cX10_wordHere 8 = .ok (.getfield 65, 3) := by decide +kernel
theorem dX10_wordHere_11 : decode cX10_wordHere 11 = .ok (.aload_n 0, 1) := by decide +kernel
theorem dX10_wordHere_12 : decode cX10_wordHere 12 = .ok (.getfield 68, 3) := by decide +kernel
theorem dX10_wordHere_15 : decode cX10_wordHere 15 = .ok (.if_icmp .le 21, 3) := by decide +kernel
theorem dX10_wordHere_18 : decode cX10_wordHere 18 = .ok (.aload_n 0, 1) := by decide +kernel
theorem dX10_wordHere_19 : decode cX10_wordHere 19 = .ok (.getfield 65, 3) := by decide +kernel
theorem dX10_wordHere_22 : decode cX10_wordHere 22 = .ok (.aload_n 0, 1) := by decide +kernel
theorem dX10_wordHere_23 : decode cX10_wordHere 23 = .ok (.getfield 68, 3) := by decide +kernel
theorem dX10_wordHere_26 : decode cX10_wordHere 26 = .ok (.isub, 1) := by decide +kernel
theorem dX10_wordHere_27 : decode cX10_wordHere 27 = .ok (.bipush 6, 2) := by decide +kernel
theorem dX10_wordHere_29 : decode cX10_wordHere 29 = .ok (.if_icmp .ge 7, 3) := by decide +kernel
theorem dX10_wordHere_32 : decode cX10_wordHere 32 = .ok (.iconst 1, 1) := by decide +kernel
theorem dX10_wordHere_33 : decode cX10_wordHere 33 = .ok (.goto 4, 3) := by decide +kernel
theorem dX10_wordHere_36 : decode cX10_wordHere 36 = .ok (.iconst 0, 1) := by decide +kernel
theorem dX10_wordHere_37 : decode cX10_wordHere 37 = .ok (.istore_n 2, 1) := by decide +kernel
theorem dX10_wordHere_38 : decode cX10_wordHere 38 = .ok (.iconst 0, 1) := by decide +kernel
theorem dX10_wordHere_39 : decode cX10_wordHere 39 = .ok (.istore_n 3, 1) := by decide +kernel
theorem dX10_wordHere_40 : decode cX10_wordHere 40 = .ok (.iload_n 3, 1) := by decide +kernel
theorem dX10_wordHere_41 : decode cX10_wordHere 41 = .ok (.iconst 5, 1) := by decide +kernel
theorem dX10_wordHere_42 : decode cX10_wordHere 42 = .ok (.if_icmp .ge 60, 3) := by decide +kernel
theorem dX10_wordHere_45 : decode cX10_wordHere 45 = .ok (.iload_n 2, 1) := by decide +kernel
theorem dX10_wordHere_46 : decode cX10_wordHere 46 = .ok (.ifCond .eq 56, 3) := by decide +kernel
theorem dX10_wordHere_49 : decode cX10_wordHere 49 = .ok (.aload_n 0, 1) := by decide +kernel
theorem dX10_wordHere_50 : decode cX10_wordHere 50 = .ok (.getfield 33, 3) := by decide +kernel
theorem dX10_wordHere_53 : decode cX10_wordHere 53 = .ok (.iconst 5, 1) := by decide +kernel
theorem dX10_wordHere_54 : decode cX10_wordHere 54 = .ok (.iload_n 1, 1) := by decide +kernel
theorem dX10_wordHere_55 : decode cX10_wordHere 55 = .ok (.imul, 1) := by decide +kernel
theorem dX10_wordHere_56 : decode cX10_wordHere 56 = .ok (.iload_n 3, 1) := by decide +kernel
theorem dX10_wordHere_57 : decode cX10_wordHere 57 = .ok (.iadd, 1) := by decide +kernel
theorem dX10_wordHere_58 : decode cX10_wordHere 58 = .ok (.iaload, 1) := by decide +kernel
theorem dX10_wordHere_59 : decode cX10_wordHere 59 = .ok (.aload_n 0, 1) := by decide +kernel
theorem dX10_wordHere_60 : decode cX10_wordHere 60 = .ok (.getfield 68, 3) := by decide +kernel
theorem dX10_wordHere_63 : decode cX10_wordHere 63 = .ok (.iload_n 3, 1) := by decide +kernel
theorem dX10_wordHere_64 : decode cX10_wordHere 64 = .ok (.iadd, 1) := by decide +kernel
theorem dX10_wordHere_65 : decode cX10_wordHere 65 = .ok (.aload_n 0, 1) := by decide +kernel
theorem dX10_wordHere_66 : decode cX10_wordHere 66 = .ok (.getfield 65, 3) := by decide +kernel
theorem dX10_wordHere_69 : decode cX10_wordHere 69 = .ok (.if_icmp .ge 17, 3) := by decide +kernel
theorem dX10_wordHere_72 : decode cX10_wordHere 72 = .ok (.aload_n 0, 1) := by decide +kernel
theorem dX10_wordHere_73 : decode cX10_wordHere 73 = .ok (.getfield 24, 3) := by decide +kernel
theorem dX10_wordHere_76 : decode cX10_wordHere 76 = .ok (.aload_n 0, 1) := by decide +kernel
theorem dX10_wordHere_77 : decode cX10_wordHere 77 = .ok (.getfield 68, 3) := by decide +kernel
theorem dX10_wordHere_80 : decode cX10_wordHere 80 = .ok (.iload_n 3, 1) := by decide +kernel
theorem dX10_wordHere_81 : decode cX10_wordHere 81 = .ok (.iadd, 1) := by decide +kernel
theorem dX10_wordHere_82 : decode cX10_wordHere 82 = .ok (.iaload, 1) := by decide +kernel
theorem dX10_wordHere_83 : decode cX10_wordHere 83 = .ok (.goto 4, 3) := by decide +kernel
theorem dX10_wordHere_86 : decode cX10_wordHere 86 = .ok (.iconst 0, 1) := by decide +kernel
theorem dX10_wordHere_87 : decode cX10_wordHere 87 = .ok (.if_icmp .ne 7, 3) := by decide +kernel
theorem dX10_wordHere_90 : decode cX10_wordHere 90 = .ok (.iconst 1, 1) := by decide +kernel
theorem dX10_wordHere_91 : decode cX10_wordHere 91 = .ok (.goto 4, 3) := by decide +kernel
theorem dX10_wordHere_94 : decode cX10_wordHere 94 = .ok (.iconst 0, 1) := by decide +kernel
theorem dX10_wordHere_95 : decode cX10_wordHere 95 = .ok (.istore_n 2, 1) := by decide +kernel
theorem dX10_wordHere_96 : decode cX10_wordHere 96 = .ok (.iinc 3 1, 3) := by decide +kernel
theorem dX10_wordHere_99 : decode cX10_wordHere 99 = .ok (.goto (-59), 3) := by decide +kernel
theorem dX10_wordHere_102 : decode cX10_wordHere 102 = .ok (.iload_n 2, 1) := by decide +kernel
theorem dX10_wordHere_103 : decode cX10_wordHere 103 = .ok (.ifCond .eq 5, 3) := by decide +kernel
theorem dX10_wordHere_106 : decode cX10_wordHere 106 = .ok (.iload_n 1, 1) := by decide +kernel
theorem dX10_wordHere_107 : decode cX10_wordHere 107 = .ok (.ireturn, 1) := by decide +kernel
theorem dX10_wordHere_108 : decode cX10_wordHere 108 = .ok (.iinc 1 1, 3) := by decide +kernel
theorem dX10_wordHere_111 : decode cX10_wordHere 111 = .ok (.goto (-109), 3) := by decide +kernel
theorem dX10_wordHere_114 : decode cX10_wordHere 114 = .ok (.iconst (-1), 1) := by decide +kernel
theorem dX10_wordHere_115 : decode cX10_wordHere 115 = .ok (.ireturn, 1) := by decide +kernel
theorem dX10_numberHere_0 : decode cX10_numberHere 0 = .ok (.aload_n 0, 1) := by decide +kernel
theorem dX10_numberHere_1 : decode cX10_numberHere 1 = .ok (.getfield 68, 3) := by decide +kernel
theorem dX10_numberHere_4 : decode cX10_numberHere 4 = .ok (.aload_n 0, 1) := by decide +kernel
theorem dX10_numberHere_5 : decode cX10_numberHere 5 = .ok (.getfield 54, 3) := by decide +kernel
theorem dX10_numberHere_8 : decode cX10_numberHere 8 = .ok (.if_icmp .eq 31, 3) := by decide +kernel
theorem dX10_numberHere_11 : decode cX10_numberHere 11 = .ok (.aload_n 0, 1) := by decide +kernel
theorem dX10_numberHere_12 : decode cX10_numberHere 12 = .ok (.getfield 24, 3) := by decide +kernel
theorem dX10_numberHere_15 : decode cX10_numberHere 15 = .ok (.aload_n 0, 1) := by decide +kernel
theorem dX10_numberHere_16 : decode cX10_numberHere 16 = .ok (.getfield 68, 3) := by decide +kernel
theorem dX10_numberHere_19 : decode cX10_numberHere 19 = .ok (.iaload, 1) := by decide +kernel
theorem dX10_numberHere_20 : decode cX10_numberHere 20 = .ok (.invokestatic 75, 3) := by decide +kernel
theorem dX10_numberHere_23 : decode cX10_numberHere 23 = .ok (.ifCond .eq 16, 3) := by decide +kernel
theorem dX10_numberHere_26 : decode cX10_numberHere 26 = .ok (.aload_n 0, 1) := by decide +kernel
theorem dX10_numberHere_27 : decode cX10_numberHere 27 = .ok (.getfield 65, 3) := by decide +kernel
theorem dX10_numberHere_30 : decode cX10_numberHere 30 = .ok (.aload_n 0, 1) := by decide +kernel
theorem dX10_numberHere_31 : decode cX10_numberHere 31 = .ok (.getfield 68, 3) := by decide +kernel
theorem dX10_numberHere_34 : decode cX10_numberHere 34 = .ok (.isub, 1) := by decide +kernel
theorem dX10_numberHere_35 : decode cX10_numberHere 35 = .ok (.iconst 2, 1) := by decide +kernel
theorem dX10_numberHere_36 : decode cX10_numberHere 36 = .ok (.if_icmp .le 5, 3) := by decide +kernel
theorem dX10_numberHere_39 : decode cX10_numberHere 39 = .ok (.iconst (-1), 1) := by decide +kernel
theorem dX10_numberHere_40 : decode cX10_numberHere 40 = .ok (.ireturn, 1) := by decide +kernel
theorem dX10_numberHere_41 : decode cX10_numberHere 41 = .ok (.iconst 0, 1) := by decide +kernel
theorem dX10_numberHere_42 : decode cX10_numberHere 42 = .ok (.istore_n 1, 1) := by decide +kernel
theorem dX10_numberHere_43 : decode cX10_numberHere 43 = .ok (.aload_n 0, 1) := by decide +kernel
theorem dX10_numberHere_44 : decode cX10_numberHere 44 = .ok (.getfield 68, 3) := by decide +kernel
theorem dX10_numberHere_47 : decode cX10_numberHere 47 = .ok (.istore_n 2, 1) := by decide +kernel
theorem dX10_numberHere_48 : decode cX10_numberHere 48 = .ok (.iload_n 2, 1) := by decide +kernel
theorem dX10_numberHere_49 : decode cX10_numberHere 49 = .ok (.aload_n 0, 1) := by decide +kernel
theorem dX10_numberHere_50 : decode cX10_numberHere 50 = .ok (.getfield 65, 3) := by decide +kernel
theorem dX10_numberHere_53 : decode cX10_numberHere 53 = .ok (.if_icmp .ge 24, 3) := by decide +kernel
theorem dX10_numberHere_56 : decode cX10_numberHere 56 = .ok (.bipush 10, 2) := by decide +kernel
theorem dX10_numberHere_58 : decode cX10_numberHere 58 = .ok (.iload_n 1, 1) := by decide +kernel
theorem dX10_numberHere_59 : decode cX10_numberHere 59 = .ok (.imul, 1) := by decide +kernel
theorem dX10_numberHere_60 : decode cX10_numberHere 60 = .ok (.aload_n 0, 1) := by decide +kernel
theorem dX10_numberHere_61 : decode cX10_numberHere 61 = .ok (.getfield 24, 3) := by decide +kernel
theorem dX10_numberHere_64 : decode cX10_numberHere 64 = .ok (.iload_n 2, 1) := by decide +kernel
theorem dX10_numberHere_65 : decode cX10_numberHere 65 = .ok (.iaload, 1) := by decide +kernel
theorem dX10_numberHere_66 : decode cX10_numberHere 66 = .ok (.iadd, 1) := by decide +kernel
theorem dX10_numberHere_67 : decode cX10_numberHere 67 = .ok (.bipush 48, 2) := by decide +kernel
theorem dX10_numberHere_69 : decode cX10_numberHere 69 = .ok (.isub, 1) := by decide +kernel
theorem dX10_numberHere_70 : decode cX10_numberHere 70 = .ok (.istore_n 1, 1) := by decide +kernel
theorem dX10_numberHere_71 : decode cX10_numberHere 71 = .ok (.iinc 2 1, 3) := by decide +kernel
theorem dX10_numberHere_74 : decode cX10_numberHere 74 = .ok (.goto (-26), 3) := by decide +kernel
theorem dX10_numberHere_77 : decode cX10_numberHere 77 = .ok (.iload_n 1, 1) := by decide +kernel
theorem dX10_numberHere_78 : decode cX10_numberHere 78 = .ok (.ireturn, 1) := by decide +kernel
theorem dX10_number_0 : decode cX10_number 0 = .ok (.aload_n 0, 1) := by decide +kernel
theorem dX10_number_1 : decode cX10_number 1 = .ok (.invokevirtual 78, 3) := by decide +kernel
theorem dX10_number_4 : decode cX10_number 4 = .ok (.istore 4, 2) := by decide +kernel
theorem dX10_number_6 : decode cX10_number 6 = .ok (.iload 4, 2) := by decide +kernel
theorem dX10_number_8 : decode cX10_number 8 = .ok (.ifCond .lt 16, 3) := by decide +kernel
theorem dX10_number_11 : decode cX10_number 11 = .ok (.iload 4, 2) := by decide +kernel
theorem dX10_number_13 : decode cX10_number 13 = .ok (.i2l, 1) := by decide +kernel
theorem dX10_number_14 : decode cX10_number 14 = .ok (.iload_n 2, 1) := by decide +kernel
theorem dX10_number_15 : decode cX10_number 15 = .ok (.i2l, 1) := by decide +kernel
theorem dX10_number_16 : decode cX10_number 16 = .ok (.iload_n 3, 1) := by decide +kernel
theorem dX10_number_17 : decode cX10_number 17 = .ok (.i2l, 1) := by decide +kernel
theorem dX10_number_18 : decode cX10_number 18 = .ok (.invokestatic 48, 3) := by decide +kernel
theorem dX10_number_21 : decode cX10_number 21 = .ok (.ifCond .ne 5, 3) := by decide +kernel
theorem dX10_number_24 : decode cX10_number 24 = .ok (.iconst 0, 1) := by decide +kernel
theorem dX10_number_25 : decode cX10_number 25 = .ok (.ireturn, 1) := by decide +kernel
theorem dX10_number_26 : decode cX10_number 26 = .ok (.aload_n 0, 1) := by decide +kernel
theorem dX10_number_27 : decode cX10_number 27 = .ok (.getfield 30, 3) := by decide +kernel
theorem dX10_number_30 : decode cX10_number 30 = .ok (.iload_n 1, 1) := by decide +kernel
theorem dX10_number_31 : decode cX10_number 31 = .ok (.iload 4, 2) := by decide +kernel
theorem dX10_number_33 : decode cX10_number 33 = .ok (.iastore, 1) := by decide +kernel
theorem dX10_number_34 : decode cX10_number 34 = .ok (.aload_n 0, 1) := by decide +kernel
theorem dX10_number_35 : decode cX10_number 35 = .ok (.invokevirtual 82, 3) := by decide +kernel
theorem dX10_number_38 : decode cX10_number 38 = .ok (.iconst 1, 1) := by decide +kernel
theorem dX10_number_39 : decode cX10_number 39 = .ok (.ireturn, 1) := by decide +kernel
theorem dX10_otherNode_0 : decode cX10_otherNode 0 = .ok (.aload_n 0, 1) := by decide +kernel
theorem dX10_otherNode_1 : decode cX10_otherNode 1 = .ok (.getfield 30, 3) := by decide +kernel
theorem dX10_otherNode_4 : decode cX10_otherNode 4 = .ok (.iconst 0, 1) := by decide +kernel
theorem dX10_otherNode_5 : decode cX10_otherNode 5 = .ok (.iaload, 1) := by decide +kernel
theorem dX10_otherNode_6 : decode cX10_otherNode 6 = .ok (.istore_n 1, 1) := by decide +kernel
theorem dX10_otherNode_7 : decode cX10_otherNode 7 = .ok (.aload_n 0, 1) := by decide +kernel
theorem dX10_otherNode_8 : decode cX10_otherNode 8 = .ok (.invokevirtual 78, 3) := by decide +kernel
theorem dX10_otherNode_11 : decode cX10_otherNode 11 = .ok (.istore_n 2, 1) := by decide +kernel
theorem dX10_otherNode_12 : decode cX10_otherNode 12 = .ok (.iload_n 2, 1) := by decide +kernel
theorem dX10_otherNode_13 : decode cX10_otherNode 13 = .ok (.i2l, 1) := by decide +kernel
theorem dX10_otherNode_14 : decode cX10_otherNode 14 = .ok (.lconst 0, 1) := by decide +kernel
theorem dX10_otherNode_15 : decode cX10_otherNode 15 = .ok (.aload_n 0, 1) := by decide +kernel
theorem dX10_otherNode_16 : decode cX10_otherNode 16 = .ok (.getfield 85, 3) := by decide +kernel
theorem dX10_otherNode_19 : decode cX10_otherNode 19 = .ok (.iconst 1, 1) := by decide +kernel
theorem dX10_otherNode_20 : decode cX10_otherNode 20 = .ok (.isub, 1) := by decide +kernel
theorem dX10_otherNode_21 : decode cX10_otherNode 21 = .ok (.i2l, 1) := by decide +kernel
theorem dX10_otherNode_22 : decode cX10_otherNode 22 = .ok (.invokestatic 48, 3) := by decide +kernel
theorem dX10_otherNode_25 : decode cX10_otherNode 25 = .ok (.ifCond .eq 35, 3) := by decide +kernel
theorem dX10_otherNode_28 : decode cX10_otherNode 28 = .ok (.iload_n 2, 1) := by decide +kernel
theorem dX10_otherNode_29 : decode cX10_otherNode 29 = .ok (.iload_n 1, 1) := by decide +kernel
theorem dX10_otherNode_30 : decode cX10_otherNode 30 = .ok (.if_icmp .eq 30, 3) := by decide +kernel
theorem dX10_otherNode_33 : decode cX10_otherNode 33 = .ok (.aload_n 0, 1) := by decide +kernel
theorem dX10_otherNode_34 : decode cX10_otherNode 34 = .ok (.getfield 27, 3) := by decide +kernel
theorem dX10_otherNode_37 : decode cX10_otherNode 37 = .ok (.bipush 12, 2) := by decide +kernel
theorem dX10_otherNode_39 : decode cX10_otherNode 39 = .ok (.iload_n 1, 1) := by decide +kernel
theorem dX10_otherNode_40 : decode cX10_otherNode 40 = .ok (.imul, 1) := by decide +kernel
theorem dX10_otherNode_41 : decode cX10_otherNode 41 = .ok (.iload_n 2, 1) := by decide +kernel
theorem dX10_otherNode_42 : decode cX10_otherNode 42 = .ok (.iadd, 1) := by decide +kernel
theorem dX10_otherNode_43 : decode cX10_otherNode 43 = .ok (.baload, 1) := by decide +kernel
theorem dX10_otherNode_44 : decode cX10_otherNode 44 = .ok (.ifCond .ne 12, 3) := by decide +kernel
theorem dX10_otherNode_47 : decode cX10_otherNode 47 = .ok (.aload_n 0, 1) := by decide +kernel
theorem dX10_otherNode_48 : decode cX10_otherNode 48 = .ok (.getfield 88, 3) := by decide +kernel
theorem dX10_otherNode_51 : decode cX10_otherNode 51 = .ok (.bipush 30, 2) := by decide +kernel
theorem dX10_otherNode_53 : decode cX10_otherNode 53 = .ok (.if_icmp .ge 7, 3) := by decide +kernel
theorem dX10_otherNode_56 : decode cX10_otherNode 56 = .ok (.iconst 1, 1) := by decide +kernel
theorem dX10_otherNode_57 : decode cX10_otherNode 57 = .ok (.goto 4, 3) := by decide +kernel
theorem dX10_otherNode_60 : decode cX10_otherNode 60 = .ok (.iconst 0, 1) := by decide +kernel
theorem dX10_otherNode_61 : decode cX10_otherNode 61 = .ok (.istore_n 3, 1) := by decide +kernel
theorem dX10_otherNode_62 : decode cX10_otherNode 62 = .ok (.iload_n 3, 1) := by decide +kernel
theorem dX10_otherNode_63 : decode cX10_otherNode 63 = .ok (.ifCond .eq 22, 3) := by decide +kernel
theorem dX10_otherNode_66 : decode cX10_otherNode 66 = .ok (.aload_n 0, 1) := by decide +kernel
theorem dX10_otherNode_67 : decode cX10_otherNode 67 = .ok (.iconst 1, 1) := by decide +kernel
theorem dX10_otherNode_68 : decode cX10_otherNode 68 = .ok (.iconst 0, 1) := by decide +kernel
theorem dX10_otherNode_69 : decode cX10_otherNode 69 = .ok (.aload_n 0, 1) := by decide +kernel
theorem dX10_otherNode_70 : decode cX10_otherNode 70 = .ok (.getfield 85, 3) := by decide +kernel
theorem dX10_otherNode_73 : decode cX10_otherNode 73 = .ok (.iconst 1, 1) := by decide +kernel
theorem dX10_otherNode_74 : decode cX10_otherNode 74 = .ok (.isub, 1) := by decide +kernel
theorem dX10_otherNode_75 : decode cX10_otherNode 75 = .ok (.invokevirtual 91, 3) := by decide +kernel
theorem dX10_otherNode_78 : decode cX10_otherNode 78 = .ok (.ifCond .eq 7, 3) := by decide +kernel
theorem dX10_otherNode_81 : decode cX10_otherNode 81 = .ok (.iconst 1, 1) := by decide +kernel
theorem dX10_otherNode_82 : decode cX10_otherNode 82 = .ok (.goto 4, 3) := by decide +kernel
theorem dX10_otherNode_85 : decode cX10_otherNode 85 = .ok (.iconst 0, 1) := by decide +kernel
theorem dX10_otherNode_86 : decode cX10_otherNode 86 = .ok (.ireturn, 1) := by decide +kernel
theorem dX10_tellsNet_0 : decode cX10_tellsNet 0 = .ok (.aload_n 0, 1) := by decide +kernel
theorem dX10_tellsNet_1 : decode cX10_tellsNet 1 = .ok (.aload_n 0, 1) := by decide +kernel
theorem dX10_tellsNet_2 : decode cX10_tellsNet 2 = .ok (.getfield 30, 3) := by decide +kernel
theorem dX10_tellsNet_5 : decode cX10_tellsNet 5 = .ok (.iconst 0, 1) := by decide +kernel
theorem dX10_tellsNet_6 : decode cX10_tellsNet 6 = .ok (.iaload, 1) := by decide +kernel
theorem dX10_tellsNet_7 : decode cX10_tellsNet 7 = .ok (.putfield 85, 3) := by decide +kernel
theorem dX10_tellsNet_10 : decode cX10_tellsNet 10 = .ok (.aload_n 0, 1) := by decide +kernel
theorem dX10_tellsNet_11 : decode cX10_tellsNet 11 = .ok (.iconst 0, 1) := by decide +kernel
theorem dX10_tellsNet_12 : decode cX10_tellsNet 12 = .ok (.putfield 88, 3) := by decide +kernel
theorem dX10_tellsNet_15 : decode cX10_tellsNet 15 = .ok (.iconst 0, 1) := by decide +kernel
theorem dX10_tellsNet_16 : decode cX10_tellsNet 16 = .ok (.istore_n 1, 1) := by decide +kernel
theorem dX10_tellsNet_17 : decode cX10_tellsNet 17 = .ok (.iload_n 1, 1) := by decide +kernel
theorem dX10_tellsNet_18 : decode cX10_tellsNet 18 = .ok (.sipush 144, 3) := by decide +kernel
theorem dX10_tellsNet_21 : decode cX10_tellsNet 21 = .ok (.if_icmp .ge 16, 3) := by decide +kernel
theorem dX10_tellsNet_24 : decode cX10_tellsNet 24 = .ok (.aload_n 0, 1) := by decide +kernel
theorem dX10_tellsNet_25 : decode cX10_tellsNet 25 = .ok (.getfield 27, 3) := by decide +kernel
theorem dX10_tellsNet_28 : decode cX10_tellsNet 28 = .ok (.iload_n 1, 1) := by decide +kernel
theorem dX10_tellsNet_29 : decode cX10_tellsNet 29 = .ok (.iconst 0, 1) := by decide +kernel
theorem dX10_tellsNet_30 : decode cX10_tellsNet 30 = .ok (.bastore, 1) := by decide +kernel
theorem dX10_tellsNet_31 : decode cX10_tellsNet 31 = .ok (.iinc 1 1, 3) := by decide +kernel
theorem dX10_tellsNet_34 : decode cX10_tellsNet 34 = .ok (.goto (-17), 3) := by decide +kernel
theorem dX10_tellsNet_37 : decode cX10_tellsNet 37 = .ok (.return_, 1) := by decide +kernel
theorem dX10_tellsLink_0 : decode cX10_tellsLink 0 = .ok (.aload_n 0, 1) := by decide +kernel
theorem dX10_tellsLink_1 : decode cX10_tellsLink 1 = .ok (.getfield 30, 3) := by decide +kernel
theorem dX10_tellsLink_4 : decode cX10_tellsLink 4 = .ok (.iconst 0, 1) := by decide +kernel
theorem dX10_tellsLink_5 : decode cX10_tellsLink 5 = .ok (.iaload, 1) := by decide +kernel
theorem dX10_tellsLink_6 : decode cX10_tellsLink 6 = .ok (.istore_n 1, 1) := by decide +kernel
theorem dX10_tellsLink_7 : decode cX10_tellsLink 7 = .ok (.aload_n 0, 1) := by decide +kernel
theorem dX10_tellsLink_8 : decode cX10_tellsLink 8 = .ok (.getfield 30, 3) := by decide +kernel
theorem dX10_tellsLink_11 : decode cX10_tellsLink 11 = .ok (.iconst 1, 1) := by decide +kernel
theorem dX10_tellsLink_12 : decode cX10_tellsLink 12 = .ok (.iaload, 1) := by decide +kernel
theorem dX10_tellsLink_13 : decode cX10_tellsLink 13 = .ok (.istore_n 2, 1) := by decide +kernel
theorem dX10_tellsLink_14 : decode cX10_tellsLink 14 = .ok (.aload_n 0, 1) := by decide +kernel
theorem dX10_tellsLink_15 : decode cX10_tellsLink 15 = .ok (.dup, 1) := by decide +kernel
theorem dX10_tellsLink_16 : decode cX10_tellsLink 16 = .ok (.getfield 88, 3) := by decide +kernel
theorem dX10_tellsLink_19 : decode cX10_tellsLink 19 = .ok (.aload_n 0, 1) := by decide +kernel
theorem dX10_tellsLink_20 : decode cX10_tellsLink 20 = .ok (.getfield 27, 3) := by decide +kernel
theorem dX10_tellsLink_23 : decode cX10_tellsLink 23 = .ok (.bipush 12, 2) := by decide +kernel
theorem dX10_tellsLink_25 : decode cX10_tellsLink 25 = .ok (.iload_n 1, 1) := by decide +kernel
theorem dX10_tellsLink_26 : decode cX10_tellsLink 26 = .ok (.imul, 1) := by decide +kernel
theorem dX10_tellsLink_27 : decode cX10_tellsLink 27 = .ok (.iload_n 2, 1) := by decide +kernel
theorem dX10_tellsLink_28 : decode cX10_tellsLink 28 = .ok (.iadd, 1) := by decide +kernel
theorem dX10_tellsLink_29 : decode cX10_tellsLink 29 = .ok (.baload, 1) := by decide +kernel
theorem dX10_tellsLink_30 : decode cX10_tellsLink 30 = .ok (.ifCond .eq 7, 3) := by decide +kernel
theorem dX10_tellsLink_33 : decode cX10_tellsLink 33 = .ok (.iconst 0, 1) := by decide +kernel
theorem dX10_tellsLink_34 : decode cX10_tellsLink 34 = .ok (.goto 4, 3) := by decide +kernel
theorem dX10_tellsLink_37 : decode cX10_tellsLink 37 = .ok (.iconst 1, 1) := by decide +kernel
theorem dX10_tellsLink_38 : decode cX10_tellsLink 38 = .ok (.iadd, 1) := by decide +kernel
theorem dX10_tellsLink_39 : decode cX10_tellsLink 39 = .ok (.putfield 88, 3) := by decide +kernel
theorem dX10_tellsLink_42 : decode cX10_tellsLink 42 = .ok (.aload_n 0, 1) := by decide +kernel
theorem dX10_tellsLink_43 : decode cX10_tellsLink 43 = .ok (.getfield 27, 3) := by decide +kernel
theorem dX10_tellsLink_46 : decode cX10_tellsLink 46 = .ok (.bipush 12, 2) := by decide +kernel
theorem dX10_tellsLink_48 : decode cX10_tellsLink 48 = .ok (.iload_n 1, 1) := by decide +kernel
theorem dX10_tellsLink_49 : decode cX10_tellsLink 49 = .ok (.imul, 1) := by decide +kernel
theorem dX10_tellsLink_50 : decode cX10_tellsLink 50 = .ok (.iload_n 2, 1) := by decide +kernel
theorem dX10_tellsLink_51 : decode cX10_tellsLink 51 = .ok (.iadd, 1) := by decide +kernel
theorem dX10_tellsLink_52 : decode cX10_tellsLink 52 = .ok (.iconst 1, 1) := by decide +kernel
theorem dX10_tellsLink_53 : decode cX10_tellsLink 53 = .ok (.bastore, 1) := by decide +kernel
theorem dX10_tellsLink_54 : decode cX10_tellsLink 54 = .ok (.aload_n 0, 1) := by decide +kernel
theorem dX10_tellsLink_55 : decode cX10_tellsLink 55 = .ok (.getfield 27, 3) := by decide +kernel
theorem dX10_tellsLink_58 : decode cX10_tellsLink 58 = .ok (.bipush 12, 2) := by decide +kernel
theorem dX10_tellsLink_60 : decode cX10_tellsLink 60 = .ok (.iload_n 2, 1) := by decide +kernel
theorem dX10_tellsLink_61 : decode cX10_tellsLink 61 = .ok (.imul, 1) := by decide +kernel
theorem dX10_tellsLink_62 : decode cX10_tellsLink 62 = .ok (.iload_n 1, 1) := by decide +kernel
theorem dX10_tellsLink_63 : decode cX10_tellsLink 63 = .ok (.iadd, 1) := by decide +kernel
theorem dX10_tellsLink_64 : decode cX10_tellsLink 64 = .ok (.iconst 1, 1) := by decide +kernel
theorem dX10_tellsLink_65 : decode cX10_tellsLink 65 = .ok (.bastore, 1) := by decide +kernel
theorem dX10_tellsLink_66 : decode cX10_tellsLink 66 = .ok (.return_, 1) := by decide +kernel
theorem dX10_does_0 : decode cX10_does 0 = .ok (.iload_n 1, 1) := by decide +kernel
theorem dX10_does_1 : decode cX10_does 1 = .ok (.ifCond .ne 60, 3) := by decide +kernel
theorem dX10_does_4 : decode cX10_does 4 = .ok (.aload_n 0, 1) := by decide +kernel
theorem dX10_does_5 : decode cX10_does 5 = .ok (.aload_n 0, 1) := by decide +kernel
theorem dX10_does_6 : decode cX10_does 6 = .ok (.getfield 30, 3) := by decide +kernel
theorem dX10_does_9 : decode cX10_does 9 = .ok (.iconst 0, 1) := by decide +kernel
theorem dX10_does_10 : decode cX10_does 10 = .ok (.iaload, 1) := by decide +kernel
theorem dX10_does_11 : decode cX10_does 11 = .ok (.putfield 13, 3) := by decide +kernel
theorem dX10_does_14 : decode cX10_does 14 = .ok (.iconst 0, 1) := by decide +kernel
theorem dX10_does_15 : decode cX10_does 15 = .ok (.istore_n 2, 1) := by decide +kernel
theorem dX10_does_16 : decode cX10_does 16 = .ok (.iload_n 2, 1) := by decide +kernel
theorem dX10_does_17 : decode cX10_does 17 = .ok (.sipush 156, 3) := by decide +kernel
theorem dX10_does_20 : decode cX10_does 20 = .ok (.if_icmp .ge 16, 3) := by decide +kernel
theorem dX10_does_23 : decode cX10_does 23 = .ok (.aload_n 0, 1) := by decide +kernel
theorem dX10_does_24 : decode cX10_does 24 = .ok (.getfield 7, 3) := by decide +kernel
theorem dX10_does_27 : decode cX10_does 27 = .ok (.iload_n 2, 1) := by decide +kernel
theorem dX10_does_28 : decode cX10_does 28 = .ok (.iconst 0, 1) := by decide +kernel
theorem dX10_does_29 : decode cX10_does 29 = .ok (.iastore, 1) := by decide +kernel
theorem dX10_does_30 : decode cX10_does 30 = .ok (.iinc 2 1, 3) := by decide +kernel
theorem dX10_does_33 : decode cX10_does 33 = .ok (.goto (-17), 3) := by decide +kernel
theorem dX10_does_36 : decode cX10_does 36 = .ok (.iconst 0, 1) := by decide +kernel
theorem dX10_does_37 : decode cX10_does 37 = .ok (.istore_n 2, 1) := by decide +kernel
theorem dX10_does_38 : decode cX10_does 38 = .ok (.iload_n 2, 1) := by decide +kernel
theorem dX10_does_39 : decode cX10_does 39 = .ok (.sipush 240, 3) := by decide +kernel
theorem dX10_does_42 : decode cX10_does 42 = .ok (.if_icmp .ge 16, 3) := by decide +kernel
theorem dX10_does_45 : decode cX10_does 45 = .ok (.aload_n 0, 1) := by decide +kernel
theorem dX10_does_46 : decode cX10_does 46 = .ok (.getfield 17, 3) := by decide +kernel
theorem dX10_does_49 : decode cX10_does 49 = .ok (.iload_n 2, 1) := by decide +kernel
theorem dX10_does_50 : decode cX10_does 50 = .ok (.iconst 0, 1) := by decide +kernel
theorem dX10_does_51 : decode cX10_does 51 = .ok (.iastore, 1) := by decide +kernel
theorem dX10_does_52 : decode cX10_does 52 = .ok (.iinc 2 1, 3) := by decide +kernel
theorem dX10_does_55 : decode cX10_does 55 = .ok (.goto (-17), 3) := by decide +kernel
theorem dX10_does_58 : decode cX10_does 58 = .ok (.goto 54, 3) := by decide +kernel
theorem dX10_does_61 : decode cX10_does 61 = .ok (.iload_n 1, 1) := by decide +kernel
theorem dX10_does_62 : decode cX10_does 62 = .ok (.iconst 1, 1) := by decide +kernel
theorem dX10_does_63 : decode cX10_does 63 = .ok (.if_icmp .ne 28, 3) := by decide +kernel
theorem dX10_does_66 : decode cX10_does 66 = .ok (.aload_n 0, 1) := by decide +kernel
theorem dX10_does_67 : decode cX10_does 67 = .ok (.aload_n 0, 1) := by decide +kernel
theorem dX10_does_68 : decode cX10_does 68 = .ok (.getfield 30, 3) := by decide +kernel
theorem dX10_does_71 : decode cX10_does 71 = .ok (.iconst 0, 1) := by decide +kernel
theorem dX10_does_72 : decode cX10_does 72 = .ok (.iaload, 1) := by decide +kernel
theorem dX10_does_73 : decode cX10_does 73 = .ok (.aload_n 0, 1) := by decide +kernel
theorem dX10_does_74 : decode cX10_does 74 = .ok (.getfield 30, 3) := by decide +kernel
theorem dX10_does_77 : decode cX10_does 77 = .ok (.iconst 1, 1) := by decide +kernel
theorem dX10_does_78 : decode cX10_does 78 = .ok (.iaload, 1) := by decide +kernel
theorem dX10_does_79 : decode cX10_does 79 = .ok (.aload_n 0, 1) := by decide +kernel
theorem dX10_does_80 : decode cX10_does 80 = .ok (.getfield 30, 3) := by decide +kernel
theorem dX10_does_83 : decode cX10_does 83 = .ok (.iconst 2, 1) := by decide +kernel
theorem dX10_does_84 : decode cX10_does 84 = .ok (.iaload, 1) := by decide +kernel
theorem dX10_does_85 : decode cX10_does 85 = .ok (.invokevirtual 95, 3) := by decide +kernel
theorem dX10_does_88 : decode cX10_does 88 = .ok (.goto 24, 3) := by decide +kernel
theorem dX10_does_91 : decode cX10_does 91 = .ok (.aload_n 0, 1) := by decide +kernel
theorem dX10_does_92 : decode cX10_does 92 = .ok (.getfield 7, 3) := by decide +kernel
theorem dX10_does_95 : decode cX10_does 95 = .ok (.sipush 144, 3) := by decide +kernel
theorem dX10_does_98 : decode cX10_does 98 = .ok (.aload_n 0, 1) := by decide +kernel
theorem dX10_does_99 : decode cX10_does 99 = .ok (.getfield 30, 3) := by decide +kernel
theorem dX10_does_102 : decode cX10_does 102 = .ok (.iconst 0, 1) := by decide +kernel
theorem dX10_does_103 : decode cX10_does 103 = .ok (.iaload, 1) := by decide +kernel
theorem dX10_does_104 : decode cX10_does 104 = .ok (.iadd, 1) := by decide +kernel
theorem dX10_does_105 : decode cX10_does 105 = .ok (.aload_n 0, 1) := by decide +kernel
theorem dX10_does_106 : decode cX10_does 106 = .ok (.getfield 30, 3) := by decide +kernel
theorem dX10_does_109 : decode cX10_does 109 = .ok (.iconst 1, 1) := by decide +kernel
theorem dX10_does_110 : decode cX10_does 110 = .ok (.iaload, 1) := by decide +kernel
theorem dX10_does_111 : decode cX10_does 111 = .ok (.iastore, 1) := by decide +kernel
theorem dX10_does_112 : decode cX10_does 112 = .ok (.return_, 1) := by decide +kernel
theorem dX10_readsClause_0 : decode cX10_readsClause 0 = .ok (.aload_n 0, 1) := by decide +kernel
theorem dX10_readsClause_1 : decode cX10_readsClause 1 = .ok (.invokevirtual 99, 3) := by decide +kernel
theorem dX10_readsClause_4 : decode cX10_readsClause 4 = .ok (.istore_n 1, 1) := by decide +kernel
theorem dX10_readsClause_5 : decode cX10_readsClause 5 = .ok (.iload_n 1, 1) := by decide +kernel
theorem dX10_readsClause_6 : decode cX10_readsClause 6 = .ok (.iconst (-1), 1) := by decide +kernel
theorem dX10_readsClause_7 : decode cX10_readsClause 7 = .ok (.if_icmp .ne 5, 3) := by decide +kernel
theorem dX10_readsClause_10 : decode cX10_readsClause 10 = .ok (.iconst 0, 1) := by decide +kernel
theorem dX10_readsClause_11 : decode cX10_readsClause 11 = .ok (.ireturn, 1) := by decide +kernel
theorem dX10_readsClause_12 : decode cX10_readsClause 12 = .ok (.aload_n 0, 1) := by decide +kernel
theorem dX10_readsClause_13 : decode cX10_readsClause 13 = .ok (.invokevirtual 82, 3) := by decide +kernel
theorem dX10_readsClause_16 : decode cX10_readsClause 16 = .ok (.iload_n 1, 1) := by decide +kernel
theorem dX10_readsClause_17 : decode cX10_readsClause 17 = .ok (.ifCond .ne 14, 3) := by decide +kernel
theorem dX10_readsClause_20 : decode cX10_readsClause 20 = .ok (.aload_n 0, 1) := by decide +kernel
theorem dX10_readsClause_21 : decode cX10_readsClause 21 = .ok (.iconst 0, 1) := by decide +kernel
theorem dX10_readsClause_22 : decode cX10_readsClause 22 = .ok (.iconst 2, 1) := by decide +kernel
theorem dX10_readsClause_23 : decode cX10_readsClause 23 = .ok (.bipush 12, 2) := by decide +kernel
theorem dX10_readsClause_25 : decode cX10_readsClause 25 = .ok (.invokevirtual 91, 3) := by decide +kernel
theorem dX10_readsClause_28 : decode cX10_readsClause 28 = .ok (.goto 79, 3) := by decide +kernel
theorem dX10_readsClause_31 : decode cX10_readsClause 31 = .ok (.iload_n 1, 1) := by decide +kernel
theorem dX10_readsClause_32 : decode cX10_readsClause 32 = .ok (.iconst 1, 1) := by decide +kernel
theorem dX10_readsClause_33 : decode cX10_readsClause 33 = .ok (.if_icmp .ne 44, 3) := by decide +kernel
theorem dX10_readsClause_36 : decode cX10_readsClause 36 = .ok (.aload_n 0, 1) := by decide +kernel
theorem dX10_readsClause_37 : decode cX10_readsClause 37 = .ok (.iconst 0, 1) := by decide +kernel
theorem dX10_readsClause_38 : decode cX10_readsClause 38 = .ok (.iconst 0, 1) := by decide +kernel
theorem dX10_readsClause_39 : decode cX10_readsClause 39 = .ok (.aload_n 0, 1) := by decide +kernel
theorem dX10_readsClause_40 : decode cX10_readsClause 40 = .ok (.getfield 85, 3) := by decide +kernel
theorem dX10_readsClause_43 : decode cX10_readsClause 43 = .ok (.iconst 1, 1) := by decide +kernel
theorem dX10_readsClause_44 : decode cX10_readsClause 44 = .ok (.isub, 1) := by decide +kernel
theorem dX10_readsClause_45 : decode cX10_readsClause 45 = .ok (.invokevirtual 91, 3) := by decide +kernel
theorem dX10_readsClause_48 : decode cX10_readsClause 48 = .ok (.ifCond .eq 25, 3) := by decide +kernel
theorem dX10_readsClause_51 : decode cX10_readsClause 51 = .ok (.aload_n 0, 1) := by decide +kernel
theorem dX10_readsClause_52 : decode cX10_readsClause 52 = .ok (.invokevirtual 102, 3) := by decide +kernel
theorem dX10_readsClause_55 : decode cX10_readsClause 55 = .ok (.ifCond .eq 18, 3) := by decide +kernel
theorem dX10_readsClause_58 : decode cX10_readsClause 58 = .ok (.aload_n 0, 1) := by decide +kernel
theorem dX10_readsClause_59 : decode cX10_readsClause 59 = .ok (.iconst 2, 1) := by decide +kernel
theorem dX10_readsClause_60 : decode cX10_readsClause 60 = .ok (.iconst 1, 1) := by decide +kernel
theorem dX10_readsClause_61 : decode cX10_readsClause 61 = .ok (.bipush 99, 2) := by decide +kernel
theorem dX10_readsClause_63 : decode cX10_readsClause 63 = .ok (.invokevirtual 91, 3) := by decide +kernel
theorem dX10_readsClause_66 : decode cX10_readsClause 66 = .ok (.ifCond .eq 7, 3) := by decide +kernel
theorem dX10_readsClause_69 : decode cX10_readsClause 69 = .ok (.iconst 1, 1) := by decide +kernel
theorem dX10_readsClause_70 : decode cX10_readsClause 70 = .ok (.goto 37, 3) := by decide +kernel
theorem dX10_readsClause_73 : decode cX10_readsClause 73 = .ok (.iconst 0, 1) := by decide +kernel
theorem dX10_readsClause_74 : decode cX10_readsClause 74 = .ok (.goto 33, 3) := by decide +kernel
theorem dX10_readsClause_77 : decode cX10_readsClause 77 = .ok (.aload_n 0, 1) := by decide +kernel
theorem dX10_readsClause_78 : decode cX10_readsClause 78 = .ok (.iconst 0, 1) := by decide +kernel
theorem dX10_readsClause_79 : decode cX10_readsClause 79 = .ok (.iconst 0, 1) := by decide +kernel
theorem dX10_readsClause_80 : decode cX10_readsClause 80 = .ok (.aload_n 0, 1) := by decide +kernel
theorem dX10_readsClause_81 : decode cX10_readsClause 81 = .ok (.getfield 85, 3) := by decide +kernel
theorem dX10_readsClause_84 : decode cX10_readsClause 84 = .ok (.iconst 1, 1) := by decide +kernel
theorem dX10_readsClause_85 : decode cX10_readsClause 85 = .ok (.isub, 1) := by decide +kernel
theorem dX10_readsClause_86 : decode cX10_readsClause 86 = .ok (.invokevirtual 91, 3) := by decide +kernel
theorem dX10_readsClause_89 : decode cX10_readsClause 89 = .ok (.ifCond .eq 17, 3) := by decide +kernel
theorem dX10_readsClause_92 : decode cX10_readsClause 92 = .ok (.aload_n 0, 1) := by decide +kernel
theorem dX10_readsClause_93 : decode cX10_readsClause 93 = .ok (.iconst 1, 1) := by decide +kernel
theorem dX10_readsClause_94 : decode cX10_readsClause 94 = .ok (.iconst 0, 1) := by decide +kernel
theorem dX10_readsClause_95 : decode cX10_readsClause 95 = .ok (.iconst 2, 1) := by decide +kernel
theorem dX10_readsClause_96 : decode cX10_readsClause 96 = .ok (.invokevirtual 91, 3) := by decide +kernel
theorem dX10_readsClause_99 : decode cX10_readsClause 99 = .ok (.ifCond .eq 7, 3) := by decide +kernel
theorem dX10_readsClause_102 : decode cX10_readsClause 102 = .ok (.iconst 1, 1) := by decide +kernel
theorem dX10_readsClause_103 : decode cX10_readsClause 103 = .ok (.goto 4, 3) := by decide +kernel
theorem dX10_readsClause_106 : decode cX10_readsClause 106 = .ok (.iconst 0, 1) := by decide +kernel
theorem dX10_readsClause_107 : decode cX10_readsClause 107 = .ok (.istore_n 2, 1) := by decide +kernel
theorem dX10_readsClause_108 : decode cX10_readsClause 108 = .ok (.iload_n 2, 1) := by decide +kernel
theorem dX10_readsClause_109 : decode cX10_readsClause 109 = .ok (.ifCond .ne 5, 3) := by decide +kernel
theorem dX10_readsClause_112 : decode cX10_readsClause 112 = .ok (.iconst 0, 1) := by decide +kernel
theorem dX10_readsClause_113 : decode cX10_readsClause 113 = .ok (.ireturn, 1) := by decide +kernel
theorem dX10_readsClause_114 : decode cX10_readsClause 114 = .ok (.iload_n 1, 1) := by decide +kernel
theorem dX10_readsClause_115 : decode cX10_readsClause 115 = .ok (.ifCond .ne 10, 3) := by decide +kernel
theorem dX10_readsClause_118 : decode cX10_readsClause 118 = .ok (.aload_n 0, 1) := by decide +kernel
theorem dX10_readsClause_119 : decode cX10_readsClause 119 = .ok (.invokevirtual 106, 3) := by decide +kernel
theorem dX10_readsClause_122 : decode cX10_readsClause 122 = .ok (.goto 12, 3) := by decide +kernel
theorem dX10_readsClause_125 : decode cX10_readsClause 125 = .ok (.iload_n 1, 1) := by decide +kernel
theorem dX10_readsClause_126 : decode cX10_readsClause 126 = .ok (.iconst 1, 1) := by decide +kernel
theorem dX10_readsClause_127 : decode cX10_readsClause 127 = .ok (.if_icmp .ne 7, 3) := by decide +kernel
theorem dX10_readsClause_130 : decode cX10_readsClause 130 = .ok (.aload_n 0, 1) := by decide +kernel
theorem dX10_readsClause_131 : decode cX10_readsClause 131 = .ok (.invokevirtual 109, 3) := by decide +kernel
theorem dX10_readsClause_134 : decode cX10_readsClause 134 = .ok (.aload_n 0, 1) := by decide +kernel
theorem dX10_readsClause_135 : decode cX10_readsClause 135 = .ok (.getfield 112, 3) := by decide +kernel
theorem dX10_readsClause_138 : decode cX10_readsClause 138 = .ok (.ifCond .eq 8, 3) := by decide +kernel
theorem dX10_readsClause_141 : decode cX10_readsClause 141 = .ok (.aload_n 0, 1) := by decide +kernel
theorem dX10_readsClause_142 : decode cX10_readsClause 142 = .ok (.iload_n 1, 1) := by decide +kernel
theorem dX10_readsClause_143 : decode cX10_readsClause 143 = .ok (.invokevirtual 116, 3) := by decide +kernel
theorem dX10_readsClause_146 : decode cX10_readsClause 146 = .ok (.iconst 1, 1) := by decide +kernel
theorem dX10_readsClause_147 : decode cX10_readsClause 147 = .ok (.ireturn, 1) := by decide +kernel
theorem dX10_reads_0 : decode cX10_reads 0 = .ok (.aload_n 0, 1) := by decide +kernel
theorem dX10_reads_1 : decode cX10_reads 1 = .ok (.iload_n 1, 1) := by decide +kernel
theorem dX10_reads_2 : decode cX10_reads 2 = .ok (.putfield 112, 3) := by decide +kernel
theorem dX10_reads_5 : decode cX10_reads 5 = .ok (.aload_n 0, 1) := by decide +kernel
