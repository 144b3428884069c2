theorem dX11_away_17 : decode cX11_away 17 = .ok (.iadd, 1) := by decide +kernel
theorem dX11_away_18 : decode cX11_away 18 = .ok (.istore 5, 2) := by decide +kernel
theorem dX11_away_20 : decode cX11_away 20 = .ok (.aload_n 0, 1) := by decide +kernel
theorem dX11_away_21 : decode cX11_away 21 = .ok (.getfield 22, 3) := by decide +kernel
theorem dX11_away_24 : decode cX11_away 24 = .ok (.ifCond .eq 38, 3) := by decide +kernel
theorem dX11_away_27 : decode cX11_away 27 = .ok (.aload_n 0, 1) := by decide +kernel
theorem dX11_away_28 : decode cX11_away 28 = .ok (.getfield 13, 3) := by decide +kernel
theorem dX11_away_31 : decode cX11_away 31 = .ok (.iload 5, 2) := by decide +kernel
theorem dX11_away_33 : decode cX11_away 33 = .ok (.iconst 2, 1) := by decide +kernel
theorem dX11_away_34 : decode cX11_away 34 = .ok (.aload_n 0, 1) := by decide +kernel
theorem dX11_away_35 : decode cX11_away 35 = .ok (.getfield 13, 3) := by decide +kernel
theorem dX11_away_38 : decode cX11_away 38 = .ok (.imul, 1) := by decide +kernel
theorem dX11_away_39 : decode cX11_away 39 = .ok (.iadd, 1) := by decide +kernel
theorem dX11_away_40 : decode cX11_away 40 = .ok (.aload_n 0, 1) := by decide +kernel
theorem dX11_away_41 : decode cX11_away 41 = .ok (.getfield 13, 3) := by decide +kernel
theorem dX11_away_44 : decode cX11_away 44 = .ok (.irem, 1) := by decide +kernel
theorem dX11_away_45 : decode cX11_away 45 = .ok (.imul, 1) := by decide +kernel
theorem dX11_away_46 : decode cX11_away 46 = .ok (.iload 4, 2) := by decide +kernel
theorem dX11_away_48 : decode cX11_away 48 = .ok (.iconst 2, 1) := by decide +kernel
theorem dX11_away_49 : decode cX11_away 49 = .ok (.aload_n 0, 1) := by decide +kernel
theorem dX11_away_50 : decode cX11_away 50 = .ok (.getfield 13, 3) := by decide +kernel
theorem dX11_away_53 : decode cX11_away 53 = .ok (.imul, 1) := by decide +kernel
theorem dX11_away_54 : decode cX11_away 54 = .ok (.iadd, 1) := by decide +kernel
theorem dX11_away_55 : decode cX11_away 55 = .ok (.aload_n 0, 1) := by decide +kernel
theorem dX11_away_56 : decode cX11_away 56 = .ok (.getfield 13, 3) := by decide +kernel
theorem dX11_away_59 : decode cX11_away 59 = .ok (.irem, 1) := by decide +kernel
theorem dX11_away_60 : decode cX11_away 60 = .ok (.iadd, 1) := by decide +kernel
theorem dX11_away_61 : decode cX11_away 61 = .ok (.ireturn, 1) := by decide +kernel
theorem dX11_away_62 : decode cX11_away 62 = .ok (.aload_n 0, 1) := by decide +kernel
theorem dX11_away_63 : decode cX11_away 63 = .ok (.iload 4, 2) := by decide +kernel
theorem dX11_away_65 : decode cX11_away 65 = .ok (.iconst 0, 1) := by decide +kernel
theorem dX11_away_66 : decode cX11_away 66 = .ok (.aload_n 0, 1) := by decide +kernel
theorem dX11_away_67 : decode cX11_away 67 = .ok (.getfield 13, 3) := by decide +kernel
theorem dX11_away_70 : decode cX11_away 70 = .ok (.iconst 1, 1) := by decide +kernel
theorem dX11_away_71 : decode cX11_away 71 = .ok (.isub, 1) := by decide +kernel
theorem dX11_away_72 : decode cX11_away 72 = .ok (.invokevirtual 230, 3) := by decide +kernel
theorem dX11_away_75 : decode cX11_away 75 = .ok (.ifCond .eq 32, 3) := by decide +kernel
theorem dX11_away_78 : decode cX11_away 78 = .ok (.aload_n 0, 1) := by decide +kernel
theorem dX11_away_79 : decode cX11_away 79 = .ok (.iload 5, 2) := by decide +kernel
theorem dX11_away_81 : decode cX11_away 81 = .ok (.iconst 0, 1) := by decide +kernel
theorem dX11_away_82 : decode cX11_away 82 = .ok (.aload_n 0, 1) := by decide +kernel
theorem dX11_away_83 : decode cX11_away 83 = .ok (.getfield 13, 3) := by decide +kernel
theorem dX11_away_86 : decode cX11_away 86 = .ok (.iconst 1, 1) := by decide +kernel
theorem dX11_away_87 : decode cX11_away 87 = .ok (.isub, 1) := by decide +kernel
theorem dX11_away_88 : decode cX11_away 88 = .ok (.invokevirtual 230, 3) := by decide +kernel
theorem dX11_away_91 : decode cX11_away 91 = .ok (.ifCond .eq 16, 3) := by decide +kernel
theorem dX11_away_94 : decode cX11_away 94 = .ok (.aload_n 0, 1) := by decide +kernel
theorem dX11_away_95 : decode cX11_away 95 = .ok (.getfield 13, 3) := by decide +kernel
theorem dX11_away_98 : decode cX11_away 98 = .ok (.iload 5, 2) := by decide +kernel
theorem dX11_away_100 : decode cX11_away 100 = .ok (.imul, 1) := by decide +kernel
theorem dX11_away_101 : decode cX11_away 101 = .ok (.iload 4, 2) := by decide +kernel
theorem dX11_away_103 : decode cX11_away 103 = .ok (.iadd, 1) := by decide +kernel
theorem dX11_away_104 : decode cX11_away 104 = .ok (.goto 4, 3) := by decide +kernel
theorem dX11_away_107 : decode cX11_away 107 = .ok (.iconst (-1), 1) := by decide +kernel
theorem dX11_away_108 : decode cX11_away 108 = .ok (.ireturn, 1) := by decide +kernel
theorem dX11_line_0 : decode cX11_line 0 = .ok (.iconst 0, 1) := by decide +kernel
theorem dX11_line_1 : decode cX11_line 1 = .ok (.istore_n 3, 1) := by decide +kernel
theorem dX11_line_2 : decode cX11_line 2 = .ok (.aload_n 0, 1) := by decide +kernel
theorem dX11_line_3 : decode cX11_line 3 = .ok (.iload_n 1, 1) := by decide +kernel
theorem dX11_line_4 : decode cX11_line 4 = .ok (.aload_n 0, 1) := by decide +kernel
theorem dX11_line_5 : decode cX11_line 5 = .ok (.getfield 94, 3) := by decide +kernel
theorem dX11_line_8 : decode cX11_line 8 = .ok (.iload_n 2, 1) := by decide +kernel
theorem dX11_line_9 : decode cX11_line 9 = .ok (.iaload, 1) := by decide +kernel
theorem dX11_line_10 : decode cX11_line 10 = .ok (.aload_n 0, 1) := by decide +kernel
theorem dX11_line_11 : decode cX11_line 11 = .ok (.getfield 97, 3) := by decide +kernel
theorem dX11_line_14 : decode cX11_line 14 = .ok (.iload_n 2, 1) := by decide +kernel
theorem dX11_line_15 : decode cX11_line 15 = .ok (.iaload, 1) := by decide +kernel
theorem dX11_line_16 : decode cX11_line 16 = .ok (.invokevirtual 319, 3) := by decide +kernel
theorem dX11_line_19 : decode cX11_line 19 = .ok (.istore 4, 2) := by decide +kernel
theorem dX11_line_21 : decode cX11_line 21 = .ok (.iload 4, 2) := by decide +kernel
theorem dX11_line_23 : decode cX11_line 23 = .ok (.ifCond .lt 52, 3) := by decide +kernel
theorem dX11_line_26 : decode cX11_line 26 = .ok (.iload 4, 2) := by decide +kernel
theorem dX11_line_28 : decode cX11_line 28 = .ok (.iload_n 1, 1) := by decide +kernel
theorem dX11_line_29 : decode cX11_line 29 = .ok (.if_icmp .eq 46, 3) := by decide +kernel
theorem dX11_line_32 : decode cX11_line 32 = .ok (.aload_n 0, 1) := by decide +kernel
theorem dX11_line_33 : decode cX11_line 33 = .ok (.aload_n 0, 1) := by decide +kernel
theorem dX11_line_34 : decode cX11_line 34 = .ok (.getfield 16, 3) := by decide +kernel
theorem dX11_line_37 : decode cX11_line 37 = .ok (.iload 4, 2) := by decide +kernel
theorem dX11_line_39 : decode cX11_line 39 = .ok (.invokevirtual 323, 3) := by decide +kernel
theorem dX11_line_42 : decode cX11_line 42 = .ok (.ifCond .ne 33, 3) := by decide +kernel
theorem dX11_line_45 : decode cX11_line 45 = .ok (.iload_n 3, 1) := by decide +kernel
theorem dX11_line_46 : decode cX11_line 46 = .ok (.iconst 1, 1) := by decide +kernel
theorem dX11_line_47 : decode cX11_line 47 = .ok (.iload 4, 2) := by decide +kernel
theorem dX11_line_49 : decode cX11_line 49 = .ok (.ishl, 1) := by decide +kernel
theorem dX11_line_50 : decode cX11_line 50 = .ok (.ior, 1) := by decide +kernel
theorem dX11_line_51 : decode cX11_line 51 = .ok (.istore_n 3, 1) := by decide +kernel
theorem dX11_line_52 : decode cX11_line 52 = .ok (.aload_n 0, 1) := by decide +kernel
theorem dX11_line_53 : decode cX11_line 53 = .ok (.iload 4, 2) := by decide +kernel
theorem dX11_line_55 : decode cX11_line 55 = .ok (.aload_n 0, 1) := by decide +kernel
theorem dX11_line_56 : decode cX11_line 56 = .ok (.getfield 94, 3) := by decide +kernel
theorem dX11_line_59 : decode cX11_line 59 = .ok (.iload_n 2, 1) := by decide +kernel
theorem dX11_line_60 : decode cX11_line 60 = .ok (.iaload, 1) := by decide +kernel
theorem dX11_line_61 : decode cX11_line 61 = .ok (.aload_n 0, 1) := by decide +kernel
theorem dX11_line_62 : decode cX11_line 62 = .ok (.getfield 97, 3) := by decide +kernel
theorem dX11_line_65 : decode cX11_line 65 = .ok (.iload_n 2, 1) := by decide +kernel
theorem dX11_line_66 : decode cX11_line 66 = .ok (.iaload, 1) := by decide +kernel
theorem dX11_line_67 : decode cX11_line 67 = .ok (.invokevirtual 319, 3) := by decide +kernel
theorem dX11_line_70 : decode cX11_line 70 = .ok (.istore 4, 2) := by decide +kernel
theorem dX11_line_72 : decode cX11_line 72 = .ok (.goto (-51), 3) := by decide +kernel
theorem dX11_line_75 : decode cX11_line 75 = .ok (.iload_n 3, 1) := by decide +kernel
theorem dX11_line_76 : decode cX11_line 76 = .ok (.ireturn, 1) := by decide +kernel
theorem dX11_lines_0 : decode cX11_lines 0 = .ok (.iconst 0, 1) := by decide +kernel
theorem dX11_lines_1 : decode cX11_lines 1 = .ok (.istore 4, 2) := by decide +kernel
theorem dX11_lines_3 : decode cX11_lines 3 = .ok (.iload_n 2, 1) := by decide +kernel
theorem dX11_lines_4 : decode cX11_lines 4 = .ok (.istore 5, 2) := by decide +kernel
theorem dX11_lines_6 : decode cX11_lines 6 = .ok (.iload 5, 2) := by decide +kernel
theorem dX11_lines_8 : decode cX11_lines 8 = .ok (.iload_n 3, 1) := by decide +kernel
theorem dX11_lines_9 : decode cX11_lines 9 = .ok (.if_icmp .ge 21, 3) := by decide +kernel
theorem dX11_lines_12 : decode cX11_lines 12 = .ok (.iload 4, 2) := by decide +kernel
theorem dX11_lines_14 : decode cX11_lines 14 = .ok (.aload_n 0, 1) := by decide +kernel
theorem dX11_lines_15 : decode cX11_lines 15 = .ok (.iload_n 1, 1) := by decide +kernel
theorem dX11_lines_16 : decode cX11_lines 16 = .ok (.iload 5, 2) := by decide +kernel
theorem dX11_lines_18 : decode cX11_lines 18 = .ok (.invokevirtual 326, 3) := by decide +kernel
theorem dX11_lines_21 : decode cX11_lines 21 = .ok (.ior, 1) := by decide +kernel
theorem dX11_lines_22 : decode cX11_lines 22 = .ok (.istore 4, 2) := by decide +kernel
theorem dX11_lines_24 : decode cX11_lines 24 = .ok (.iinc 5 1, 3) := by decide +kernel
theorem dX11_lines_27 : decode cX11_lines 27 = .ok (.goto (-21), 3) := by decide +kernel
theorem dX11_lines_30 : decode cX11_lines 30 = .ok (.iload 4, 2) := by decide +kernel
theorem dX11_lines_32 : decode cX11_lines 32 = .ok (.ireturn, 1) := by decide +kernel
theorem dX11_one_0 : decode cX11_one 0 = .ok (.aload_n 0, 1) := by decide +kernel
theorem dX11_one_1 : decode cX11_one 1 = .ok (.iload_n 1, 1) := by decide +kernel
theorem dX11_one_2 : decode cX11_one 2 = .ok (.iload_n 2, 1) := by decide +kernel
theorem dX11_one_3 : decode cX11_one 3 = .ok (.iload_n 3, 1) := by decide +kernel
theorem dX11_one_4 : decode cX11_one 4 = .ok (.invokevirtual 319, 3) := by decide +kernel
theorem dX11_one_7 : decode cX11_one 7 = .ok (.istore 4, 2) := by decide +kernel
theorem dX11_one_9 : decode cX11_one 9 = .ok (.iload 4, 2) := by decide +kernel
theorem dX11_one_11 : decode cX11_one 11 = .ok (.ifCond .lt 22, 3) := by decide +kernel
theorem dX11_one_14 : decode cX11_one 14 = .ok (.iload 4, 2) := by decide +kernel
theorem dX11_one_16 : decode cX11_one 16 = .ok (.iload_n 1, 1) := by decide +kernel
theorem dX11_one_17 : decode cX11_one 17 = .ok (.if_icmp .eq 16, 3) := by decide +kernel
theorem dX11_one_20 : decode cX11_one 20 = .ok (.aload_n 0, 1) := by decide +kernel
theorem dX11_one_21 : decode cX11_one 21 = .ok (.aload_n 0, 1) := by decide +kernel
theorem dX11_one_22 : decode cX11_one 22 = .ok (.getfield 16, 3) := by decide +kernel
theorem dX11_one_25 : decode cX11_one 25 = .ok (.iload 4, 2) := by decide +kernel
theorem dX11_one_27 : decode cX11_one 27 = .ok (.invokevirtual 323, 3) := by decide +kernel
theorem dX11_one_30 : decode cX11_one 30 = .ok (.ifCond .eq 7, 3) := by decide +kernel
theorem dX11_one_33 : decode cX11_one 33 = .ok (.iconst 0, 1) := by decide +kernel
theorem dX11_one_34 : decode cX11_one 34 = .ok (.goto 7, 3) := by decide +kernel
theorem dX11_one_37 : decode cX11_one 37 = .ok (.iconst 1, 1) := by decide +kernel
theorem dX11_one_38 : decode cX11_one 38 = .ok (.iload 4, 2) := by decide +kernel
theorem dX11_one_40 : decode cX11_one 40 = .ok (.ishl, 1) := by decide +kernel
theorem dX11_one_41 : decode cX11_one 41 = .ok (.ireturn, 1) := by decide +kernel
theorem dX11_nextTo_0 : decode cX11_nextTo 0 = .ok (.iconst 0, 1) := by decide +kernel
theorem dX11_nextTo_1 : decode cX11_nextTo 1 = .ok (.istore_n 3, 1) := by decide +kernel
theorem dX11_nextTo_2 : decode cX11_nextTo 2 = .ok (.iconst 0, 1) := by decide +kernel
theorem dX11_nextTo_3 : decode cX11_nextTo 3 = .ok (.istore 4, 2) := by decide +kernel
theorem dX11_nextTo_5 : decode cX11_nextTo 5 = .ok (.iload 4, 2) := by decide +kernel
theorem dX11_nextTo_7 : decode cX11_nextTo 7 = .ok (.bipush 8, 2) := by decide +kernel
theorem dX11_nextTo_9 : decode cX11_nextTo 9 = .ok (.if_icmp .ge 57, 3) := by decide +kernel
theorem dX11_nextTo_12 : decode cX11_nextTo 12 = .ok (.aload_n 0, 1) := by decide +kernel
theorem dX11_nextTo_13 : decode cX11_nextTo 13 = .ok (.getfield 26, 3) := by decide +kernel
theorem dX11_nextTo_16 : decode cX11_nextTo 16 = .ok (.iload_n 1, 1) := by decide +kernel
theorem dX11_nextTo_17 : decode cX11_nextTo 17 = .ok (.iaload, 1) := by decide +kernel
theorem dX11_nextTo_18 : decode cX11_nextTo 18 = .ok (.iconst 3, 1) := by decide +kernel
theorem dX11_nextTo_19 : decode cX11_nextTo 19 = .ok (.if_icmp .eq 19, 3) := by decide +kernel
theorem dX11_nextTo_22 : decode cX11_nextTo 22 = .ok (.aload_n 0, 1) := by decide +kernel
theorem dX11_nextTo_23 : decode cX11_nextTo 23 = .ok (.getfield 33, 3) := by decide +kernel
theorem dX11_nextTo_26 : decode cX11_nextTo 26 = .ok (.bipush 8, 2) := by decide +kernel
theorem dX11_nextTo_28 : decode cX11_nextTo 28 = .ok (.iload_n 1, 1) := by decide +kernel
theorem dX11_nextTo_29 : decode cX11_nextTo 29 = .ok (.imul, 1) := by decide +kernel
theorem dX11_nextTo_30 : decode cX11_nextTo 30 = .ok (.iload 4, 2) := by decide +kernel
theorem dX11_nextTo_32 : decode cX11_nextTo 32 = .ok (.iadd, 1) := by decide +kernel
theorem dX11_nextTo_33 : decode cX11_nextTo 33 = .ok (.iaload, 1) := by decide +kernel
theorem dX11_nextTo_34 : decode cX11_nextTo 34 = .ok (.iconst 1, 1) := by decide +kernel
theorem dX11_nextTo_35 : decode cX11_nextTo 35 = .ok (.if_icmp .ne 25, 3) := by decide +kernel
theorem dX11_nextTo_38 : decode cX11_nextTo 38 = .ok (.iload_n 3, 1) := by decide +kernel
theorem dX11_nextTo_39 : decode cX11_nextTo 39 = .ok (.aload_n 0, 1) := by decide +kernel
theorem dX11_nextTo_40 : decode cX11_nextTo 40 = .ok (.iload_n 2, 1) := by decide +kernel
theorem dX11_nextTo_41 : decode cX11_nextTo 41 = .ok (.aload_n 0, 1) := by decide +kernel
theorem dX11_nextTo_42 : decode cX11_nextTo 42 = .ok (.getfield 94, 3) := by decide +kernel
theorem dX11_nextTo_45 : decode cX11_nextTo 45 = .ok (.iload 4, 2) := by decide +kernel
theorem dX11_nextTo_47 : decode cX11_nextTo 47 = .ok (.iaload, 1) := by decide +kernel
theorem dX11_nextTo_48 : decode cX11_nextTo 48 = .ok (.aload_n 0, 1) := by decide +kernel
theorem dX11_nextTo_49 : decode cX11_nextTo 49 = .ok (.getfield 97, 3) := by decide +kernel
theorem dX11_nextTo_52 : decode cX11_nextTo 52 = .ok (.iload 4, 2) := by decide +kernel
theorem dX11_nextTo_54 : decode cX11_nextTo 54 = .ok (.iaload, 1) := by decide +kernel
theorem dX11_nextTo_55 : decode cX11_nextTo 55 = .ok (.invokevirtual 329, 3) := by decide +kernel
theorem dX11_nextTo_58 : decode cX11_nextTo 58 = .ok (.ior, 1) := by decide +kernel
theorem dX11_nextTo_59 : decode cX11_nextTo 59 = .ok (.istore_n 3, 1) := by decide +kernel
theorem dX11_nextTo_60 : decode cX11_nextTo 60 = .ok (.iinc 4 1, 3) := by decide +kernel
theorem dX11_nextTo_63 : decode cX11_nextTo 63 = .ok (.goto (-58), 3) := by decide +kernel
theorem dX11_nextTo_66 : decode cX11_nextTo 66 = .ok (.iload_n 3, 1) := by decide +kernel
theorem dX11_nextTo_67 : decode cX11_nextTo 67 = .ok (.ireturn, 1) := by decide +kernel
theorem dX11_leaps_0 : decode cX11_leaps 0 = .ok (.iconst 0, 1) := by decide +kernel
theorem dX11_leaps_1 : decode cX11_leaps 1 = .ok (.istore_n 2, 1) := by decide +kernel
theorem dX11_leaps_2 : decode cX11_leaps 2 = .ok (.iconst 4, 1) := by decide +kernel
theorem dX11_leaps_3 : decode cX11_leaps 3 = .ok (.istore_n 3, 1) := by decide +kernel
theorem dX11_leaps_4 : decode cX11_leaps 4 = .ok (.iload_n 3, 1) := by decide +kernel
theorem dX11_leaps_5 : decode cX11_leaps 5 = .ok (.bipush 8, 2) := by decide +kernel
theorem dX11_leaps_7 : decode cX11_leaps 7 = .ok (.if_icmp .ge 51, 3) := by decide +kernel
theorem dX11_leaps_10 : decode cX11_leaps 10 = .ok (.iload_n 2, 1) := by decide +kernel
theorem dX11_leaps_11 : decode cX11_leaps 11 = .ok (.aload_n 0, 1) := by decide +kernel
theorem dX11_leaps_12 : decode cX11_leaps 12 = .ok (.iload_n 1, 1) := by decide +kernel
theorem dX11_leaps_13 : decode cX11_leaps 13 = .ok (.aload_n 0, 1) := by decide +kernel
theorem dX11_leaps_14 : decode cX11_leaps 14 = .ok (.getfield 94, 3) := by decide +kernel
theorem dX11_leaps_17 : decode cX11_leaps 17 = .ok (.iload_n 3, 1) := by decide +kernel
theorem dX11_leaps_18 : decode cX11_leaps 18 = .ok (.iaload, 1) := by decide +kernel
theorem dX11_leaps_19 : decode cX11_leaps 19 = .ok (.iconst 2, 1) := by decide +kernel
theorem dX11_leaps_20 : decode cX11_leaps 20 = .ok (.aload_n 0, 1) := by decide +kernel
theorem dX11_leaps_21 : decode cX11_leaps 21 = .ok (.getfield 97, 3) := by decide +kernel
theorem dX11_leaps_24 : decode cX11_leaps 24 = .ok (.iload_n 3, 1) := by decide +kernel
theorem dX11_leaps_25 : decode cX11_leaps 25 = .ok (.iaload, 1) := by decide +kernel
theorem dX11_leaps_26 : decode cX11_leaps 26 = .ok (.imul, 1) := by decide +kernel
theorem dX11_leaps_27 : decode cX11_leaps 27 = .ok (.invokevirtual 329, 3) := by decide +kernel
theorem dX11_leaps_30 : decode cX11_leaps 30 = .ok (.aload_n 0, 1) := by decide +kernel
theorem dX11_leaps_31 : decode cX11_leaps 31 = .ok (.iload_n 1, 1) := by decide +kernel
theorem dX11_leaps_32 : decode cX11_leaps 32 = .ok (.iconst 2, 1) := by decide +kernel
theorem dX11_leaps_33 : decode cX11_leaps 33 = .ok (.aload_n 0, 1) := by decide +kernel
theorem dX11_leaps_34 : decode cX11_leaps 34 = .ok (.getfield 94, 3) := by decide +kernel
theorem dX11_leaps_37 : decode cX11_leaps 37 = .ok (.iload_n 3, 1) := by decide +kernel
theorem dX11_leaps_38 : decode cX11_leaps 38 = .ok (.iaload, 1) := by decide +kernel
theorem dX11_leaps_39 : decode cX11_leaps 39 = .ok (.imul, 1) := by decide +kernel
theorem dX11_leaps_40 : decode cX11_leaps 40 = .ok (.aload_n 0, 1) := by decide +kernel
theorem dX11_leaps_41 : decode cX11_leaps 41 = .ok (.getfield 97, 3) := by decide +kernel
theorem dX11_leaps_44 : decode cX11_leaps 44 = .ok (.iload_n 3, 1) := by decide +kernel
theorem dX11_leaps_45 : decode cX11_leaps 45 = .ok (.iaload, 1) := by decide +kernel
theorem dX11_leaps_46 : decode cX11_leaps 46 = .ok (.invokevirtual 329, 3) := by decide +kernel
theorem dX11_leaps_49 : decode cX11_leaps 49 = .ok (.ior, 1) := by decide +kernel
theorem dX11_leaps_50 : decode cX11_leaps 50 = .ok (.ior, 1) := by decide +kernel
theorem dX11_leaps_51 : decode cX11_leaps 51 = .ok (.istore_n 2, 1) := by decide +kernel
theorem dX11_leaps_52 : decode cX11_leaps 52 = .ok (.iinc 3 1, 3) := by decide +kernel
theorem dX11_leaps_55 : decode cX11_leaps 55 = .ok (.goto (-51), 3) := by decide +kernel
theorem dX11_leaps_58 : decode cX11_leaps 58 = .ok (.iload_n 2, 1) := by decide +kernel
theorem dX11_leaps_59 : decode cX11_leaps 59 = .ok (.ireturn, 1) := by decide +kernel
theorem dX11_seesOf_0 : decode cX11_seesOf 0 = .ok (.aload_n 0, 1) := by decide +kernel
theorem dX11_seesOf_1 : decode cX11_seesOf 1 = .ok (.getfield 26, 3) := by decide +kernel
theorem dX11_seesOf_4 : decode cX11_seesOf 4 = .ok (.iload_n 1, 1) := by decide +kernel
theorem dX11_seesOf_5 : decode cX11_seesOf 5 = .ok (.iaload, 1) := by decide +kernel
theorem dX11_seesOf_6 : decode cX11_seesOf 6 = .ok (.tableswitch 98 1 6 #[38, 46, 55, 62, 71, 55], 38) := by decide +kernel
theorem dX11_seesOf_44 : decode cX11_seesOf 44 = .ok (.aload_n 0, 1) := by decide +kernel
theorem dX11_seesOf_45 : decode cX11_seesOf 45 = .ok (.iload_n 2, 1) := by decide +kernel
theorem dX11_seesOf_46 : decode cX11_seesOf 46 = .ok (.iconst 0, 1) := by decide +kernel
theorem dX11_seesOf_47 : decode cX11_seesOf 47 = .ok (.iconst 4, 1) := by decide +kernel
theorem dX11_seesOf_48 : decode cX11_seesOf 48 = .ok (.invokevirtual 332, 3) := by decide +kernel
theorem dX11_seesOf_51 : decode cX11_seesOf 51 = .ok (.ireturn, 1) := by decide +kernel
theorem dX11_seesOf_52 : decode cX11_seesOf 52 = .ok (.aload_n 0, 1) := by decide +kernel
theorem dX11_seesOf_53 : decode cX11_seesOf 53 = .ok (.iload_n 2, 1) := by decide +kernel
theorem dX11_seesOf_54 : decode cX11_seesOf 54 = .ok (.iconst 4, 1) := by decide +kernel
theorem dX11_seesOf_55 : decode cX11_seesOf 55 = .ok (.bipush 8, 2) := by decide +kernel
theorem dX11_seesOf_57 : decode cX11_seesOf 57 = .ok (.invokevirtual 332, 3) := by decide +kernel
theorem dX11_seesOf_60 : decode cX11_seesOf 60 = .ok (.ireturn, 1) := by decide +kernel
theorem dX11_seesOf_61 : decode cX11_seesOf 61 = .ok (.aload_n 0, 1) := by decide +kernel
theorem dX11_seesOf_62 : decode cX11_seesOf 62 = .ok (.iload_n 1, 1) := by decide +kernel
theorem dX11_seesOf_63 : decode cX11_seesOf 63 = .ok (.iload_n 2, 1) := by decide +kernel
theorem dX11_seesOf_64 : decode cX11_seesOf 64 = .ok (.invokevirtual 335, 3) := by decide +kernel
theorem dX11_seesOf_67 : decode cX11_seesOf 67 = .ok (.ireturn, 1) := by decide +kernel
theorem dX11_seesOf_68 : decode cX11_seesOf 68 = .ok (.aload_n 0, 1) := by decide +kernel
theorem dX11_seesOf_69 : decode cX11_seesOf 69 = .ok (.iload_n 2, 1) := by decide +kernel
theorem dX11_seesOf_70 : decode cX11_seesOf 70 = .ok (.iconst 0, 1) := by decide +kernel
theorem dX11_seesOf_71 : decode cX11_seesOf 71 = .ok (.bipush 8, 2) := by decide +kernel
theorem dX11_seesOf_73 : decode cX11_seesOf 73 = .ok (.invokevirtual 332, 3) := by decide +kernel
theorem dX11_seesOf_76 : decode cX11_seesOf 76 = .ok (.ireturn, 1) := by decide +kernel
theorem dX11_seesOf_77 : decode cX11_seesOf 77 = .ok (.aload_n 0, 1) := by decide +kernel
theorem dX11_seesOf_78 : decode cX11_seesOf 78 = .ok (.getfield 30, 3) := by decide +kernel
theorem dX11_seesOf_81 : decode cX11_seesOf 81 = .ok (.iload_n 1, 1) := by decide +kernel
theorem dX11_seesOf_82 : decode cX11_seesOf 82 = .ok (.iaload, 1) := by decide +kernel
theorem dX11_seesOf_83 : decode cX11_seesOf 83 = .ok (.iconst 5, 1) := by decide +kernel
theorem dX11_seesOf_84 : decode cX11_seesOf 84 = .ok (.if_icmp .ge 14, 3) := by decide +kernel
theorem dX11_seesOf_87 : decode cX11_seesOf 87 = .ok (.aload_n 0, 1) := by decide +kernel
theorem dX11_seesOf_88 : decode cX11_seesOf 88 = .ok (.iload_n 2, 1) := by decide +kernel
theorem dX11_seesOf_89 : decode cX11_seesOf 89 = .ok (.iconst 4, 1) := by decide +kernel
theorem dX11_seesOf_90 : decode cX11_seesOf 90 = .ok (.bipush 8, 2) := by decide +kernel
theorem dX11_seesOf_92 : decode cX11_seesOf 92 = .ok (.invokevirtual 332, 3) := by decide +kernel
theorem dX11_seesOf_95 : decode cX11_seesOf 95 = .ok (.goto 8, 3) := by decide +kernel
theorem dX11_seesOf_98 : decode cX11_seesOf 98 = .ok (.aload_n 0, 1) := by decide +kernel
theorem dX11_seesOf_99 : decode cX11_seesOf 99 = .ok (.iload_n 2, 1) := by decide +kernel
theorem dX11_seesOf_100 : decode cX11_seesOf 100 = .ok (.invokevirtual 338, 3) := by decide +kernel
theorem dX11_seesOf_103 : decode cX11_seesOf 103 = .ok (.ireturn, 1) := by decide +kernel
theorem dX11_seesOf_104 : decode cX11_seesOf 104 = .ok (.iconst 0, 1) := by decide +kernel
theorem dX11_seesOf_105 : decode cX11_seesOf 105 = .ok (.ireturn, 1) := by decide +kernel
theorem dX11_sees_0 : decode cX11_sees 0 = .ok (.aload_n 0, 1) := by decide +kernel
theorem dX11_sees_1 : decode cX11_sees 1 = .ok (.iload_n 1, 1) := by decide +kernel
theorem dX11_sees_2 : decode cX11_sees 2 = .ok (.invokevirtual 234, 3) := by decide +kernel
theorem dX11_sees_5 : decode cX11_sees 5 = .ok (.ifCond .eq 20, 3) := by decide +kernel
theorem dX11_sees_8 : decode cX11_sees 8 = .ok (.aload_n 0, 1) := by decide +kernel
theorem dX11_sees_9 : decode cX11_sees 9 = .ok (.iload_n 2, 1) := by decide +kernel
theorem dX11_sees_10 : decode cX11_sees 10 = .ok (.invokevirtual 341, 3) := by decide +kernel
theorem dX11_sees_13 : decode cX11_sees 13 = .ok (.ifCond .eq 12, 3) := by decide +kernel
theorem dX11_sees_16 : decode cX11_sees 16 = .ok (.aload_n 0, 1) := by decide +kernel
theorem dX11_sees_17 : decode cX11_sees 17 = .ok (.iload_n 1, 1) := by decide +kernel
theorem dX11_sees_18 : decode cX11_sees 18 = .ok (.iload_n 2, 1) := by decide +kernel
theorem dX11_sees_19 : decode cX11_sees 19 = .ok (.invokevirtual 344, 3) := by decide +kernel
theorem dX11_sees_22 : decode cX11_sees 22 = .ok (.goto 4, 3) := by decide +kernel
theorem dX11_sees_25 : decode cX11_sees 25 = .ok (.iconst (-1), 1) := by decide +kernel
theorem dX11_sees_26 : decode cX11_sees 26 = .ok (.ireturn, 1) := by decide +kernel
theorem dX11_seersOf_0 : decode cX11_seersOf 0 = .ok (.iconst 0, 1) := by decide +kernel
theorem dX11_seersOf_1 : decode cX11_seersOf 1 = .ok (.istore_n 2, 1) := by decide +kernel
theorem dX11_seersOf_2 : decode cX11_seersOf 2 = .ok (.iconst 0, 1) := by decide +kernel
theorem dX11_seersOf_3 : decode cX11_seersOf 3 = .ok (.istore_n 3, 1) := by decide +kernel
theorem dX11_seersOf_4 : decode cX11_seersOf 4 = .ok (.iload_n 3, 1) := by decide +kernel
theorem dX11_seersOf_5 : decode cX11_seersOf 5 = .ok (.aload_n 0, 1) := by decide +kernel
theorem dX11_seersOf_6 : decode cX11_seersOf 6 = .ok (.getfield 13, 3) := by decide +kernel
theorem dX11_seersOf_9 : decode cX11_seersOf 9 = .ok (.aload_n 0, 1) := by decide +kernel
theorem dX11_seersOf_10 : decode cX11_seersOf 10 = .ok (.getfield 13, 3) := by decide +kernel
theorem dX11_seersOf_13 : decode cX11_seersOf 13 = .ok (.imul, 1) := by decide +kernel
theorem dX11_seersOf_14 : decode cX11_seersOf 14 = .ok (.if_icmp .ge 47, 3) := by decide +kernel
theorem dX11_seersOf_17 : decode cX11_seersOf 17 = .ok (.iload_n 2, 1) := by decide +kernel
theorem dX11_seersOf_18 : decode cX11_seersOf 18 = .ok (.aload_n 0, 1) := by decide +kernel
theorem dX11_seersOf_19 : decode cX11_seersOf 19 = .ok (.getfield 36, 3) := by decide +kernel
theorem dX11_seersOf_22 : decode cX11_seersOf 22 = .ok (.iload_n 3, 1) := by decide +kernel
theorem dX11_seersOf_23 : decode cX11_seersOf 23 = .ok (.iaload, 1) := by decide +kernel
theorem dX11_seersOf_24 : decode cX11_seersOf 24 = .ok (.ifCond .lt 28, 3) := by decide +kernel
theorem dX11_seersOf_27 : decode cX11_seersOf 27 = .ok (.aload_n 0, 1) := by decide +kernel
theorem dX11_seersOf_28 : decode cX11_seersOf 28 = .ok (.aload_n 0, 1) := by decide +kernel
theorem dX11_seersOf_29 : decode cX11_seersOf 29 = .ok (.aload_n 0, 1) := by decide +kernel
theorem dX11_seersOf_30 : decode cX11_seersOf 30 = .ok (.getfield 36, 3) := by decide +kernel
theorem dX11_seersOf_33 : decode cX11_seersOf 33 = .ok (.iload_n 3, 1) := by decide +kernel
theorem dX11_seersOf_34 : decode cX11_seersOf 34 = .ok (.iaload, 1) := by decide +kernel
theorem dX11_seersOf_35 : decode cX11_seersOf 35 = .ok (.iload_n 3, 1) := by decide +kernel
theorem dX11_seersOf_36 : decode cX11_seersOf 36 = .ok (.invokevirtual 344, 3) := by decide +kernel
theorem dX11_seersOf_39 : decode cX11_seersOf 39 = .ok (.iload_n 1, 1) := by decide +kernel
theorem dX11_seersOf_40 : decode cX11_seersOf 40 = .ok (.invokevirtual 323, 3) := by decide +kernel
theorem dX11_seersOf_43 : decode cX11_seersOf 43 = .ok (.ifCond .eq 9, 3) := by decide +kernel
theorem dX11_seersOf_46 : decode cX11_seersOf 46 = .ok (.iconst 1, 1) := by decide +kernel
theorem dX11_seersOf_47 : decode cX11_seersOf 47 = .ok (.iload_n 3, 1) := by decide +kernel
theorem dX11_seersOf_48 : decode cX11_seersOf 48 = .ok (.ishl, 1) := by decide +kernel
theorem dX11_seersOf_49 : decode cX11_seersOf 49 = .ok (.goto 4, 3) := by decide +kernel
theorem dX11_seersOf_52 : decode cX11_seersOf 52 = .ok (.iconst 0, 1) := by decide +kernel
theorem dX11_seersOf_53 : decode cX11_seersOf 53 = .ok (.ior, 1) := by decide +kernel
theorem dX11_seersOf_54 : decode cX11_seersOf 54 = .ok (.istore_n 2, 1) := by decide +kernel
theorem dX11_seersOf_55 : decode cX11_seersOf 55 = .ok (.iinc 3 1, 3) := by decide +kernel
theorem dX11_seersOf_58 : decode cX11_seersOf 58 = .ok (.goto (-54), 3) := by decide +kernel
theorem dX11_seersOf_61 : decode cX11_seersOf 61 = .ok (.iload_n 2, 1) := by decide +kernel
theorem dX11_seersOf_62 : decode cX11_seersOf 62 = .ok (.ireturn, 1) := by decide +kernel
theorem dX11_isFit_0 : decode cX11_isFit 0 = .ok (.aload_n 0, 1) := by decide +kernel
theorem dX11_isFit_1 : decode cX11_isFit 1 = .ok (.iload_n 2, 1) := by decide +kernel
theorem dX11_isFit_2 : decode cX11_isFit 2 = .ok (.invokevirtual 347, 3) := by decide +kernel
theorem dX11_isFit_5 : decode cX11_isFit 5 = .ok (.ifCond .ne 21, 3) := by decide +kernel
theorem dX11_isFit_8 : decode cX11_isFit 8 = .ok (.aload_n 0, 1) := by decide +kernel
theorem dX11_isFit_9 : decode cX11_isFit 9 = .ok (.iload_n 1, 1) := by decide +kernel
theorem dX11_isFit_10 : decode cX11_isFit 10 = .ok (.iload_n 2, 1) := by decide +kernel
theorem dX11_isFit_11 : decode cX11_isFit 11 = .ok (.invokevirtual 344, 3) := by decide +kernel
theorem dX11_isFit_14 : decode cX11_isFit 14 = .ok (.aload_n 0, 1) := by decide +kernel
theorem dX11_isFit_15 : decode cX11_isFit 15 = .ok (.invokevirtual 238, 3) := by decide +kernel
theorem dX11_isFit_18 : decode cX11_isFit 18 = .ok (.iand, 1) := by decide +kernel
theorem dX11_isFit_19 : decode cX11_isFit 19 = .ok (.ifCond .ne 7, 3) := by decide +kernel
theorem dX11_isFit_22 : decode cX11_isFit 22 = .ok (.iconst 1, 1) := by decide +kernel
theorem dX11_isFit_23 : decode cX11_isFit 23 = .ok (.goto 4, 3) := by decide +kernel
theorem dX11_isFit_26 : decode cX11_isFit 26 = .ok (.iconst 0, 1) := by decide +kernel
theorem dX11_isFit_27 : decode cX11_isFit 27 = .ok (.ireturn, 1) := by decide +kernel
theorem dX11_mayBe_0 : decode cX11_mayBe 0 = .ok (.aload_n 0, 1) := by decide +kernel
theorem dX11_mayBe_1 : decode cX11_mayBe 1 = .ok (.getfield 36, 3) := by decide +kernel
theorem dX11_mayBe_4 : decode cX11_mayBe 4 = .ok (.iload_n 1, 1) := by decide +kernel
theorem dX11_mayBe_5 : decode cX11_mayBe 5 = .ok (.iaload, 1) := by decide +kernel
theorem dX11_mayBe_6 : decode cX11_mayBe 6 = .ok (.ifCond .ge 19, 3) := by decide +kernel
theorem dX11_mayBe_9 : decode cX11_mayBe 9 = .ok (.aload_n 0, 1) := by decide +kernel
theorem dX11_mayBe_10 : decode cX11_mayBe 10 = .ok (.aload_n 0, 1) := by decide +kernel
theorem dX11_mayBe_11 : decode cX11_mayBe 11 = .ok (.getfield 19, 3) := by decide +kernel
theorem dX11_mayBe_14 : decode cX11_mayBe 14 = .ok (.iload_n 1, 1) := by decide +kernel
theorem dX11_mayBe_15 : decode cX11_mayBe 15 = .ok (.invokevirtual 323, 3) := by decide +kernel
theorem dX11_mayBe_18 : decode cX11_mayBe 18 = .ok (.ifCond .ne 7, 3) := by decide +kernel
theorem dX11_mayBe_21 : decode cX11_mayBe 21 = .ok (.iconst 1, 1) := by decide +kernel
theorem dX11_mayBe_22 : decode cX11_mayBe 22 = .ok (.goto 4, 3) := by decide +kernel
theorem dX11_mayBe_25 : decode cX11_mayBe 25 = .ok (.iconst 0, 1) := by decide +kernel
theorem dX11_mayBe_26 : decode cX11_mayBe 26 = .ok (.ireturn, 1) := by decide +kernel
theorem dX11_quarrels_0 : decode cX11_quarrels 0 = .ok (.aload_n 0, 1) := by decide +kernel
theorem dX11_quarrels_1 : decode cX11_quarrels 1 = .ok (.aload_n 0, 1) := by decide +kernel
theorem dX11_quarrels_2 : decode cX11_quarrels 2 = .ok (.getfield 36, 3) := by decide +kernel
theorem dX11_quarrels_5 : decode cX11_quarrels 5 = .ok (.iload_n 1, 1) := by decide +kernel
theorem dX11_quarrels_6 : decode cX11_quarrels 6 = .ok (.iaload, 1) := by decide +kernel
theorem dX11_quarrels_7 : decode cX11_quarrels 7 = .ok (.iload_n 1, 1) := by decide +kernel
theorem dX11_quarrels_8 : decode cX11_quarrels 8 = .ok (.invokevirtual 344, 3) := by decide +kernel
theorem dX11_quarrels_11 : decode cX11_quarrels 11 = .ok (.aload_n 0, 1) := by decide +kernel
theorem dX11_quarrels_12 : decode cX11_quarrels 12 = .ok (.iload_n 1, 1) := by decide +kernel
theorem dX11_quarrels_13 : decode cX11_quarrels 13 = .ok (.invokevirtual 347, 3) := by decide +kernel
theorem dX11_quarrels_16 : decode cX11_quarrels 16 = .ok (.ior, 1) := by decide +kernel
theorem dX11_quarrels_17 : decode cX11_quarrels 17 = .ok (.aload_n 0, 1) := by decide +kernel
theorem dX11_quarrels_18 : decode cX11_quarrels 18 = .ok (.invokevirtual 238, 3) := by decide +kernel
theorem dX11_quarrels_21 : decode cX11_quarrels 21 = .ok (.iand, 1) := by decide +kernel
theorem dX11_quarrels_22 : decode cX11_quarrels 22 = .ok (.iconst 1, 1) := by decide +kernel
theorem dX11_quarrels_23 : decode cX11_quarrels 23 = .ok (.iload_n 1, 1) := by decide +kernel
theorem dX11_quarrels_24 : decode cX11_quarrels 24 = .ok (.ishl, 1) := by decide +kernel
theorem dX11_quarrels_25 : decode cX11_quarrels 25 = .ok (.iconst (-1), 1) := by decide +kernel
theorem dX11_quarrels_26 : decode cX11_quarrels 26 = .ok (.ixor, 1) := by decide +kernel
theorem dX11_quarrels_27 : decode cX11_quarrels 27 = .ok (.iand, 1) := by decide +kernel
theorem dX11_quarrels_28 : decode cX11_quarrels 28 = .ok (.ireturn, 1) := by decide +kernel
theorem dX11_isPeace_0 : decode cX11_isPeace 0 = .ok (.iconst 0, 1) := by decide +kernel
theorem dX11_isPeace_1 : decode cX11_isPeace 1 = .ok (.istore_n 1, 1) := by decide +kernel
theorem dX11_isPeace_2 : decode cX11_isPeace 2 = .ok (.iload_n 1, 1) := by decide +kernel
theorem dX11_isPeace_3 : decode cX11_isPeace 3 = .ok (.aload_n 0, 1) := by decide +kernel
theorem dX11_isPeace_4 : decode cX11_isPeace 4 = .ok (.getfield 13, 3) := by decide +kernel
theorem dX11_isPeace_7 : decode cX11_isPeace 7 = .ok (.aload_n 0, 1) := by decide +kernel
theorem dX11_isPeace_8 : decode cX11_isPeace 8 = .ok (.getfield 13, 3) := by decide +kernel
theorem dX11_isPeace_11 : decode cX11_isPeace 11 = .ok (.imul, 1) := by decide +kernel
theorem dX11_isPeace_12 : decode cX11_isPeace 12 = .ok (.if_icmp .ge 28, 3) := by decide +kernel
theorem dX11_isPeace_15 : decode cX11_isPeace 15 = .ok (.aload_n 0, 1) := by decide +kernel
theorem dX11_isPeace_16 : decode cX11_isPeace 16 = .ok (.getfield 36, 3) := by decide +kernel
theorem dX11_isPeace_19 : decode cX11_isPeace 19 = .ok (.iload_n 1, 1) := by decide +kernel
theorem dX11_isPeace_20 : decode cX11_isPeace 20 = .ok (.iaload, 1) := by decide +kernel
theorem dX11_isPeace_21 : decode cX11_isPeace 21 = .ok (.ifCond .lt 13, 3) := by decide +kernel
theorem dX11_isPeace_24 : decode cX11_isPeace 24 = .ok (.aload_n 0, 1) := by decide +kernel
theorem dX11_isPeace_25 : decode cX11_isPeace 25 = .ok (.iload_n 1, 1) := by decide +kernel
theorem dX11_isPeace_26 : decode cX11_isPeace 26 = .ok (.invokevirtual 350, 3) := by decide +kernel
theorem dX11_isPeace_29 : decode cX11_isPeace 29 = .ok (.ifCond .eq 5, 3) := by decide +kernel
theorem dX11_isPeace_32 : decode cX11_isPeace 32 = .ok (.iconst 0, 1) := by decide +kernel
theorem dX11_isPeace_33 : decode cX11_isPeace 33 = .ok (.ireturn, 1) := by decide +kernel
theorem dX11_isPeace_34 : decode cX11_isPeace 34 = .ok (.iinc 1 1, 3) := by decide +kernel
theorem dX11_isPeace_37 : decode cX11_isPeace 37 = .ok (.goto (-35), 3) := by decide +kernel
theorem dX11_isPeace_40 : decode cX11_isPeace 40 = .ok (.iconst 1, 1) := by decide +kernel
theorem dX11_isPeace_41 : decode cX11_isPeace 41 = .ok (.ireturn, 1) := by decide +kernel
theorem dX11_told_0 : decode cX11_told 0 = .ok (.iload_n 1, 1) := by decide +kernel
theorem dX11_told_1 : decode cX11_told 1 = .ok (.tableswitch 98 0 6 #[43, 48, 61, 70, 75, 80, 85], 43) := by decide +kernel
theorem dX11_told_44 : decode cX11_told 44 = .ok (.aload_n 0, 1) := by decide +kernel
theorem dX11_told_45 : decode cX11_told 45 = .ok (.getfield 13, 3) := by decide +kernel
theorem dX11_told_48 : decode cX11_told 48 = .ok (.ireturn, 1) := by decide +kernel
theorem dX11_told_49 : decode cX11_told 49 = .ok (.aload_n 0, 1) := by decide +kernel
theorem dX11_told_50 : decode cX11_told 50 = .ok (.getfield 22, 3) := by decide +kernel
theorem dX11_told_53 : decode cX11_told 53 = .ok (.ifCond .eq 7, 3) := by decide +kernel
theorem dX11_told_56 : decode cX11_told 56 = .ok (.iconst 1, 1) := by decide +kernel
theorem dX11_told_57 : decode cX11_told 57 = .ok (.goto 4, 3) := by decide +kernel
theorem dX11_told_60 : decode cX11_told 60 = .ok (.iconst 0, 1) := by decide +kernel
theorem dX11_told_61 : decode cX11_told 61 = .ok (.ireturn, 1) := by decide +kernel
theorem dX11_told_62 : decode cX11_told 62 = .ok (.aload_n 0, 1) := by decide +kernel
theorem dX11_told_63 : decode cX11_told 63 = .ok (.aload_n 0, 1) := by decide +kernel
theorem dX11_told_64 : decode cX11_told 64 = .ok (.invokevirtual 238, 3) := by decide +kernel
theorem dX11_told_67 : decode cX11_told 67 = .ok (.invokevirtual 242, 3) := by decide +kernel
theorem dX11_told_70 : decode cX11_told 70 = .ok (.ireturn, 1) := by decide +kernel
theorem dX11_told_71 : decode cX11_told 71 = .ok (.aload_n 0, 1) := by decide +kernel
theorem dX11_told_72 : decode cX11_told 72 = .ok (.getfield 16, 3) := by decide +kernel
theorem dX11_told_75 : decode cX11_told 75 = .ok (.ireturn, 1) := by decide +kernel
theorem dX11_told_76 : decode cX11_told 76 = .ok (.aload_n 0, 1) := by decide +kernel
theorem dX11_told_77 : decode cX11_told 77 = .ok (.getfield 19, 3) := by decide +kernel
theorem dX11_told_80 : decode cX11_told 80 = .ok (.ireturn, 1) := by decide +kernel
theorem dX11_told_81 : decode cX11_told 81 = .ok (.aload_n 0, 1) := by decide +kernel
theorem dX11_told_82 : decode cX11_told 82 = .ok (.invokevirtual 238, 3) := by decide +kernel
theorem dX11_told_85 : decode cX11_told 85 = .ok (.ireturn, 1) := by decide +kernel
theorem dX11_told_86 : decode cX11_told 86 = .ok (.aload_n 0, 1) := by decide +kernel
theorem dX11_told_87 : decode cX11_told 87 = .ok (.invokevirtual 353, 3) := by decide +kernel
theorem dX11_told_90 : decode cX11_told 90 = .ok (.ifCond .eq 7, 3) := by decide +kernel
theorem dX11_told_93 : decode cX11_told 93 = .ok (.iconst 1, 1) := by decide +kernel
theorem dX11_told_94 : decode cX11_told 94 = .ok (.goto 4, 3) := by decide +kernel
theorem dX11_told_97 : decode cX11_told 97 = .ok (.iconst 0, 1) := by decide +kernel
theorem dX11_told_98 : decode cX11_told 98 = .ok (.ireturn, 1) := by decide +kernel
theorem dX11_told_99 : decode cX11_told 99 = .ok (.iconst (-1), 1) := by decide +kernel
theorem dX11_told_100 : decode cX11_told 100 = .ok (.ireturn, 1) := by decide +kernel
theorem dX11_set_0 : decode cX11_set 0 = .ok (.aload_n 0, 1) := by decide +kernel
theorem dX11_set_1 : decode cX11_set 1 = .ok (.iload_n 1, 1) := by decide +kernel
theorem dX11_set_2 : decode cX11_set 2 = .ok (.invokevirtual 234, 3) := by decide +kernel
theorem dX11_set_5 : decode cX11_set 5 = .ok (.ifCond .eq 11, 3) := by decide +kernel
theorem dX11_set_8 : decode cX11_set 8 = .ok (.aload_n 0, 1) := by decide +kernel
theorem dX11_set_9 : decode cX11_set 9 = .ok (.iload_n 2, 1) := by decide +kernel
theorem dX11_set_10 : decode cX11_set 10 = .ok (.invokevirtual 341, 3) := by decide +kernel
theorem dX11_set_13 : decode cX11_set 13 = .ok (.ifCond .ne 5, 3) := by decide +kernel
theorem dX11_set_16 : decode cX11_set 16 = .ok (.iconst (-1), 1) := by decide +kernel
theorem dX11_set_17 : decode cX11_set 17 = .ok (.ireturn, 1) := by decide +kernel
theorem dX11_set_18 : decode cX11_set 18 = .ok (.aload_n 0, 1) := by decide +kernel
theorem dX11_set_19 : decode cX11_set 19 = .ok (.iload_n 2, 1) := by decide +kernel
theorem dX11_set_20 : decode cX11_set 20 = .ok (.invokevirtual 356, 3) := by decide +kernel
theorem dX11_set_23 : decode cX11_set 23 = .ok (.ifCond .ne 6, 3) := by decide +kernel
theorem dX11_set_26 : decode cX11_set 26 = .ok (.bipush (-3), 2) := by decide +kernel
theorem dX11_set_28 : decode cX11_set 28 = .ok (.ireturn, 1) := by decide +kernel
theorem dX11_set_29 : decode cX11_set 29 = .ok (.aload_n 0, 1) := by decide +kernel
theorem dX11_set_30 : decode cX11_set 30 = .ok (.iload_n 1, 1) := by decide +kernel
theorem dX11_set_31 : decode cX11_set 31 = .ok (.iload_n 2, 1) := by decide +kernel
theorem dX11_set_32 : decode cX11_set 32 = .ok (.invokevirtual 359, 3) := by decide +kernel
theorem dX11_set_35 : decode cX11_set 35 = .ok (.ifCond .eq 7, 3) := by decide +kernel
theorem dX11_set_38 : decode cX11_set 38 = .ok (.iconst 1, 1) := by decide +kernel
theorem dX11_set_39 : decode cX11_set 39 = .ok (.goto 4, 3) := by decide +kernel
theorem dX11_set_42 : decode cX11_set 42 = .ok (.iconst 0, 1) := by decide +kernel
theorem dX11_set_43 : decode cX11_set 43 = .ok (.istore_n 3, 1) := by decide +kernel
theorem dX11_set_44 : decode cX11_set 44 = .ok (.aload_n 0, 1) := by decide +kernel
theorem dX11_set_45 : decode cX11_set 45 = .ok (.getfield 36, 3) := by decide +kernel
theorem dX11_set_48 : decode cX11_set 48 = .ok (.iload_n 2, 1) := by decide +kernel
theorem dX11_set_49 : decode cX11_set 49 = .ok (.iload_n 1, 1) := by decide +kernel
theorem dX11_set_50 : decode cX11_set 50 = .ok (.iastore, 1) := by decide +kernel
theorem dX11_set_51 : decode cX11_set 51 = .ok (.iload_n 3, 1) := by decide +kernel
theorem dX11_set_52 : decode cX11_set 52 = .ok (.ireturn, 1) := by decide +kernel
theorem dX11_take_0 : decode cX11_take 0 = .ok (.aload_n 0, 1) := by decide +kernel
theorem dX11_take_1 : decode cX11_take 1 = .ok (.iload_n 1, 1) := by decide +kernel
theorem dX11_take_2 : decode cX11_take 2 = .ok (.invokevirtual 341, 3) := by decide +kernel
theorem dX11_take_5 : decode cX11_take 5 = .ok (.ifCond .ne 5, 3) := by decide +kernel
theorem dX11_take_8 : decode cX11_take 8 = .ok (.iconst (-1), 1) := by decide +kernel
theorem dX11_take_9 : decode cX11_take 9 = .ok (.ireturn, 1) := by decide +kernel
theorem dX11_take_10 : decode cX11_take 10 = .ok (.aload_n 0, 1) := by decide +kernel
theorem dX11_take_11 : decode cX11_take 11 = .ok (.getfield 36, 3) := by decide +kernel
theorem dX11_take_14 : decode cX11_take 14 = .ok (.iload_n 1, 1) := by decide +kernel
theorem dX11_take_15 : decode cX11_take 15 = .ok (.iaload, 1) := by decide +kernel
theorem dX11_take_16 : decode cX11_take 16 = .ok (.ifCond .ge 6, 3) := by decide +kernel
theorem dX11_take_19 : decode cX11_take 19 = .ok (.bipush (-3), 2) := by decide +kernel
theorem dX11_take_21 : decode cX11_take 21 = .ok (.ireturn, 1) := by decide +kernel
theorem dX11_take_22 : decode cX11_take 22 = .ok (.aload_n 0, 1) := by decide +kernel
theorem dX11_take_23 : decode cX11_take 23 = .ok (.getfield 36, 3) := by decide +kernel
theorem dX11_take_26 : decode cX11_take 26 = .ok (.iload_n 1, 1) := by decide +kernel
theorem dX11_take_27 : decode cX11_take 27 = .ok (.iaload, 1) := by decide +kernel
theorem dX11_take_28 : decode cX11_take 28 = .ok (.istore_n 2, 1) := by decide +kernel
theorem dX11_take_29 : decode cX11_take 29 = .ok (.aload_n 0, 1) := by decide +kernel
theorem dX11_take_30 : decode cX11_take 30 = .ok (.getfield 36, 3) := by decide +kernel
theorem dX11_take_33 : decode cX11_take 33 = .ok (.iload_n 1, 1) := by decide +kernel
theorem dX11_take_34 : decode cX11_take 34 = .ok (.iconst (-1), 1) := by decide +kernel
theorem dX11_take_35 : decode cX11_take 35 = .ok (.iastore, 1) := by decide +kernel
theorem dX11_take_36 : decode cX11_take 36 = .ok (.iload_n 2, 1) := by decide +kernel
theorem dX11_take_37 : decode cX11_take 37 = .ok (.ireturn, 1) := by decide +kernel
theorem dX11_at_0 : decode cX11_at 0 = .ok (.aload_n 0, 1) := by decide +kernel
theorem dX11_at_1 : decode cX11_at 1 = .ok (.iload_n 1, 1) := by decide +kernel
theorem dX11_at_2 : decode cX11_at 2 = .ok (.invokevirtual 341, 3) := by decide +kernel
theorem dX11_at_5 : decode cX11_at 5 = .ok (.ifCond .eq 13, 3) := by decide +kernel
theorem dX11_at_8 : decode cX11_at 8 = .ok (.aload_n 0, 1) := by decide +kernel
theorem dX11_at_9 : decode cX11_at 9 = .ok (.iload_n 2, 1) := by decide +kernel
theorem dX11_at_10 : decode cX11_at 10 = .ok (.iconst 0, 1) := by decide +kernel
theorem dX11_at_11 : decode cX11_at 11 = .ok (.iconst 2, 1) := by decide +kernel
theorem dX11_at_12 : decode cX11_at 12 = .ok (.invokevirtual 230, 3) := by decide +kernel
theorem dX11_at_15 : decode cX11_at 15 = .ok (.ifCond .ne 5, 3) := by decide +kernel
theorem dX11_at_18 : decode cX11_at 18 = .ok (.iconst (-1), 1) := by decide +kernel
theorem dX11_at_19 : decode cX11_at 19 = .ok (.ireturn, 1) := by decide +kernel
theorem dX11_at_20 : decode cX11_at 20 = .ok (.iload_n 2, 1) := by decide +kernel
theorem dX11_at_21 : decode cX11_at 21 = .ok (.iconst 1, 1) := by decide +kernel
theorem dX11_at_22 : decode cX11_at 22 = .ok (.if_icmp .ne 13, 3) := by decide +kernel
theorem dX11_at_25 : decode cX11_at 25 = .ok (.aload_n 0, 1) := by decide +kernel
theorem dX11_at_26 : decode cX11_at 26 = .ok (.aload_n 0, 1) := by decide +kernel
theorem dX11_at_27 : decode cX11_at 27 = .ok (.iload_n 1, 1) := by decide +kernel
theorem dX11_at_28 : decode cX11_at 28 = .ok (.invokevirtual 347, 3) := by decide +kernel
theorem dX11_at_31 : decode cX11_at 31 = .ok (.invokevirtual 242, 3) := by decide +kernel
theorem dX11_at_34 : decode cX11_at 34 = .ok (.ireturn, 1) := by decide +kernel
theorem dX11_at_35 : decode cX11_at 35 = .ok (.aload_n 0, 1) := by decide +kernel
theorem dX11_at_36 : decode cX11_at 36 = .ok (.getfield 36, 3) := by decide +kernel
theorem dX11_at_39 : decode cX11_at 39 = .ok (.iload_n 1, 1) := by decide +kernel
theorem dX11_at_40 : decode cX11_at 40 = .ok (.iaload, 1) := by decide +kernel
theorem dX11_at_41 : decode cX11_at 41 = .ok (.ifCond .ge 8, 3) := by decide +kernel
theorem dX11_at_44 : decode cX11_at 44 = .ok (.bipush (-5), 2) := by decide +kernel
theorem dX11_at_46 : decode cX11_at 46 = .ok (.goto 27, 3) := by decide +kernel
theorem dX11_at_49 : decode cX11_at 49 = .ok (.iload_n 2, 1) := by decide +kernel
theorem dX11_at_50 : decode cX11_at 50 = .ok (.ifCond .ne 12, 3) := by decide +kernel
theorem dX11_at_53 : decode cX11_at 53 = .ok (.aload_n 0, 1) := by decide +kernel
theorem dX11_at_54 : decode cX11_at 54 = .ok (.getfield 36, 3) := by decide +kernel
theorem dX11_at_57 : decode cX11_at 57 = .ok (.iload_n 1, 1) := by decide +kernel
theorem dX11_at_58 : decode cX11_at 58 = .ok (.iaload, 1) := by decide +kernel
theorem dX11_at_59 : decode cX11_at 59 = .ok (.goto 14, 3) := by decide +kernel
theorem dX11_at_62 : decode cX11_at 62 = .ok (.aload_n 0, 1) := by decide +kernel
theorem dX11_at_63 : decode cX11_at 63 = .ok (.aload_n 0, 1) := by decide +kernel
theorem dX11_at_64 : decode cX11_at 64 = .ok (.getfield 36, 3) := by decide +kernel
theorem dX11_at_67 : decode cX11_at 67 = .ok (.iload_n 1, 1) := by decide +kernel
theorem dX11_at_68 : decode cX11_at 68 = .ok (.iaload, 1) := by decide +kernel
theorem dX11_at_69 : decode cX11_at 69 = .ok (.iload_n 1, 1) := by decide +kernel
theorem dX11_at_70 : decode cX11_at 70 = .ok (.invokevirtual 344, 3) := by decide +kernel
theorem dX11_at_73 : decode cX11_at 73 = .ok (.ireturn, 1) := by decide +kernel
theorem dX11_worst_0 : decode cX11_worst 0 = .ok (.bipush (-5), 2) := by decide +kernel
theorem dX11_worst_2 : decode cX11_worst 2 = .ok (.istore_n 1, 1) := by decide +kernel
theorem dX11_worst_3 : decode cX11_worst 3 = .ok (.iconst 0, 1) := by decide +kernel
theorem dX11_worst_4 : decode cX11_worst 4 = .ok (.istore_n 2, 1) := by decide +kernel
theorem dX11_worst_5 : decode cX11_worst 5 = .ok (.iconst 0, 1) := by decide +kernel
theorem dX11_worst_6 : decode cX11_worst 6 = .ok (.istore_n 3, 1) := by decide +kernel
theorem dX11_worst_7 : decode cX11_worst 7 = .ok (.iload_n 3, 1) := by decide +kernel
theorem dX11_worst_8 : decode cX11_worst 8 = .ok (.aload_n 0, 1) := by decide +kernel
theorem dX11_worst_9 : decode cX11_worst 9 = .ok (.getfield 13, 3) := by decide +kernel
theorem dX11_worst_12 : decode cX11_worst 12 = .ok (.aload_n 0, 1) := by decide +kernel
theorem dX11_worst_13 : decode cX11_worst 13 = .ok (.getfield 13, 3) := by decide +kernel
theorem dX11_worst_16 : decode cX11_worst 16 = .ok (.imul, 1) := by decide +kernel
theorem dX11_worst_17 : decode cX11_worst 17 = .ok (.if_icmp .ge 47, 3) := by decide +kernel
theorem dX11_worst_20 : decode cX11_worst 20 = .ok (.aload_n 0, 1) := by decide +kernel
theorem dX11_worst_21 : decode cX11_worst 21 = .ok (.getfield 36, 3) := by decide +kernel
theorem dX11_worst_24 : decode cX11_worst 24 = .ok (.iload_n 3, 1) := by decide +kernel
theorem dX11_worst_25 : decode cX11_worst 25 = .ok (.iaload, 1) := by decide +kernel
theorem dX11_worst_26 : decode cX11_worst 26 = .ok (.ifCond .ge 7, 3) := by decide +kernel
theorem dX11_worst_29 : decode cX11_worst 29 = .ok (.iconst 0, 1) := by decide +kernel
theorem dX11_worst_30 : decode cX11_worst 30 = .ok (.goto 12, 3) := by decide +kernel
theorem dX11_worst_33 : decode cX11_worst 33 = .ok (.aload_n 0, 1) := by decide +kernel
theorem dX11_worst_34 : decode cX11_worst 34 = .ok (.aload_n 0, 1) := by decide +kernel
theorem dX11_worst_35 : decode cX11_worst 35 = .ok (.iload_n 3, 1) := by decide +kernel
theorem dX11_worst_36 : decode cX11_worst 36 = .ok (.invokevirtual 350, 3) := by decide +kernel
theorem dX11_worst_39 : decode cX11_worst 39 = .ok (.invokevirtual 242, 3) := by decide +kernel
theorem dX11_worst_42 : decode cX11_worst 42 = .ok (.istore 4, 2) := by decide +kernel
theorem dX11_worst_44 : decode cX11_worst 44 = .ok (.iload 4, 2) := by decide +kernel
theorem dX11_worst_46 : decode cX11_worst 46 = .ok (.iload_n 2, 1) := by decide +kernel
theorem dX11_worst_47 : decode cX11_worst 47 = .ok (.if_icmp .gt 6, 3) := by decide +kernel
theorem dX11_worst_50 : decode cX11_worst 50 = .ok (.goto 8, 3) := by decide +kernel
theorem dX11_worst_53 : decode cX11_worst 53 = .ok (.iload_n 3, 1) := by decide +kernel
theorem dX11_worst_54 : decode cX11_worst 54 = .ok (.istore_n 1, 1) := by decide +kernel
theorem dX11_worst_55 : decode cX11_worst 55 = .ok (.iload 4, 2) := by decide +kernel
theorem dX11_worst_57 : decode cX11_worst 57 = .ok (.istore_n 2, 1) := by decide +kernel
theorem dX11_worst_58 : decode cX11_worst 58 = .ok (.iinc 3 1, 3) := by decide +kernel
theorem dX11_worst_61 : decode cX11_worst 61 = .ok (.goto (-54), 3) := by decide +kernel
theorem dX11_worst_64 : decode cX11_worst 64 = .ok (.iload_n 1, 1) := by decide +kernel
theorem dX11_worst_65 : decode cX11_worst 65 = .ok (.ireturn, 1) := by decide +kernel
theorem dX11_layBad_0 : decode cX11_layBad 0 = .ok (.iconst 0, 1) := by decide +kernel
theorem dX11_layBad_1 : decode cX11_layBad 1 = .ok (.istore_n 2, 1) := by decide +kernel
theorem dX11_layBad_2 : decode cX11_layBad 2 = .ok (.iload_n 2, 1) := by decide +kernel
theorem dX11_layBad_3 : decode cX11_layBad 3 = .ok (.bipush 25, 2) := by decide +kernel
theorem dX11_layBad_5 : decode cX11_layBad 5 = .ok (.if_icmp .ge 16, 3) := by decide +kernel
theorem dX11_layBad_8 : decode cX11_layBad 8 = .ok (.aload_n 0, 1) := by decide +kernel
theorem dX11_layBad_9 : decode cX11_layBad 9 = .ok (.getfield 100, 3) := by decide +kernel
theorem dX11_layBad_12 : decode cX11_layBad 12 = .ok (.iload_n 2, 1) := by decide +kernel
theorem dX11_layBad_13 : decode cX11_layBad 13 = .ok (.iconst 0, 1) := by decide +kernel
theorem dX11_layBad_14 : decode cX11_layBad 14 = .ok (.iastore, 1) := by decide +kernel
theorem dX11_layBad_15 : decode cX11_layBad 15 = .ok (.iinc 2 1, 3) := by decide +kernel
theorem dX11_layBad_18 : decode cX11_layBad 18 = .ok (.goto (-16), 3) := by decide +kernel
theorem dX11_layBad_21 : decode cX11_layBad 21 = .ok (.iconst 0, 1) := by decide +kernel
theorem dX11_layBad_22 : decode cX11_layBad 22 = .ok (.istore_n 2, 1) := by decide +kernel
theorem dX11_layBad_23 : decode cX11_layBad 23 = .ok (.iload_n 2, 1) := by decide +kernel
theorem dX11_layBad_24 : decode cX11_layBad 24 = .ok (.aload_n 0, 1) := by decide +kernel
theorem dX11_layBad_25 : decode cX11_layBad 25 = .ok (.getfield 13, 3) := by decide +kernel
theorem dX11_layBad_28 : decode cX11_layBad 28 = .ok (.aload_n 0, 1) := by decide +kernel
theorem dX11_layBad_29 : decode cX11_layBad 29 = .ok (.getfield 13, 3) := by decide +kernel
theorem dX11_layBad_32 : decode cX11_layBad 32 = .ok (.imul, 1) := by decide +kernel
theorem dX11_layBad_33 : decode cX11_layBad 33 = .ok (.if_icmp .ge 76, 3) := by decide +kernel
theorem dX11_layBad_36 : decode cX11_layBad 36 = .ok (.aload_n 0, 1) := by decide +kernel
theorem dX11_layBad_37 : decode cX11_layBad 37 = .ok (.iload_n 1, 1) := by decide +kernel
theorem dX11_layBad_38 : decode cX11_layBad 38 = .ok (.iload_n 2, 1) := by decide +kernel
theorem dX11_layBad_39 : decode cX11_layBad 39 = .ok (.invokevirtual 344, 3) := by decide +kernel
theorem dX11_layBad_42 : decode cX11_layBad 42 = .ok (.istore_n 3, 1) := by decide +kernel
theorem dX11_layBad_43 : decode cX11_layBad 43 = .ok (.aload_n 0, 1) := by decide +kernel
theorem dX11_layBad_44 : decode cX11_layBad 44 = .ok (.getfield 100, 3) := by decide +kernel
theorem dX11_layBad_47 : decode cX11_layBad 47 = .ok (.iload_n 2, 1) := by decide +kernel
theorem dX11_layBad_48 : decode cX11_layBad 48 = .ok (.dup2, 1) := by decide +kernel
theorem dX11_layBad_49 : decode cX11_layBad 49 = .ok (.iaload, 1) := by decide +kernel
theorem dX11_layBad_50 : decode cX11_layBad 50 = .ok (.iload_n 3, 1) := by decide +kernel
theorem dX11_layBad_51 : decode cX11_layBad 51 = .ok (.ior, 1) := by decide +kernel
theorem dX11_layBad_52 : decode cX11_layBad 52 = .ok (.iastore, 1) := by decide +kernel
theorem dX11_layBad_53 : decode cX11_layBad 53 = .ok (.iconst 0, 1) := by decide +kernel
theorem dX11_layBad_54 : decode cX11_layBad 54 = .ok (.istore 4, 2) := by decide +kernel
theorem dX11_layBad_56 : decode cX11_layBad 56 = .ok (.iload 4, 2) := by decide +kernel
theorem dX11_layBad_58 : decode cX11_layBad 58 = .ok (.aload_n 0, 1) := by decide +kernel
theorem dX11_layBad_59 : decode cX11_layBad 59 = .ok (.getfield 13, 3) := by decide +kernel
theorem dX11_layBad_62 : decode cX11_layBad 62 = .ok (.aload_n 0, 1) := by decide +kernel
theorem dX11_layBad_63 : decode cX11_layBad 63 = .ok (.getfield 13, 3) := by decide +kernel
theorem dX11_layBad_66 : decode cX11_layBad 66 = .ok (.imul, 1) := by decide +kernel
theorem dX11_layBad_67 : decode cX11_layBad 67 = .ok (.if_icmp .ge 36, 3) := by decide +kernel
theorem dX11_layBad_70 : decode cX11_layBad 70 = .ok (.aload_n 0, 1) := by decide +kernel
theorem dX11_layBad_71 : decode cX11_layBad 71 = .ok (.getfield 100, 3) := by decide +kernel
theorem dX11_layBad_74 : decode cX11_layBad 74 = .ok (.iload 4, 2) := by decide +kernel
theorem dX11_layBad_76 : decode cX11_layBad 76 = .ok (.dup2, 1) := by decide +kernel
theorem dX11_layBad_77 : decode cX11_layBad 77 = .ok (.iaload, 1) := by decide +kernel
theorem dX11_layBad_78 : decode cX11_layBad 78 = .ok (.aload_n 0, 1) := by decide +kernel
theorem dX11_layBad_79 : decode cX11_layBad 79 = .ok (.iload_n 3, 1) := by decide +kernel
theorem dX11_layBad_80 : decode cX11_layBad 80 = .ok (.iload 4, 2) := by decide +kernel
theorem dX11_layBad_82 : decode cX11_layBad 82 = .ok (.invokevirtual 323, 3) := by decide +kernel
theorem dX11_layBad_85 : decode cX11_layBad 85 = .ok (.ifCond .eq 9, 3) := by decide +kernel
theorem dX11_layBad_88 : decode cX11_layBad 88 = .ok (.iconst 1, 1) := by decide +kernel
theorem dX11_layBad_89 : decode cX11_layBad 89 = .ok (.iload_n 2, 1) := by decide +kernel
theorem dX11_layBad_90 : decode cX11_layBad 90 = .ok (.ishl, 1) := by decide +kernel
theorem dX11_layBad_91 : decode cX11_layBad 91 = .ok (.goto 4, 3) := by decide +kernel
theorem dX11_layBad_94 : decode cX11_layBad 94 = .ok (.iconst 0, 1) := by decide +kernel
theorem dX11_layBad_95 : decode cX11_layBad 95 = .ok (.ior, 1) := by decide +kernel
theorem dX11_layBad_96 : decode cX11_layBad 96 = .ok (.iastore, 1) := by decide +kernel
theorem dX11_layBad_97 : decode cX11_layBad 97 = .ok (.iinc 4 1, 3) := by decide +kernel
theorem dX11_layBad_100 : decode cX11_layBad 100 = .ok (.goto (-44), 3) := by decide +kernel
theorem dX11_layBad_103 : decode cX11_layBad 103 = .ok (.iinc 2 1, 3) := by decide +kernel
theorem dX11_layBad_106 : decode cX11_layBad 106 = .ok (.goto (-83), 3) := by decide +kernel
theorem dX11_layBad_109 : decode cX11_layBad 109 = .ok (.return_, 1) := by decide +kernel
theorem dX11_isWay_0 : decode cX11_isWay 0 = .ok (.iconst 0, 1) := by decide +kernel
theorem dX11_isWay_1 : decode cX11_isWay 1 = .ok (.istore_n 1, 1) := by decide +kernel
theorem dX11_isWay_2 : decode cX11_isWay 2 = .ok (.iconst 0, 1) := by decide +kernel
theorem dX11_isWay_3 : decode cX11_isWay 3 = .ok (.istore_n 2, 1) := by decide +kernel
theorem dX11_isWay_4 : decode cX11_isWay 4 = .ok (.iload_n 2, 1) := by decide +kernel
theorem dX11_isWay_5 : decode cX11_isWay 5 = .ok (.aload_n 0, 1) := by decide +kernel
theorem dX11_isWay_6 : decode cX11_isWay 6 = .ok (.getfield 13, 3) := by decide +kernel
theorem dX11_isWay_9 : decode cX11_isWay 9 = .ok (.if_icmp .ge 54, 3) := by decide +kernel
theorem dX11_isWay_12 : decode cX11_isWay 12 = .ok (.aload_n 0, 1) := by decide +kernel
theorem dX11_isWay_13 : decode cX11_isWay 13 = .ok (.getfield 13, 3) := by decide +kernel
theorem dX11_isWay_16 : decode cX11_isWay 16 = .ok (.iload_n 2, 1) := by decide +kernel
theorem dX11_isWay_17 : decode cX11_isWay 17 = .ok (.imul, 1) := by decide +kernel
theorem dX11_isWay_18 : decode cX11_isWay 18 = .ok (.aload_n 0, 1) := by decide +kernel
theorem dX11_isWay_19 : decode cX11_isWay 19 = .ok (.getfield 103, 3) := by decide +kernel
theorem dX11_isWay_22 : decode cX11_isWay 22 = .ok (.iload_n 2, 1) := by decide +kernel
theorem dX11_isWay_23 : decode cX11_isWay 23 = .ok (.iaload, 1) := by decide +kernel
theorem dX11_isWay_24 : decode cX11_isWay 24 = .ok (.iadd, 1) := by decide +kernel
theorem dX11_isWay_25 : decode cX11_isWay 25 = .ok (.istore_n 3, 1) := by decide +kernel
theorem dX11_isWay_26 : decode cX11_isWay 26 = .ok (.aload_n 0, 1) := by decide +kernel
theorem dX11_isWay_27 : decode cX11_isWay 27 = .ok (.aload_n 0, 1) := by decide +kernel
theorem dX11_isWay_28 : decode cX11_isWay 28 = .ok (.getfield 19, 3) := by decide +kernel
theorem dX11_isWay_31 : decode cX11_isWay 31 = .ok (.iload_n 3, 1) := by decide +kernel
theorem dX11_isWay_32 : decode cX11_isWay 32 = .ok (.invokevirtual 323, 3) := by decide +kernel
theorem dX11_isWay_35 : decode cX11_isWay 35 = .ok (.ifCond .ne 14, 3) := by decide +kernel
theorem dX11_isWay_38 : decode cX11_isWay 38 = .ok (.aload_n 0, 1) := by decide +kernel
theorem dX11_isWay_39 : decode cX11_isWay 39 = .ok (.getfield 100, 3) := by decide +kernel
theorem dX11_isWay_42 : decode cX11_isWay 42 = .ok (.iload_n 3, 1) := by decide +kernel
theorem dX11_isWay_43 : decode cX11_isWay 43 = .ok (.iaload, 1) := by decide +kernel
theorem dX11_isWay_44 : decode cX11_isWay 44 = .ok (.iload_n 1, 1) := by decide +kernel
theorem dX11_isWay_45 : decode cX11_isWay 45 = .ok (.iand, 1) := by decide +kernel
theorem dX11_isWay_46 : decode cX11_isWay 46 = .ok (.ifCond .eq 5, 3) := by decide +kernel
theorem dX11_isWay_49 : decode cX11_isWay 49 = .ok (.iconst 0, 1) := by decide +kernel
theorem dX11_isWay_50 : decode cX11_isWay 50 = .ok (.ireturn, 1) := by decide +kernel
theorem dX11_isWay_51 : decode cX11_isWay 51 = .ok (.iload_n 1, 1) := by decide +kernel
theorem dX11_isWay_52 : decode cX11_isWay 52 = .ok (.iconst 1, 1) := by decide +kernel
theorem dX11_isWay_53 : decode cX11_isWay 53 = .ok (.iload_n 3, 1) := by decide +kernel
theorem dX11_isWay_54 : decode cX11_isWay 54 = .ok (.ishl, 1) := by decide +kernel
theorem dX11_isWay_55 : decode cX11_isWay 55 = .ok (.ior, 1) := by decide +kernel
theorem dX11_isWay_56 : decode cX11_isWay 56 = .ok (.istore_n 1, 1) := by decide +kernel
theorem dX11_isWay_57 : decode cX11_isWay 57 = .ok (.iinc 2 1, 3) := by decide +kernel
theorem dX11_isWay_60 : decode cX11_isWay 60 = .ok (.goto (-56), 3) := by decide +kernel
theorem dX11_isWay_63 : decode cX11_isWay 63 = .ok (.iconst 1, 1) := by decide +kernel
theorem dX11_isWay_64 : decode cX11_isWay 64 = .ok (.ireturn, 1) := by decide +kernel
theorem dX11_nextRow_0 : decode cX11_nextRow 0 = .ok (.aload_n 0, 1) := by decide +kernel
theorem dX11_nextRow_1 : decode cX11_nextRow 1 = .ok (.getfield 13, 3) := by decide +kernel
theorem dX11_nextRow_4 : decode cX11_nextRow 4 = .ok (.iconst 1, 1) := by decide +kernel
theorem dX11_nextRow_5 : decode cX11_nextRow 5 = .ok (.isub, 1) := by decide +kernel
theorem dX11_nextRow_6 : decode cX11_nextRow 6 = .ok (.istore_n 1, 1) := by decide +kernel
theorem dX11_nextRow_7 : decode cX11_nextRow 7 = .ok (.iload_n 1, 1) := by decide +kernel
theorem dX11_nextRow_8 : decode cX11_nextRow 8 = .ok (.ifCond .lt 41, 3) := by decide +kernel
theorem dX11_nextRow_11 : decode cX11_nextRow 11 = .ok (.aload_n 0, 1) := by decide +kernel
theorem dX11_nextRow_12 : decode cX11_nextRow 12 = .ok (.getfield 103, 3) := by decide +kernel
theorem dX11_nextRow_15 : decode cX11_nextRow 15 = .ok (.iload_n 1, 1) := by decide +kernel
theorem dX11_nextRow_16 : decode cX11_nextRow 16 = .ok (.dup2, 1) := by decide +kernel
theorem dX11_nextRow_17 : decode cX11_nextRow 17 = .ok (.iaload, 1) := by decide +kernel
theorem dX11_nextRow_18 : decode cX11_nextRow 18 = .ok (.iconst 1, 1) := by decide +kernel
theorem dX11_nextRow_19 : decode cX11_nextRow 19 = .ok (.iadd, 1) := by decide +kernel
theorem dX11_nextRow_20 : decode cX11_nextRow 20 = .ok (.iastore, 1) := by decide +kernel
theorem dX11_nextRow_21 : decode cX11_nextRow 21 = .ok (.aload_n 0, 1) := by decide +kernel
theorem dX11_nextRow_22 : decode cX11_nextRow 22 = .ok (.getfield 103, 3) := by decide +kernel
theorem dX11_nextRow_25 : decode cX11_nextRow 25 = .ok (.iload_n 1, 1) := by decide +kernel
theorem dX11_nextRow_26 : decode cX11_nextRow 26 = .ok (.iaload, 1) := by decide +kernel
theorem dX11_nextRow_27 : decode cX11_nextRow 27 = .ok (.aload_n 0, 1) := by decide +kernel
theorem dX11_nextRow_28 : decode cX11_nextRow 28 = .ok (.getfield 13, 3) := by decide +kernel
theorem dX11_nextRow_31 : decode cX11_nextRow 31 = .ok (.if_icmp .ge 5, 3) := by decide +kernel
theorem dX11_nextRow_34 : decode cX11_nextRow 34 = .ok (.iconst 1, 1) := by decide +kernel
theorem dX11_nextRow_35 : decode cX11_nextRow 35 = .ok (.ireturn, 1) := by decide +kernel
theorem dX11_nextRow_36 : decode cX11_nextRow 36 = .ok (.aload_n 0, 1) := by decide +kernel
theorem dX11_nextRow_37 : decode cX11_nextRow 37 = .ok (.getfield 103, 3) := by decide +kernel
theorem dX11_nextRow_40 : decode cX11_nextRow 40 = .ok (.iload_n 1, 1) := by decide +kernel
theorem dX11_nextRow_41 : decode cX11_nextRow 41 = .ok (.iconst 0, 1) := by decide +kernel
theorem dX11_nextRow_42 : decode cX11_nextRow 42 = .ok (.iastore, 1) := by decide +kernel
theorem dX11_nextRow_43 : decode cX11_nextRow 43 = .ok (.iinc 1 (-1), 3) := by decide +kernel
theorem dX11_nextRow_46 : decode cX11_nextRow 46 = .ok (.goto (-39), 3) := by decide +kernel
theorem dX11_nextRow_49 : decode cX11_nextRow 49 = .ok (.iconst 0, 1) := by decide +kernel
theorem dX11_nextRow_50 : decode cX11_nextRow 50 = .ok (.ireturn, 1) := by decide +kernel
theorem dX11_ways_0 : decode cX11_ways 0 = .ok (.aload_n 0, 1) := by decide +kernel
theorem dX11_ways_1 : decode cX11_ways 1 = .ok (.iload_n 1, 1) := by decide +kernel
theorem dX11_ways_2 : decode cX11_ways 2 = .ok (.invokevirtual 234, 3) := by decide +kernel
theorem dX11_ways_5 : decode cX11_ways 5 = .ok (.ifCond .eq 18, 3) := by decide +kernel
theorem dX11_ways_8 : decode cX11_ways 8 = .ok (.aload_n 0, 1) := by decide +kernel
theorem dX11_ways_9 : decode cX11_ways 9 = .ok (.iload_n 2, 1) := by decide +kernel
theorem dX11_ways_10 : decode cX11_ways 10 = .ok (.iconst (-1), 1) := by decide +kernel
theorem dX11_ways_11 : decode cX11_ways 11 = .ok (.aload_n 0, 1) := by decide +kernel
theorem dX11_ways_12 : decode cX11_ways 12 = .ok (.getfield 13, 3) := by decide +kernel
theorem dX11_ways_15 : decode cX11_ways 15 = .ok (.iconst 1, 1) := by decide +kernel
theorem dX11_ways_16 : decode cX11_ways 16 = .ok (.isub, 1) := by decide +kernel
theorem dX11_ways_17 : decode cX11_ways 17 = .ok (.invokevirtual 230, 3) := by decide +kernel
theorem dX11_ways_20 : decode cX11_ways 20 = .ok (.ifCond .ne 5, 3) := by decide +kernel
theorem dX11_ways_23 : decode cX11_ways 23 = .ok (.iconst (-1), 1) := by decide +kernel
theorem dX11_ways_24 : decode cX11_ways 24 = .ok (.ireturn, 1) := by decide +kernel
theorem dX11_ways_25 : decode cX11_ways 25 = .ok (.aload_n 0, 1) := by decide +kernel
theorem dX11_ways_26 : decode cX11_ways 26 = .ok (.iload_n 1, 1) := by decide +kernel
theorem dX11_ways_27 : decode cX11_ways 27 = .ok (.invokevirtual 362, 3) := by decide +kernel
theorem dX11_ways_30 : decode cX11_ways 30 = .ok (.iconst 0, 1) := by decide +kernel
theorem dX11_ways_31 : decode cX11_ways 31 = .ok (.istore_n 3, 1) := by decide +kernel
theorem dX11_ways_32 : decode cX11_ways 32 = .ok (.iconst 0, 1) := by decide +kernel
theorem dX11_ways_33 : decode cX11_ways 33 = .ok (.istore 4, 2) := by decide +kernel
theorem dX11_ways_35 : decode cX11_ways 35 = .ok (.iload 4, 2) := by decide +kernel
theorem dX11_ways_37 : decode cX11_ways 37 = .ok (.iconst 5, 1) := by decide +kernel
theorem dX11_ways_38 : decode cX11_ways 38 = .ok (.if_icmp .ge 17, 3) := by decide +kernel
theorem dX11_ways_41 : decode cX11_ways 41 = .ok (.aload_n 0, 1) := by decide +kernel
theorem dX11_ways_42 : decode cX11_ways 42 = .ok (.getfield 103, 3) := by decide +kernel
theorem dX11_ways_45 : decode cX11_ways 45 = .ok (.iload 4, 2) := by decide +kernel
theorem dX11_ways_47 : decode cX11_ways 47 = .ok (.iconst 0, 1) := by decide +kernel
theorem dX11_ways_48 : decode cX11_ways 48 = .ok (.iastore, 1) := by decide +kernel
theorem dX11_ways_49 : decode cX11_ways 49 = .ok (.iinc 4 1, 3) := by decide +kernel
theorem dX11_ways_52 : decode cX11_ways 52 = .ok (.goto (-17), 3) := by decide +kernel
theorem dX11_ways_55 : decode cX11_ways 55 = .ok (.iconst 1, 1) := by decide +kernel
theorem dX11_ways_56 : decode cX11_ways 56 = .ok (.istore 4, 2) := by decide +kernel
theorem dX11_ways_58 : decode cX11_ways 58 = .ok (.iload 4, 2) := by decide +kernel
theorem dX11_ways_60 : decode cX11_ways 60 = .ok (.ifCond .eq 55, 3) := by decide +kernel
theorem dX11_ways_63 : decode cX11_ways 63 = .ok (.aload_n 0, 1) := by decide +kernel
theorem dX11_ways_64 : decode cX11_ways 64 = .ok (.invokevirtual 365, 3) := by decide +kernel
theorem dX11_ways_67 : decode cX11_ways 67 = .ok (.ifCond .eq 39, 3) := by decide +kernel
theorem dX11_ways_70 : decode cX11_ways 70 = .ok (.iconst 0, 1) := by decide +kernel
theorem dX11_ways_71 : decode cX11_ways 71 = .ok (.istore 5, 2) := by decide +kernel
theorem dX11_ways_73 : decode cX11_ways 73 = .ok (.iload 5, 2) := by decide +kernel
theorem dX11_ways_75 : decode cX11_ways 75 = .ok (.iconst 5, 1) := by decide +kernel
theorem dX11_ways_76 : decode cX11_ways 76 = .ok (.if_icmp .ge 27, 3) := by decide +kernel
theorem dX11_ways_79 : decode cX11_ways 79 = .ok (.iload_n 3, 1) := by decide +kernel
theorem dX11_ways_80 : decode cX11_ways 80 = .ok (.ifCond .ne 23, 3) := by decide +kernel
theorem dX11_ways_83 : decode cX11_ways 83 = .ok (.aload_n 0, 1) := by decide +kernel
theorem dX11_ways_84 : decode cX11_ways 84 = .ok (.getfield 106, 3) := by decide +kernel
theorem dX11_ways_87 : decode cX11_ways 87 = .ok (.iload 5, 2) := by decide +kernel
theorem dX11_ways_89 : decode cX11_ways 89 = .ok (.aload_n 0, 1) := by decide +kernel
theorem dX11_ways_90 : decode cX11_ways 90 = .ok (.getfield 103, 3) := by decide +kernel
theorem dX11_ways_93 : decode cX11_ways 93 = .ok (.iload 5, 2) := by decide +kernel
theorem dX11_ways_95 : decode cX11_ways 95 = .ok (.iaload, 1) := by decide +kernel
theorem dX11_ways_96 : decode cX11_ways 96 = .ok (.iastore, 1) := by decide +kernel
theorem dX11_ways_97 : decode cX11_ways 97 = .ok (.iinc 5 1, 3) := by decide +kernel
theorem dX11_ways_100 : decode cX11_ways 100 = .ok (.goto (-27), 3) := by decide +kernel
theorem dX11_ways_103 : decode cX11_ways 103 = .ok (.iinc 3 1, 3) := by decide +kernel
theorem dX11_ways_106 : decode cX11_ways 106 = .ok (.aload_n 0, 1) := by decide +kernel
theorem dX11_ways_107 : decode cX11_ways 107 = .ok (.invokevirtual 368, 3) := by decide +kernel
theorem dX11_ways_110 : decode cX11_ways 110 = .ok (.istore 4, 2) := by decide +kernel
theorem dX11_ways_112 : decode cX11_ways 112 = .ok (.goto (-54), 3) := by decide +kernel
theorem dX11_ways_115 : decode cX11_ways 115 = .ok (.iload_n 2, 1) := by decide +kernel
theorem dX11_ways_116 : decode cX11_ways 116 = .ok (.ifCond .ge 7, 3) := by decide +kernel
theorem dX11_ways_119 : decode cX11_ways 119 = .ok (.iload_n 3, 1) := by decide +kernel
theorem dX11_ways_120 : decode cX11_ways 120 = .ok (.goto 18, 3) := by decide +kernel
theorem dX11_ways_123 : decode cX11_ways 123 = .ok (.iload_n 3, 1) := by decide +kernel
theorem dX11_ways_124 : decode cX11_ways 124 = .ok (.ifCond .ne 8, 3) := by decide +kernel
theorem dX11_ways_127 : decode cX11_ways 127 = .ok (.bipush (-5), 2) := by decide +kernel
theorem dX11_ways_129 : decode cX11_ways 129 = .ok (.goto 9, 3) := by decide +kernel
theorem dX11_ways_132 : decode cX11_ways 132 = .ok (.aload_n 0, 1) := by decide +kernel
theorem dX11_ways_133 : decode cX11_ways 133 = .ok (.getfield 106, 3) := by decide +kernel
theorem dX11_ways_136 : decode cX11_ways 136 = .ok (.iload_n 2, 1) := by decide +kernel
theorem dX11_ways_137 : decode cX11_ways 137 = .ok (.iaload, 1) := by decide +kernel
theorem dX11_ways_138 : decode cX11_ways 138 = .ok (.ireturn, 1) := by decide +kernel
theorem dX11_layMen_0 : decode cX11_layMen 0 = .ok (.iconst 0, 1) := by decide +kernel
theorem dX11_layMen_1 : decode cX11_layMen 1 = .ok (.istore_n 1, 1) := by decide +kernel
theorem dX11_layMen_2 : decode cX11_layMen 2 = .ok (.iload_n 1, 1) := by decide +kernel
theorem dX11_layMen_3 : decode cX11_layMen 3 = .ok (.aload_n 0, 1) := by decide +kernel
theorem dX11_layMen_4 : decode cX11_layMen 4 = .ok (.getfield 13, 3) := by decide +kernel
theorem dX11_layMen_7 : decode cX11_layMen 7 = .ok (.if_icmp .ge 63, 3) := by decide +kernel
theorem dX11_layMen_10 : decode cX11_layMen 10 = .ok (.iconst 0, 1) := by decide +kernel
theorem dX11_layMen_11 : decode cX11_layMen 11 = .ok (.istore_n 2, 1) := by decide +kernel
theorem dX11_layMen_12 : decode cX11_layMen 12 = .ok (.iconst 0, 1) := by decide +kernel
theorem dX11_layMen_13 : decode cX11_layMen 13 = .ok (.istore_n 3, 1) := by decide +kernel
theorem dX11_layMen_14 : decode cX11_layMen 14 = .ok (.iload_n 3, 1) := by decide +kernel
theorem dX11_layMen_15 : decode cX11_layMen 15 = .ok (.aload_n 0, 1) := by decide +kernel
theorem dX11_layMen_16 : decode cX11_layMen 16 = .ok (.getfield 13, 3) := by decide +kernel
theorem dX11_layMen_19 : decode cX11_layMen 19 = .ok (.if_icmp .ge 38, 3) := by decide +kernel
theorem dX11_layMen_22 : decode cX11_layMen 22 = .ok (.aload_n 0, 1) := by decide +kernel
theorem dX11_layMen_23 : decode cX11_layMen 23 = .ok (.getfield 36, 3) := by decide +kernel
theorem dX11_layMen_26 : decode cX11_layMen 26 = .ok (.aload_n 0, 1) := by decide +kernel
theorem dX11_layMen_27 : decode cX11_layMen 27 = .ok (.getfield 13, 3) := by decide +kernel
theorem dX11_layMen_30 : decode cX11_layMen 30 = .ok (.iload_n 1, 1) := by decide +kernel
theorem dX11_layMen_31 : decode cX11_layMen 31 = .ok (.imul, 1) := by decide +kernel
theorem dX11_layMen_32 : decode cX11_layMen 32 = .ok (.iload_n 3, 1) := by decide +kernel
theorem dX11_layMen_33 : decode cX11_layMen 33 = .ok (.iadd, 1) := by decide +kernel
theorem dX11_layMen_34 : decode cX11_layMen 34 = .ok (.iaload, 1) := by decide +kernel
theorem dX11_layMen_35 : decode cX11_layMen 35 = .ok (.ifCond .ge 6, 3) := by decide +kernel
theorem dX11_layMen_38 : decode cX11_layMen 38 = .ok (.goto 13, 3) := by decide +kernel
theorem dX11_layMen_41 : decode cX11_layMen 41 = .ok (.aload_n 0, 1) := by decide +kernel
theorem dX11_layMen_42 : decode cX11_layMen 42 = .ok (.getfield 103, 3) := by decide +kernel
theorem dX11_layMen_45 : decode cX11_layMen 45 = .ok (.iload_n 1, 1) := by decide +kernel
theorem dX11_layMen_46 : decode cX11_layMen 46 = .ok (.iload_n 3, 1) := by decide +kernel
theorem dX11_layMen_47 : decode cX11_layMen 47 = .ok (.iastore, 1) := by decide +kernel
theorem dX11_layMen_48 : decode cX11_layMen 48 = .ok (.iinc 2 1, 3) := by decide +kernel
theorem dX11_layMen_51 : decode cX11_layMen 51 = .ok (.iinc 3 1, 3) := by decide +kernel
theorem dX11_layMen_54 : decode cX11_layMen 54 = .ok (.goto (-40), 3) := by decide +kernel
theorem dX11_layMen_57 : decode cX11_layMen 57 = .ok (.iload_n 2, 1) := by decide +kernel
theorem dX11_layMen_58 : decode cX11_layMen 58 = .ok (.iconst 1, 1) := by decide +kernel
theorem dX11_layMen_59 : decode cX11_layMen 59 = .ok (.if_icmp .eq 5, 3) := by decide +kernel
theorem dX11_layMen_62 : decode cX11_layMen 62 = .ok (.iconst 0, 1) := by decide +kernel
theorem dX11_layMen_63 : decode cX11_layMen 63 = .ok (.ireturn, 1) := by decide +kernel
theorem dX11_layMen_64 : decode cX11_layMen 64 = .ok (.iinc 1 1, 3) := by decide +kernel
theorem dX11_layMen_67 : decode cX11_layMen 67 = .ok (.goto (-65), 3) := by decide +kernel
theorem dX11_layMen_70 : decode cX11_layMen 70 = .ok (.iconst 1, 1) := by decide +kernel
theorem dX11_layMen_71 : decode cX11_layMen 71 = .ok (.ireturn, 1) := by decide +kernel
theorem dX11_after_0 : decode cX11_after 0 = .ok (.aload_n 0, 1) := by decide +kernel
theorem dX11_after_1 : decode cX11_after 1 = .ok (.iload_n 1, 1) := by decide +kernel
theorem dX11_after_2 : decode cX11_after 2 = .ok (.invokevirtual 234, 3) := by decide +kernel
theorem dX11_after_5 : decode cX11_after 5 = .ok (.ifCond .eq 18, 3) := by decide +kernel
theorem dX11_after_8 : decode cX11_after 8 = .ok (.aload_n 0, 1) := by decide +kernel
theorem dX11_after_9 : decode cX11_after 9 = .ok (.iload_n 2, 1) := by decide +kernel
theorem dX11_after_10 : decode cX11_after 10 = .ok (.iconst 0, 1) := by decide +kernel
theorem dX11_after_11 : decode cX11_after 11 = .ok (.aload_n 0, 1) := by decide +kernel
theorem dX11_after_12 : decode cX11_after 12 = .ok (.getfield 13, 3) := by decide +kernel
theorem dX11_after_15 : decode cX11_after 15 = .ok (.iconst 1, 1) := by decide +kernel
theorem dX11_after_16 : decode cX11_after 16 = .ok (.isub, 1) := by decide +kernel
theorem dX11_after_17 : decode cX11_after 17 = .ok (.invokevirtual 230, 3) := by decide +kernel
theorem dX11_after_20 : decode cX11_after 20 = .ok (.ifCond .ne 5, 3) := by decide +kernel
theorem dX11_after_23 : decode cX11_after 23 = .ok (.iconst (-1), 1) := by decide +kernel
theorem dX11_after_24 : decode cX11_after 24 = .ok (.ireturn, 1) := by decide +kernel
theorem dX11_after_25 : decode cX11_after 25 = .ok (.aload_n 0, 1) := by decide +kernel
theorem dX11_after_26 : decode cX11_after 26 = .ok (.invokevirtual 371, 3) := by decide +kernel
theorem dX11_after_29 : decode cX11_after 29 = .ok (.ifCond .ne 6, 3) := by decide +kernel
theorem dX11_after_32 : decode cX11_after 32 = .ok (.bipush (-9), 2) := by decide +kernel
theorem dX11_after_34 : decode cX11_after 34 = .ok (.ireturn, 1) := by decide +kernel
theorem dX11_after_35 : decode cX11_after 35 = .ok (.aload_n 0, 1) := by decide +kernel
theorem dX11_after_36 : decode cX11_after 36 = .ok (.iload_n 1, 1) := by decide +kernel
theorem dX11_after_37 : decode cX11_after 37 = .ok (.invokevirtual 362, 3) := by decide +kernel
theorem dX11_after_40 : decode cX11_after 40 = .ok (.aload_n 0, 1) := by decide +kernel
theorem dX11_after_41 : decode cX11_after 41 = .ok (.invokevirtual 368, 3) := by decide +kernel
theorem dX11_after_44 : decode cX11_after 44 = .ok (.ifCond .eq 17, 3) := by decide +kernel
theorem dX11_after_47 : decode cX11_after 47 = .ok (.aload_n 0, 1) := by decide +kernel
theorem dX11_after_48 : decode cX11_after 48 = .ok (.invokevirtual 365, 3) := by decide +kernel
theorem dX11_after_51 : decode cX11_after 51 = .ok (.ifCond .eq (-11), 3) := by decide +kernel
theorem dX11_after_54 : decode cX11_after 54 = .ok (.aload_n 0, 1) := by decide +kernel
theorem dX11_after_55 : decode cX11_after 55 = .ok (.getfield 103, 3) := by decide +kernel
theorem dX11_after_58 : decode cX11_after 58 = .ok (.iload_n 2, 1) := by decide +kernel
theorem dX11_after_59 : decode cX11_after 59 = .ok (.iaload, 1) := by decide +kernel
theorem dX11_after_60 : decode cX11_after 60 = .ok (.ireturn, 1) := by decide +kernel
theorem dX11_after_61 : decode cX11_after 61 = .ok (.bipush (-5), 2) := by decide +kernel
theorem dX11_after_63 : decode cX11_after 63 = .ok (.ireturn, 1) := by decide +kernel
theorem dX11_lowest_0 : decode cX11_lowest 0 = .ok (.iconst 0, 1) := by decide +kernel
theorem dX11_lowest_1 : decode cX11_lowest 1 = .ok (.istore_n 2, 1) := by decide +kernel
theorem dX11_lowest_2 : decode cX11_lowest 2 = .ok (.aload_n 0, 1) := by decide +kernel
theorem dX11_lowest_3 : decode cX11_lowest 3 = .ok (.iload_n 1, 1) := by decide +kernel
theorem dX11_lowest_4 : decode cX11_lowest 4 = .ok (.iload_n 2, 1) := by decide +kernel
theorem dX11_lowest_5 : decode cX11_lowest 5 = .ok (.invokevirtual 323, 3) := by decide +kernel
theorem dX11_lowest_8 : decode cX11_lowest 8 = .ok (.ifCond .ne 9, 3) := by decide +kernel
theorem dX11_lowest_11 : decode cX11_lowest 11 = .ok (.iinc 2 1, 3) := by decide +kernel
theorem dX11_lowest_14 : decode cX11_lowest 14 = .ok (.goto (-12), 3) := by decide +kernel
theorem dX11_lowest_17 : decode cX11_lowest 17 = .ok (.iload_n 2, 1) := by decide +kernel
theorem dX11_lowest_18 : decode cX11_lowest 18 = .ok (.ireturn, 1) := by decide +kernel
theorem dX11_most_0 : decode cX11_most 0 = .ok (.aload_n 0, 1) := by decide +kernel
theorem dX11_most_1 : decode cX11_most 1 = .ok (.iload_n 1, 1) := by decide +kernel
theorem dX11_most_2 : decode cX11_most 2 = .ok (.invokevirtual 234, 3) := by decide +kernel
theorem dX11_most_5 : decode cX11_most 5 = .ok (.ifCond .ne 5, 3) := by decide +kernel
theorem dX11_most_8 : decode cX11_most 8 = .ok (.iconst (-1), 1) := by decide +kernel
theorem dX11_most_9 : decode cX11_most 9 = .ok (.ireturn, 1) := by decide +kernel
theorem dX11_most_10 : decode cX11_most 10 = .ok (.aload_n 0, 1) := by decide +kernel
theorem dX11_most_11 : decode cX11_most 11 = .ok (.iload_n 1, 1) := by decide +kernel
theorem dX11_most_12 : decode cX11_most 12 = .ok (.invokevirtual 362, 3) := by decide +kernel
theorem dX11_most_15 : decode cX11_most 15 = .ok (.iconst 0, 1) := by decide +kernel
theorem dX11_most_16 : decode cX11_most 16 = .ok (.istore_n 2, 1) := by decide +kernel
theorem dX11_most_17 : decode cX11_most 17 = .ok (.iconst 1, 1) := by decide +kernel
theorem dX11_most_18 : decode cX11_most 18 = .ok (.istore_n 3, 1) := by decide +kernel
theorem dX11_most_19 : decode cX11_most 19 = .ok (.aload_n 0, 1) := by decide +kernel
theorem dX11_most_20 : decode cX11_most 20 = .ok (.getfield 109, 3) := by decide +kernel
theorem dX11_most_23 : decode cX11_most 23 = .ok (.iconst 0, 1) := by decide +kernel
theorem dX11_most_24 : decode cX11_most 24 = .ok (.iconst 1, 1) := by decide +kernel
theorem dX11_most_25 : decode cX11_most 25 = .ok (.aload_n 0, 1) := by decide +kernel
theorem dX11_most_26 : decode cX11_most 26 = .ok (.getfield 13, 3) := by decide +kernel
theorem dX11_most_29 : decode cX11_most 29 = .ok (.aload_n 0, 1) := by decide +kernel
theorem dX11_most_30 : decode cX11_most 30 = .ok (.getfield 13, 3) := by decide +kernel
theorem dX11_most_33 : decode cX11_most 33 = .ok (.imul, 1) := by decide +kernel
theorem dX11_most_34 : decode cX11_most 34 = .ok (.ishl, 1) := by decide +kernel
theorem dX11_most_35 : decode cX11_most 35 = .ok (.iconst 1, 1) := by decide +kernel
theorem dX11_most_36 : decode cX11_most 36 = .ok (.isub, 1) := by decide +kernel
theorem dX11_most_37 : decode cX11_most 37 = .ok (.aload_n 0, 1) := by decide +kernel
theorem dX11_most_38 : decode cX11_most 38 = .ok (.getfield 19, 3) := by decide +kernel
theorem dX11_most_41 : decode cX11_most 41 = .ok (.iconst (-1), 1) := by decide +kernel
theorem dX11_most_42 : decode cX11_most 42 = .ok (.ixor, 1) := by decide +kernel
theorem dX11_most_43 : decode cX11_most 43 = .ok (.iand, 1) := by decide +kernel
theorem dX11_most_44 : decode cX11_most 44 = .ok (.iastore, 1) := by decide +kernel
theorem dX11_most_45 : decode cX11_most 45 = .ok (.aload_n 0, 1) := by decide +kernel
theorem dX11_most_46 : decode cX11_most 46 = .ok (.getfield 112, 3) := by decide +kernel
theorem dX11_most_49 : decode cX11_most 49 = .ok (.iconst 0, 1) := by decide +kernel
theorem dX11_most_50 : decode cX11_most 50 = .ok (.iconst 0, 1) := by decide +kernel
theorem dX11_most_51 : decode cX11_most 51 = .ok (.iastore, 1) := by decide +kernel
theorem dX11_most_52 : decode cX11_most 52 = .ok (.iload_n 3, 1) := by decide +kernel
theorem dX11_most_53 : decode cX11_most 53 = .ok (.ifCond .le 136, 3) := by decide +kernel
theorem dX11_most_56 : decode cX11_most 56 = .ok (.iinc 3 (-1), 3) := by decide +kernel
theorem dX11_most_59 : decode cX11_most 59 = .ok (.aload_n 0, 1) := by decide +kernel
theorem dX11_most_60 : decode cX11_most 60 = .ok (.getfield 109, 3) := by decide +kernel
theorem dX11_most_63 : decode cX11_most 63 = .ok (.iload_n 3, 1) := by decide +kernel
theorem dX11_most_64 : decode cX11_most 64 = .ok (.iaload, 1) := by decide +kernel
theorem dX11_most_65 : decode cX11_most 65 = .ok (.istore 4, 2) := by decide +kernel
theorem dX11_most_67 : decode cX11_most 67 = .ok (.aload_n 0, 1) := by decide +kernel
theorem dX11_most_68 : decode cX11_most 68 = .ok (.getfield 112, 3) := by decide +kernel
theorem dX11_most_71 : decode cX11_most 71 = .ok (.iload_n 3, 1) := by decide +kernel
theorem dX11_most_72 : decode cX11_most 72 = .ok (.iaload, 1) := by decide +kernel
theorem dX11_most_73 : decode cX11_most 73 = .ok (.istore 5, 2) := by decide +kernel
theorem dX11_most_75 : decode cX11_most 75 = .ok (.iload 5, 2) := by decide +kernel
theorem dX11_most_77 : decode cX11_most 77 = .ok (.iload_n 2, 1) := by decide +kernel
theorem dX11_most_78 : decode cX11_most 78 = .ok (.if_icmp .le 8, 3) := by decide +kernel
theorem dX11_most_81 : decode cX11_most 81 = .ok (.iload 5, 2) := by decide +kernel
theorem dX11_most_83 : decode cX11_most 83 = .ok (.goto 4, 3) := by decide +kernel
theorem dX11_most_86 : decode cX11_most 86 = .ok (.iload_n 2, 1) := by decide +kernel
theorem dX11_most_87 : decode cX11_most 87 = .ok (.istore_n 2, 1) := by decide +kernel
theorem dX11_most_88 : decode cX11_most 88 = .ok (.iload 5, 2) := by decide +kernel
theorem dX11_most_90 : decode cX11_most 90 = .ok (.aload_n 0, 1) := by decide +kernel
theorem dX11_most_91 : decode cX11_most 91 = .ok (.iload 4, 2) := by decide +kernel
theorem dX11_most_93 : decode cX11_most 93 = .ok (.invokevirtual 242, 3) := by decide +kernel
theorem dX11_most_96 : decode cX11_most 96 = .ok (.iadd, 1) := by decide +kernel
theorem dX11_most_97 : decode cX11_most 97 = .ok (.iload_n 2, 1) := by decide +kernel
theorem dX11_most_98 : decode cX11_most 98 = .ok (.if_icmp .gt 6, 3) := by decide +kernel
theorem dX11_most_101 : decode cX11_most 101 = .ok (.goto (-49), 3) := by decide +kernel
theorem dX11_most_104 : decode cX11_most 104 = .ok (.aload_n 0, 1) := by decide +kernel
theorem dX11_most_105 : decode cX11_most 105 = .ok (.iload 4, 2) := by decide +kernel
theorem dX11_most_107 : decode cX11_most 107 = .ok (.invokevirtual 374, 3) := by decide +kernel
theorem dX11_most_110 : decode cX11_most 110 = .ok (.istore 6, 2) := by decide +kernel
theorem dX11_most_112 : decode cX11_most 112 = .ok (.iload 4, 2) := by decide +kernel
theorem dX11_most_114 : decode cX11_most 114 = .ok (.iconst 1, 1) := by decide +kernel
theorem dX11_most_115 : decode cX11_most 115 = .ok (.iload 6, 2) := by decide +kernel
theorem dX11_most_117 : decode cX11_most 117 = .ok (.ishl, 1) := by decide +kernel
theorem dX11_most_118 : decode cX11_most 118 = .ok (.iconst (-1), 1) := by decide +kernel
theorem dX11_most_119 : decode cX11_most 119 = .ok (.ixor, 1) := by decide +kernel
theorem dX11_most_120 : decode cX11_most 120 = .ok (.iand, 1) := by decide +kernel
theorem dX11_most_121 : decode cX11_most 121 = .ok (.istore 7, 2) := by decide +kernel
theorem dX11_most_123 : decode cX11_most 123 = .ok (.aload_n 0, 1) := by decide +kernel
theorem dX11_most_124 : decode cX11_most 124 = .ok (.getfield 100, 3) := by decide +kernel
theorem dX11_most_127 : decode cX11_most 127 = .ok (.iload 6, 2) := by decide +kernel
theorem dX11_most_129 : decode cX11_most 129 = .ok (.iaload, 1) := by decide +kernel
theorem dX11_most_130 : decode cX11_most 130 = .ok (.iload 7, 2) := by decide +kernel
theorem dX11_most_132 : decode cX11_most 132 = .ok (.iand, 1) := by decide +kernel
theorem dX11_most_133 : decode cX11_most 133 = .ok (.ifCond .eq 22, 3) := by decide +kernel
theorem dX11_most_136 : decode cX11_most 136 = .ok (.aload_n 0, 1) := by decide +kernel
theorem dX11_most_137 : decode cX11_most 137 = .ok (.getfield 109, 3) := by decide +kernel
theorem dX11_most_140 : decode cX11_most 140 = .ok (.iload_n 3, 1) := by decide +kernel
theorem dX11_most_141 : decode cX11_most 141 = .ok (.iload 7, 2) := by decide +kernel
theorem dX11_most_143 : decode cX11_most 143 = .ok (.iastore, 1) := by decide +kernel
theorem dX11_most_144 : decode cX11_most 144 = .ok (.aload_n 0, 1) := by decide +kernel
theorem dX11_most_145 : decode cX11_most 145 = .ok (.getfield 112, 3) := by decide +kernel
theorem dX11_most_148 : decode cX11_most 148 = .ok (.iload_n 3, 1) := by decide +kernel
theorem dX11_most_149 : decode cX11_most 149 = .ok (.iload 5, 2) := by decide +kernel
theorem dX11_most_151 : decode cX11_most 151 = .ok (.iastore, 1) := by decide +kernel
theorem dX11_most_152 : decode cX11_most 152 = .ok (.iinc 3 1, 3) := by decide +kernel
theorem dX11_most_155 : decode cX11_most 155 = .ok (.aload_n 0, 1) := by decide +kernel
theorem dX11_most_156 : decode cX11_most 156 = .ok (.getfield 109, 3) := by decide +kernel
theorem dX11_most_159 : decode cX11_most 159 = .ok (.iload_n 3, 1) := by decide +kernel
theorem dX11_most_160 : decode cX11_most 160 = .ok (.iload 7, 2) := by decide +kernel
theorem dX11_most_162 : decode cX11_most 162 = .ok (.aload_n 0, 1) := by decide +kernel
theorem dX11_most_163 : decode cX11_most 163 = .ok (.getfield 100, 3) := by decide +kernel
theorem dX11_most_166 : decode cX11_most 166 = .ok (.iload 6, 2) := by decide +kernel
theorem dX11_most_168 : decode cX11_most 168 = .ok (.iaload, 1) := by decide +kernel
theorem dX11_most_169 : decode cX11_most 169 = .ok (.iconst (-1), 1) := by decide +kernel
theorem dX11_most_170 : decode cX11_most 170 = .ok (.ixor, 1) := by decide +kernel
theorem dX11_most_171 : decode cX11_most 171 = .ok (.iand, 1) := by decide +kernel
theorem dX11_most_172 : decode cX11_most 172 = .ok (.iastore, 1) := by decide +kernel
theorem dX11_most_173 : decode cX11_most 173 = .ok (.aload_n 0, 1) := by decide +kernel
theorem dX11_most_174 : decode cX11_most 174 = .ok (.getfield 112, 3) := by decide +kernel
theorem dX11_most_177 : decode cX11_most 177 = .ok (.iload_n 3, 1) := by decide +kernel
theorem dX11_most_178 : decode cX11_most 178 = .ok (.iload 5, 2) := by decide +kernel
theorem dX11_most_180 : decode cX11_most 180 = .ok (.iconst 1, 1) := by decide +kernel
theorem dX11_most_181 : decode cX11_most 181 = .ok (.iadd, 1) := by decide +kernel
theorem dX11_most_182 : decode cX11_most 182 = .ok (.iastore, 1) := by decide +kernel
theorem dX11_most_183 : decode cX11_most 183 = .ok (.iinc 3 1, 3) := by decide +kernel
theorem dX11_most_186 : decode cX11_most 186 = .ok (.goto (-134), 3) := by decide +kernel
theorem dX11_most_189 : decode cX11_most 189 = .ok (.iload_n 2, 1) := by decide +kernel
theorem dX11_most_190 : decode cX11_most 190 = .ok (.ireturn, 1) := by decide +kernel
theorem dX11_tries_0 : decode cX11_tries 0 = .ok (.iload_n 2, 1) := by decide +kernel
theorem dX11_tries_1 : decode cX11_tries 1 = .ok (.iload 4, 2) := by decide +kernel
theorem dX11_tries_3 : decode cX11_tries 3 = .ok (.if_icmp .ne 36, 3) := by decide +kernel
theorem dX11_tries_6 : decode cX11_tries 6 = .ok (.aload_n 0, 1) := by decide +kernel
theorem dX11_tries_7 : decode cX11_tries 7 = .ok (.getfield 118, 3) := by decide +kernel
theorem dX11_tries_10 : decode cX11_tries 10 = .ok (.bipush (-5), 2) := by decide +kernel
theorem dX11_tries_12 : decode cX11_tries 12 = .ok (.if_icmp .eq 28, 3) := by decide +kernel
theorem dX11_tries_15 : decode cX11_tries 15 = .ok (.iload_n 3, 1) := by decide +kernel
theorem dX11_tries_16 : decode cX11_tries 16 = .ok (.aload_n 0, 1) := by decide +kernel
theorem dX11_tries_17 : decode cX11_tries 17 = .ok (.getfield 118, 3) := by decide +kernel
theorem dX11_tries_20 : decode cX11_tries 20 = .ok (.if_icmp .gt 19, 3) := by decide +kernel
theorem dX11_tries_23 : decode cX11_tries 23 = .ok (.iload_n 3, 1) := by decide +kernel
theorem dX11_tries_24 : decode cX11_tries 24 = .ok (.aload_n 0, 1) := by decide +kernel
theorem dX11_tries_25 : decode cX11_tries 25 = .ok (.getfield 118, 3) := by decide +kernel
theorem dX11_tries_28 : decode cX11_tries 28 = .ok (.if_icmp .ne 12, 3) := by decide +kernel
theorem dX11_tries_31 : decode cX11_tries 31 = .ok (.iload_n 1, 1) := by decide +kernel
theorem dX11_tries_32 : decode cX11_tries 32 = .ok (.aload_n 0, 1) := by decide +kernel
theorem dX11_tries_33 : decode cX11_tries 33 = .ok (.getfield 121, 3) := by decide +kernel
theorem dX11_tries_36 : decode cX11_tries 36 = .ok (.if_icmp .lt 4, 3) := by decide +kernel
theorem dX11_tries_39 : decode cX11_tries 39 = .ok (.return_, 1) := by decide +kernel
theorem dX11_tries_40 : decode cX11_tries 40 = .ok (.aload_n 0, 1) := by decide +kernel
theorem dX11_tries_41 : decode cX11_tries 41 = .ok (.iload_n 3, 1) := by decide +kernel
theorem dX11_tries_42 : decode cX11_tries 42 = .ok (.putfield 118, 3) := by decide +kernel
theorem dX11_tries_45 : decode cX11_tries 45 = .ok (.aload_n 0, 1) := by decide +kernel
theorem dX11_tries_46 : decode cX11_tries 46 = .ok (.iload_n 1, 1) := by decide +kernel
theorem dX11_tries_47 : decode cX11_tries 47 = .ok (.putfield 121, 3) := by decide +kernel
theorem dX11_tries_50 : decode cX11_tries 50 = .ok (.return_, 1) := by decide +kernel
theorem dX11_mayHold_0 : decode cX11_mayHold 0 = .ok (.aload_n 0, 1) := by decide +kernel
theorem dX11_mayHold_1 : decode cX11_mayHold 1 = .ok (.aload_n 0, 1) := by decide +kernel
theorem dX11_mayHold_2 : decode cX11_mayHold 2 = .ok (.getfield 19, 3) := by decide +kernel
theorem dX11_mayHold_5 : decode cX11_mayHold 5 = .ok (.iload_n 1, 1) := by decide +kernel
theorem dX11_mayHold_6 : decode cX11_mayHold 6 = .ok (.invokevirtual 323, 3) := by decide +kernel
theorem dX11_mayHold_9 : decode cX11_mayHold 9 = .ok (.ifCond .ne 7, 3) := by decide +kernel
theorem dX11_mayHold_12 : decode cX11_mayHold 12 = .ok (.iconst 1, 1) := by decide +kernel
theorem dX11_mayHold_13 : decode cX11_mayHold 13 = .ok (.goto 4, 3) := by decide +kernel
theorem dX11_mayHold_16 : decode cX11_mayHold 16 = .ok (.iconst 0, 1) := by decide +kernel
theorem dX11_mayHold_17 : decode cX11_mayHold 17 = .ok (.ireturn, 1) := by decide +kernel
theorem dX11_layHold_0 : decode cX11_layHold 0 = .ok (.aload_n 0, 1) := by decide +kernel
theorem dX11_layHold_1 : decode cX11_layHold 1 = .ok (.getfield 13, 3) := by decide +kernel
theorem dX11_layHold_4 : decode cX11_layHold 4 = .ok (.aload_n 0, 1) := by decide +kernel
theorem dX11_layHold_5 : decode cX11_layHold 5 = .ok (.getfield 13, 3) := by decide +kernel
theorem dX11_layHold_8 : decode cX11_layHold 8 = .ok (.imul, 1) := by decide +kernel
theorem dX11_layHold_9 : decode cX11_layHold 9 = .ok (.istore_n 2, 1) := by decide +kernel
theorem dX11_layHold_10 : decode cX11_layHold 10 = .ok (.iconst 1, 1) := by decide +kernel
theorem dX11_layHold_11 : decode cX11_layHold 11 = .ok (.iload_n 2, 1) := by decide +kernel
theorem dX11_layHold_12 : decode cX11_layHold 12 = .ok (.ishl, 1) := by decide +kernel
theorem dX11_layHold_13 : decode cX11_layHold 13 = .ok (.iconst 1, 1) := by decide +kernel
theorem dX11_layHold_14 : decode cX11_layHold 14 = .ok (.isub, 1) := by decide +kernel
theorem dX11_layHold_15 : decode cX11_layHold 15 = .ok (.aload_n 0, 1) := by decide +kernel
theorem dX11_layHold_16 : decode cX11_layHold 16 = .ok (.getfield 16, 3) := by decide +kernel
theorem dX11_layHold_19 : decode cX11_layHold 19 = .ok (.iconst (-1), 1) := by decide +kernel
theorem dX11_layHold_20 : decode cX11_layHold 20 = .ok (.ixor, 1) := by decide +kernel
theorem dX11_layHold_21 : decode cX11_layHold 21 = .ok (.iand, 1) := by decide +kernel
theorem dX11_layHold_22 : decode cX11_layHold 22 = .ok (.istore_n 3, 1) := by decide +kernel
theorem dX11_layHold_23 : decode cX11_layHold 23 = .ok (.iconst 0, 1) := by decide +kernel
theorem dX11_layHold_24 : decode cX11_layHold 24 = .ok (.istore 4, 2) := by decide +kernel
theorem dX11_layHold_26 : decode cX11_layHold 26 = .ok (.iload 4, 2) := by decide +kernel
theorem dX11_layHold_28 : decode cX11_layHold 28 = .ok (.iload_n 2, 1) := by decide +kernel
theorem dX11_layHold_29 : decode cX11_layHold 29 = .ok (.if_icmp .ge 30, 3) := by decide +kernel
theorem dX11_layHold_32 : decode cX11_layHold 32 = .ok (.aload_n 0, 1) := by decide +kernel
theorem dX11_layHold_33 : decode cX11_layHold 33 = .ok (.getfield 115, 3) := by decide +kernel
theorem dX11_layHold_36 : decode cX11_layHold 36 = .ok (.iload 4, 2) := by decide +kernel
theorem dX11_layHold_38 : decode cX11_layHold 38 = .ok (.aload_n 0, 1) := by decide +kernel
theorem dX11_layHold_39 : decode cX11_layHold 39 = .ok (.iload_n 1, 1) := by decide +kernel
theorem dX11_layHold_40 : decode cX11_layHold 40 = .ok (.iload 4, 2) := by decide +kernel
theorem dX11_layHold_42 : decode cX11_layHold 42 = .ok (.invokevirtual 344, 3) := by decide +kernel
theorem dX11_layHold_45 : decode cX11_layHold 45 = .ok (.iconst 1, 1) := by decide +kernel
theorem dX11_layHold_46 : decode cX11_layHold 46 = .ok (.iload 4, 2) := by decide +kernel
theorem dX11_layHold_48 : decode cX11_layHold 48 = .ok (.ishl, 1) := by decide +kernel
theorem dX11_layHold_49 : decode cX11_layHold 49 = .ok (.ior, 1) := by decide +kernel
theorem dX11_layHold_50 : decode cX11_layHold 50 = .ok (.iload_n 3, 1) := by decide +kernel
theorem dX11_layHold_51 : decode cX11_layHold 51 = .ok (.iand, 1) := by decide +kernel
theorem dX11_layHold_52 : decode cX11_layHold 52 = .ok (.iastore, 1) := by decide +kernel
theorem dX11_layHold_53 : decode cX11_layHold 53 = .ok (.iinc 4 1, 3) := by decide +kernel
theorem dX11_layHold_56 : decode cX11_layHold 56 = .ok (.goto (-30), 3) := by decide +kernel
theorem dX11_layHold_59 : decode cX11_layHold 59 = .ok (.aload_n 0, 1) := by decide +kernel
theorem dX11_layHold_60 : decode cX11_layHold 60 = .ok (.bipush (-5), 2) := by decide +kernel
theorem dX11_layHold_62 : decode cX11_layHold 62 = .ok (.putfield 118, 3) := by decide +kernel
theorem dX11_layHold_65 : decode cX11_layHold 65 = .ok (.aload_n 0, 1) := by decide +kernel
theorem dX11_layHold_66 : decode cX11_layHold 66 = .ok (.bipush (-5), 2) := by decide +kernel
theorem dX11_layHold_68 : decode cX11_layHold 68 = .ok (.putfield 121, 3) := by decide +kernel
theorem dX11_layHold_71 : decode cX11_layHold 71 = .ok (.iconst 0, 1) := by decide +kernel
theorem dX11_layHold_72 : decode cX11_layHold 72 = .ok (.istore 4, 2) := by decide +kernel
theorem dX11_layHold_74 : decode cX11_layHold 74 = .ok (.iload 4, 2) := by decide +kernel
theorem dX11_layHold_76 : decode cX11_layHold 76 = .ok (.iload_n 2, 1) := by decide +kernel
theorem dX11_layHold_77 : decode cX11_layHold 77 = .ok (.if_icmp .ge 35, 3) := by decide +kernel
theorem dX11_layHold_80 : decode cX11_layHold 80 = .ok (.aload_n 0, 1) := by decide +kernel
theorem dX11_layHold_81 : decode cX11_layHold 81 = .ok (.iload 4, 2) := by decide +kernel
theorem dX11_layHold_83 : decode cX11_layHold 83 = .ok (.invokevirtual 377, 3) := by decide +kernel
theorem dX11_layHold_86 : decode cX11_layHold 86 = .ok (.ifCond .eq 20, 3) := by decide +kernel
theorem dX11_layHold_89 : decode cX11_layHold 89 = .ok (.aload_n 0, 1) := by decide +kernel
theorem dX11_layHold_90 : decode cX11_layHold 90 = .ok (.iconst 1, 1) := by decide +kernel
theorem dX11_layHold_91 : decode cX11_layHold 91 = .ok (.iload 4, 2) := by decide +kernel
theorem dX11_layHold_93 : decode cX11_layHold 93 = .ok (.ishl, 1) := by decide +kernel
theorem dX11_layHold_94 : decode cX11_layHold 94 = .ok (.aload_n 0, 1) := by decide +kernel
theorem dX11_layHold_95 : decode cX11_layHold 95 = .ok (.getfield 115, 3) := by decide +kernel
theorem dX11_layHold_98 : decode cX11_layHold 98 = .ok (.iload 4, 2) := by decide +kernel
theorem dX11_layHold_100 : decode cX11_layHold 100 = .ok (.iaload, 1) := by decide +kernel
theorem dX11_layHold_101 : decode cX11_layHold 101 = .ok (.iconst 1, 1) := by decide +kernel
theorem dX11_layHold_102 : decode cX11_layHold 102 = .ok (.iload_n 3, 1) := by decide +kernel
theorem dX11_layHold_103 : decode cX11_layHold 103 = .ok (.invokevirtual 380, 3) := by decide +kernel
theorem dX11_layHold_106 : decode cX11_layHold 106 = .ok (.iinc 4 1, 3) := by decide +kernel
theorem dX11_layHold_109 : decode cX11_layHold 109 = .ok (.goto (-35), 3) := by decide +kernel
theorem dX11_layHold_112 : decode cX11_layHold 112 = .ok (.iconst 0, 1) := by decide +kernel
theorem dX11_layHold_113 : decode cX11_layHold 113 = .ok (.istore 4, 2) := by decide +kernel
theorem dX11_layHold_115 : decode cX11_layHold 115 = .ok (.iload 4, 2) := by decide +kernel
theorem dX11_layHold_117 : decode cX11_layHold 117 = .ok (.iload_n 2, 1) := by decide +kernel
theorem dX11_layHold_118 : decode cX11_layHold 118 = .ok (.if_icmp .ge 80, 3) := by decide +kernel
theorem dX11_layHold_121 : decode cX11_layHold 121 = .ok (.aload_n 0, 1) := by decide +kernel
theorem dX11_layHold_122 : decode cX11_layHold 122 = .ok (.getfield 118, 3) := by decide +kernel
theorem dX11_layHold_125 : decode cX11_layHold 125 = .ok (.ifCond .ge 73, 3) := by decide +kernel
theorem dX11_layHold_128 : decode cX11_layHold 128 = .ok (.iconst 0, 1) := by decide +kernel
theorem dX11_layHold_129 : decode cX11_layHold 129 = .ok (.istore 5, 2) := by decide +kernel
theorem dX11_layHold_131 : decode cX11_layHold 131 = .ok (.iload 5, 2) := by decide +kernel
theorem dX11_layHold_133 : decode cX11_layHold 133 = .ok (.iload 4, 2) := by decide +kernel
theorem dX11_layHold_135 : decode cX11_layHold 135 = .ok (.if_icmp .ge 57, 3) := by decide +kernel
theorem dX11_layHold_138 : decode cX11_layHold 138 = .ok (.aload_n 0, 1) := by decide +kernel
theorem dX11_layHold_139 : decode cX11_layHold 139 = .ok (.iload 4, 2) := by decide +kernel
theorem dX11_layHold_141 : decode cX11_layHold 141 = .ok (.invokevirtual 377, 3) := by decide +kernel
theorem dX11_layHold_144 : decode cX11_layHold 144 = .ok (.ifCond .eq 42, 3) := by decide +kernel
theorem dX11_layHold_147 : decode cX11_layHold 147 = .ok (.aload_n 0, 1) := by decide +kernel
theorem dX11_layHold_148 : decode cX11_layHold 148 = .ok (.iload 5, 2) := by decide +kernel
theorem dX11_layHold_150 : decode cX11_layHold 150 = .ok (.invokevirtual 377, 3) := by decide +kernel
theorem dX11_layHold_153 : decode cX11_layHold 153 = .ok (.ifCond .eq 33, 3) := by decide +kernel
theorem dX11_layHold_156 : decode cX11_layHold 156 = .ok (.aload_n 0, 1) := by decide +kernel
theorem dX11_layHold_157 : decode cX11_layHold 157 = .ok (.iconst 1, 1) := by decide +kernel
theorem dX11_layHold_158 : decode cX11_layHold 158 = .ok (.iload 4, 2) := by decide +kernel
theorem dX11_layHold_160 : decode cX11_layHold 160 = .ok (.ishl, 1) := by decide +kernel
theorem dX11_layHold_161 : decode cX11_layHold 161 = .ok (.iconst 1, 1) := by decide +kernel
theorem dX11_layHold_162 : decode cX11_layHold 162 = .ok (.iload 5, 2) := by decide +kernel
theorem dX11_layHold_164 : decode cX11_layHold 164 = .ok (.ishl, 1) := by decide +kernel
theorem dX11_layHold_165 : decode cX11_layHold 165 = .ok (.ior, 1) := by decide +kernel
theorem dX11_layHold_166 : decode cX11_layHold 166 = .ok (.aload_n 0, 1) := by decide +kernel
theorem dX11_layHold_167 : decode cX11_layHold 167 = .ok (.getfield 115, 3) := by decide +kernel
theorem dX11_layHold_170 : decode cX11_layHold 170 = .ok (.iload 4, 2) := by decide +kernel
theorem dX11_layHold_172 : decode cX11_layHold 172 = .ok (.iaload, 1) := by decide +kernel
theorem dX11_layHold_173 : decode cX11_layHold 173 = .ok (.aload_n 0, 1) := by decide +kernel
theorem dX11_layHold_174 : decode cX11_layHold 174 = .ok (.getfield 115, 3) := by decide +kernel
theorem dX11_layHold_177 : decode cX11_layHold 177 = .ok (.iload 5, 2) := by decide +kernel
theorem dX11_layHold_179 : decode cX11_layHold 179 = .ok (.iaload, 1) := by decide +kernel
theorem dX11_layHold_180 : decode cX11_layHold 180 = .ok (.ior, 1) := by decide +kernel
theorem dX11_layHold_181 : decode cX11_layHold 181 = .ok (.iconst 2, 1) := by decide +kernel
theorem dX11_layHold_182 : decode cX11_layHold 182 = .ok (.iload_n 3, 1) := by decide +kernel
theorem dX11_layHold_183 : decode cX11_layHold 183 = .ok (.invokevirtual 380, 3) := by decide +kernel
theorem dX11_layHold_186 : decode cX11_layHold 186 = .ok (.iinc 5 1, 3) := by decide +kernel
theorem dX11_layHold_189 : decode cX11_layHold 189 = .ok (.goto (-58), 3) := by decide +kernel
theorem dX11_layHold_192 : decode cX11_layHold 192 = .ok (.iinc 4 1, 3) := by decide +kernel
theorem dX11_layHold_195 : decode cX11_layHold 195 = .ok (.goto (-80), 3) := by decide +kernel
theorem dX11_layHold_198 : decode cX11_layHold 198 = .ok (.aload_n 0, 1) := by decide +kernel
theorem dX11_layHold_199 : decode cX11_layHold 199 = .ok (.getfield 118, 3) := by decide +kernel
theorem dX11_layHold_202 : decode cX11_layHold 202 = .ok (.ifCond .ge 7, 3) := by decide +kernel
theorem dX11_layHold_205 : decode cX11_layHold 205 = .ok (.iconst 1, 1) := by decide +kernel
theorem dX11_layHold_206 : decode cX11_layHold 206 = .ok (.goto 4, 3) := by decide +kernel
theorem dX11_layHold_209 : decode cX11_layHold 209 = .ok (.iconst 0, 1) := by decide +kernel
theorem dX11_layHold_210 : decode cX11_layHold 210 = .ok (.istore 4, 2) := by decide +kernel
theorem dX11_layHold_212 : decode cX11_layHold 212 = .ok (.iconst 0, 1) := by decide +kernel
theorem dX11_layHold_213 : decode cX11_layHold 213 = .ok (.istore 5, 2) := by decide +kernel
theorem dX11_layHold_215 : decode cX11_layHold 215 = .ok (.iload 5, 2) := by decide +kernel
theorem dX11_layHold_217 : decode cX11_layHold 217 = .ok (.iload_n 2, 1) := by decide +kernel
theorem dX11_layHold_218 : decode cX11_layHold 218 = .ok (.if_icmp .ge 116, 3) := by decide +kernel
theorem dX11_layHold_221 : decode cX11_layHold 221 = .ok (.iload 4, 2) := by decide +kernel
theorem dX11_layHold_223 : decode cX11_layHold 223 = .ok (.ifCond .eq 111, 3) := by decide +kernel
theorem dX11_layHold_226 : decode cX11_layHold 226 = .ok (.iconst 0, 1) := by decide +kernel
theorem dX11_layHold_227 : decode cX11_layHold 227 = .ok (.istore 6, 2) := by decide +kernel
theorem dX11_layHold_229 : decode cX11_layHold 229 = .ok (.iload 6, 2) := by decide +kernel
theorem dX11_layHold_231 : decode cX11_layHold 231 = .ok (.iload 5, 2) := by decide +kernel
theorem dX11_layHold_233 : decode cX11_layHold 233 = .ok (.if_icmp .ge 95, 3) := by decide +kernel
theorem dX11_layHold_236 : decode cX11_layHold 236 = .ok (.iconst 0, 1) := by decide +kernel
theorem dX11_layHold_237 : decode cX11_layHold 237 = .ok (.istore 7, 2) := by decide +kernel
theorem dX11_layHold_239 : decode cX11_layHold 239 = .ok (.iload 7, 2) := by decide +kernel
theorem dX11_layHold_241 : decode cX11_layHold 241 = .ok (.iload 6, 2) := by decide +kernel
theorem dX11_layHold_243 : decode cX11_layHold 243 = .ok (.if_icmp .ge 79, 3) := by decide +kernel
theorem dX11_layHold_246 : decode cX11_layHold 246 = .ok (.aload_n 0, 1) := by decide +kernel
theorem dX11_layHold_247 : decode cX11_layHold 247 = .ok (.iload 5, 2) := by decide +kernel
theorem dX11_layHold_249 : decode cX11_layHold 249 = .ok (.invokevirtual 377, 3) := by decide +kernel
theorem dX11_layHold_252 : decode cX11_layHold 252 = .ok (.ifCond .eq 64, 3) := by decide +kernel
theorem dX11_layHold_255 : decode cX11_layHold 255 = .ok (.aload_n 0, 1) := by decide +kernel
theorem dX11_layHold_256 : decode cX11_layHold 256 = .ok (.iload 6, 2) := by decide +kernel
theorem dX11_layHold_258 : decode cX11_layHold 258 = .ok (.invokevirtual 377, 3) := by decide +kernel
theorem dX11_layHold_261 : decode cX11_layHold 261 = .ok (.ifCond .eq 55, 3) := by decide +kernel
theorem dX11_layHold_264 : decode cX11_layHold 264 = .ok (.aload_n 0, 1) := by decide +kernel
theorem dX11_layHold_265 : decode cX11_layHold 265 = .ok (.iload 7, 2) := by decide +kernel
theorem dX11_layHold_267 : decode cX11_layHold 267 = .ok (.invokevirtual 377, 3) := by decide +kernel
theorem dX11_layHold_270 : decode cX11_layHold 270 = .ok (.ifCond .eq 46, 3) := by decide +kernel
theorem dX11_layHold_273 : decode cX11_layHold 273 = .ok (.aload_n 0, 1) := by decide +kernel
theorem dX11_layHold_274 : decode cX11_layHold 274 = .ok (.iconst 1, 1) := by decide +kernel
theorem dX11_layHold_275 : decode cX11_layHold 275 = .ok (.iload 5, 2) := by decide +kernel
theorem dX11_layHold_277 : decode cX11_layHold 277 = .ok (.ishl, 1) := by decide +kernel
theorem dX11_layHold_278 : decode cX11_layHold 278 = .ok (.iconst 1, 1) := by decide +kernel
theorem dX11_layHold_279 : decode cX11_layHold 279 = .ok (.iload 6, 2) := by decide +kernel
theorem dX11_layHold_281 : decode cX11_layHold 281 = .ok (.ishl, 1) := by decide +kernel
theorem dX11_layHold_282 : decode cX11_layHold 282 = .ok (.ior, 1) := by decide +kernel
theorem dX11_layHold_283 : decode cX11_layHold 283 = .ok (.iconst 1, 1) := by decide +kernel
theorem dX11_layHold_284 : decode cX11_layHold 284 = .ok (.iload 7, 2) := by decide +kernel
theorem dX11_layHold_286 : decode cX11_layHold 286 = .ok (.ishl, 1) := by decide +kernel
theorem dX11_layHold_287 : decode cX11_layHold 287 = .ok (.ior, 1) := by decide +kernel
theorem dX11_layHold_288 : decode cX11_layHold 288 = .ok (.aload_n 0, 1) := by decide +kernel
theorem dX11_layHold_289 : decode cX11_layHold 289 = .ok (.getfield 115, 3) := by decide +kernel
theorem dX11_layHold_292 : decode cX11_layHold 292 = .ok (.iload 5, 2) := by decide +kernel
theorem dX11_layHold_294 : decode cX11_layHold 294 = .ok (.iaload, 1) := by decide +kernel
theorem dX11_layHold_295 : decode cX11_layHold 295 = .ok (.aload_n 0, 1) := by decide +kernel
theorem dX11_layHold_296 : decode cX11_layHold 296 = .ok (.getfield 115, 3) := by decide +kernel
theorem dX11_layHold_299 : decode cX11_layHold 299 = .ok (.iload 6, 2) := by decide +kernel
theorem dX11_layHold_301 : decode cX11_layHold 301 = .ok (.iaload, 1) := by decide +kernel
theorem dX11_layHold_302 : decode cX11_layHold 302 = .ok (.ior, 1) := by decide +kernel
theorem dX11_layHold_303 : decode cX11_layHold 303 = .ok (.aload_n 0, 1) := by decide +kernel
theorem dX11_layHold_304 : decode cX11_layHold 304 = .ok (.getfield 115, 3) := by decide +kernel
theorem dX11_layHold_307 : decode cX11_layHold 307 = .ok (.iload 7, 2) := by decide +kernel
theorem dX11_layHold_309 : decode cX11_layHold 309 = .ok (.iaload, 1) := by decide +kernel
theorem dX11_layHold_310 : decode cX11_layHold 310 = .ok (.ior, 1) := by decide +kernel
theorem dX11_layHold_311 : decode cX11_layHold 311 = .ok (.iconst 3, 1) := by decide +kernel
theorem dX11_layHold_312 : decode cX11_layHold 312 = .ok (.iload_n 3, 1) := by decide +kernel
theorem dX11_layHold_313 : decode cX11_layHold 313 = .ok (.invokevirtual 380, 3) := by decide +kernel
theorem dX11_layHold_316 : decode cX11_layHold 316 = .ok (.iinc 7 1, 3) := by decide +kernel
theorem dX11_layHold_319 : decode cX11_layHold 319 = .ok (.goto (-80), 3) := by decide +kernel
theorem dX11_layHold_322 : decode cX11_layHold 322 = .ok (.iinc 6 1, 3) := by decide +kernel
theorem dX11_layHold_325 : decode cX11_layHold 325 = .ok (.goto (-96), 3) := by decide +kernel
theorem dX11_layHold_328 : decode cX11_layHold 328 = .ok (.iinc 5 1, 3) := by decide +kernel
theorem dX11_layHold_331 : decode cX11_layHold 331 = .ok (.goto (-116), 3) := by decide +kernel
theorem dX11_layHold_334 : decode cX11_layHold 334 = .ok (.aload_n 0, 1) := by decide +kernel
theorem dX11_layHold_335 : decode cX11_layHold 335 = .ok (.getfield 118, 3) := by decide +kernel
theorem dX11_layHold_338 : decode cX11_layHold 338 = .ok (.ifCond .ge 7, 3) := by decide +kernel
theorem dX11_layHold_341 : decode cX11_layHold 341 = .ok (.iconst 1, 1) := by decide +kernel
theorem dX11_layHold_342 : decode cX11_layHold 342 = .ok (.goto 4, 3) := by decide +kernel
theorem dX11_layHold_345 : decode cX11_layHold 345 = .ok (.iconst 0, 1) := by decide +kernel
theorem dX11_layHold_346 : decode cX11_layHold 346 = .ok (.istore 4, 2) := by decide +kernel
theorem dX11_layHold_348 : decode cX11_layHold 348 = .ok (.iconst 0, 1) := by decide +kernel
theorem dX11_layHold_349 : decode cX11_layHold 349 = .ok (.istore 5, 2) := by decide +kernel
theorem dX11_layHold_351 : decode cX11_layHold 351 = .ok (.iload 5, 2) := by decide +kernel
theorem dX11_layHold_353 : decode cX11_layHold 353 = .ok (.iload_n 2, 1) := by decide +kernel
theorem dX11_layHold_354 : decode cX11_layHold 354 = .ok (.if_icmp .ge 154, 3) := by decide +kernel
theorem dX11_layHold_357 : decode cX11_layHold 357 = .ok (.iload 4, 2) := by decide +kernel
theorem dX11_layHold_359 : decode cX11_layHold 359 = .ok (.ifCond .eq 149, 3) := by decide +kernel
theorem dX11_layHold_362 : decode cX11_layHold 362 = .ok (.iconst 0, 1) := by decide +kernel
theorem dX11_layHold_363 : decode cX11_layHold 363 = .ok (.istore 6, 2) := by decide +kernel
theorem dX11_layHold_365 : decode cX11_layHold 365 = .ok (.iload 6, 2) := by decide +kernel
theorem dX11_layHold_367 : decode cX11_layHold 367 = .ok (.iload 5, 2) := by decide +kernel
theorem dX11_layHold_369 : decode cX11_layHold 369 = .ok (.if_icmp .ge 133, 3) := by decide +kernel
theorem dX11_layHold_372 : decode cX11_layHold 372 = .ok (.aload_n 0, 1) := by decide +kernel
theorem dX11_layHold_373 : decode cX11_layHold 373 = .ok (.iload 5, 2) := by decide +kernel
theorem dX11_layHold_375 : decode cX11_layHold 375 = .ok (.invokevirtual 377, 3) := by decide +kernel
theorem dX11_layHold_378 : decode cX11_layHold 378 = .ok (.ifCond .eq 124, 3) := by decide +kernel
theorem dX11_layHold_381 : decode cX11_layHold 381 = .ok (.iconst 0, 1) := by decide +kernel
theorem dX11_layHold_382 : decode cX11_layHold 382 = .ok (.istore 7, 2) := by decide +kernel
theorem dX11_layHold_384 : decode cX11_layHold 384 = .ok (.iload 7, 2) := by decide +kernel
theorem dX11_layHold_386 : decode cX11_layHold 386 = .ok (.iload 6, 2) := by decide +kernel
theorem dX11_layHold_388 : decode cX11_layHold 388 = .ok (.if_icmp .ge 108, 3) := by decide +kernel
theorem dX11_layHold_391 : decode cX11_layHold 391 = .ok (.aload_n 0, 1) := by decide +kernel
theorem dX11_layHold_392 : decode cX11_layHold 392 = .ok (.iload 6, 2) := by decide +kernel
theorem dX11_layHold_394 : decode cX11_layHold 394 = .ok (.invokevirtual 377, 3) := by decide +kernel
theorem dX11_layHold_397 : decode cX11_layHold 397 = .ok (.ifCond .eq 99, 3) := by decide +kernel
theorem dX11_layHold_400 : decode cX11_layHold 400 = .ok (.iconst 0, 1) := by decide +kernel
theorem dX11_layHold_401 : decode cX11_layHold 401 = .ok (.istore 8, 2) := by decide +kernel
theorem dX11_layHold_403 : decode cX11_layHold 403 = .ok (.iload 8, 2) := by decide +kernel
theorem dX11_layHold_405 : decode cX11_layHold 405 = .ok (.iload 7, 2) := by decide +kernel
theorem dX11_layHold_407 : decode cX11_layHold 407 = .ok (.if_icmp .ge 83, 3) := by decide +kernel
theorem dX11_layHold_410 : decode cX11_layHold 410 = .ok (.aload_n 0, 1) := by decide +kernel
theorem dX11_layHold_411 : decode cX11_layHold 411 = .ok (.iload 7, 2) := by decide +kernel
theorem dX11_layHold_413 : decode cX11_layHold 413 = .ok (.invokevirtual 377, 3) := by decide +kernel
theorem dX11_layHold_416 : decode cX11_layHold 416 = .ok (.ifCond .eq 74, 3) := by decide +kernel
theorem dX11_layHold_419 : decode cX11_layHold 419 = .ok (.aload_n 0, 1) := by decide +kernel
theorem dX11_layHold_420 : decode cX11_layHold 420 = .ok (.iload 8, 2) := by decide +kernel
theorem dX11_layHold_422 : decode cX11_layHold 422 = .ok (.invokevirtual 377, 3) := by decide +kernel
theorem dX11_layHold_425 : decode cX11_layHold 425 = .ok (.ifCond .eq 59, 3) := by decide +kernel
theorem dX11_layHold_428 : decode cX11_layHold 428 = .ok (.aload_n 0, 1) := by decide +kernel
theorem dX11_layHold_429 : decode cX11_layHold 429 = .ok (.iconst 1, 1) := by decide +kernel
theorem dX11_layHold_430 : decode cX11_layHold 430 = .ok (.iload 5, 2) := by decide +kernel
theorem dX11_layHold_432 : decode cX11_layHold 432 = .ok (.ishl, 1) := by decide +kernel
theorem dX11_layHold_433 : decode cX11_layHold 433 = .ok (.iconst 1, 1) := by decide +kernel
theorem dX11_layHold_434 : decode cX11_layHold 434 = .ok (.iload 6, 2) := by decide +kernel
theorem dX11_layHold_436 : decode cX11_layHold 436 = .ok (.ishl, 1) := by decide +kernel
theorem dX11_layHold_437 : decode cX11_layHold 437 = .ok (.ior, 1) := by decide +kernel
theorem dX11_layHold_438 : decode cX11_layHold 438 = .ok (.iconst 1, 1) := by decide +kernel
theorem dX11_layHold_439 : decode cX11_layHold 439 = .ok (.iload 7, 2) := by decide +kernel
theorem dX11_layHold_441 : decode cX11_layHold 441 = .ok (.ishl, 1) := by decide +kernel
theorem dX11_layHold_442 : decode cX11_layHold 442 = .ok (.ior, 1) := by decide +kernel
theorem dX11_layHold_443 : decode cX11_layHold 443 = .ok (.iconst 1, 1) := by decide +kernel
theorem dX11_layHold_444 : decode cX11_layHold 444 = .ok (.iload 8, 2) := by decide +kernel
theorem dX11_layHold_446 : decode cX11_layHold 446 = .ok (.ishl, 1) := by decide +kernel
theorem dX11_layHold_447 : decode cX11_layHold 447 = .ok (.ior, 1) := by decide +kernel
theorem dX11_layHold_448 : decode cX11_layHold 448 = .ok (.aload_n 0, 1) := by decide +kernel
theorem dX11_layHold_449 : decode cX11_layHold 449 = .ok (.getfield 115, 3) := by decide +kernel
theorem dX11_layHold_452 : decode cX11_layHold 452 = .ok (.iload 5, 2) := by decide +kernel
theorem dX11_layHold_454 : decode cX11_layHold 454 = .ok (.iaload, 1) := by decide +kernel
theorem dX11_layHold_455 : decode cX11_layHold 455 = .ok (.aload_n 0, 1) := by decide +kernel
theorem dX11_layHold_456 : decode cX11_layHold 456 = .ok (.getfield 115, 3) := by decide +kernel
theorem dX11_layHold_459 : decode cX11_layHold 459 = .ok (.iload 6, 2) := by decide +kernel
theorem dX11_layHold_461 : decode cX11_layHold 461 = .ok (.iaload, 1) := by decide +kernel
theorem dX11_layHold_462 : decode cX11_layHold 462 = .ok (.ior, 1) := by decide +kernel
theorem dX11_layHold_463 : decode cX11_layHold 463 = .ok (.aload_n 0, 1) := by decide +kernel
theorem dX11_layHold_464 : decode cX11_layHold 464 = .ok (.getfield 115, 3) := by decide +kernel
theorem dX11_layHold_467 : decode cX11_layHold 467 = .ok (.iload 7, 2) := by decide +kernel
theorem dX11_layHold_469 : decode cX11_layHold 469 = .ok (.iaload, 1) := by decide +kernel
theorem dX11_layHold_470 : decode cX11_layHold 470 = .ok (.ior, 1) := by decide +kernel
theorem dX11_layHold_471 : decode cX11_layHold 471 = .ok (.aload_n 0, 1) := by decide +kernel
theorem dX11_layHold_472 : decode cX11_layHold 472 = .ok (.getfield 115, 3) := by decide +kernel
theorem dX11_layHold_475 : decode cX11_layHold 475 = .ok (.iload 8, 2) := by decide +kernel
theorem dX11_layHold_477 : decode cX11_layHold 477 = .ok (.iaload, 1) := by decide +kernel
theorem dX11_layHold_478 : decode cX11_layHold 478 = .ok (.ior, 1) := by decide +kernel
theorem dX11_layHold_479 : decode cX11_layHold 479 = .ok (.iconst 4, 1) := by decide +kernel
theorem dX11_layHold_480 : decode cX11_layHold 480 = .ok (.iload_n 3, 1) := by decide +kernel
theorem dX11_layHold_481 : decode cX11_layHold 481 = .ok (.invokevirtual 380, 3) := by decide +kernel
theorem dX11_layHold_484 : decode cX11_layHold 484 = .ok (.iinc 8 1, 3) := by decide +kernel
theorem dX11_layHold_487 : decode cX11_layHold 487 = .ok (.goto (-84), 3) := by decide +kernel
theorem dX11_layHold_490 : decode cX11_layHold 490 = .ok (.iinc 7 1, 3) := by decide +kernel
theorem dX11_layHold_493 : decode cX11_layHold 493 = .ok (.goto (-109), 3) := by decide +kernel
theorem dX11_layHold_496 : decode cX11_layHold 496 = .ok (.iinc 6 1, 3) := by decide +kernel
theorem dX11_layHold_499 : decode cX11_layHold 499 = .ok (.goto (-134), 3) := by decide +kernel
theorem dX11_layHold_502 : decode cX11_layHold 502 = .ok (.iinc 5 1, 3) := by decide +kernel
theorem dX11_layHold_505 : decode cX11_layHold 505 = .ok (.goto (-154), 3) := by decide +kernel
theorem dX11_layHold_508 : decode cX11_layHold 508 = .ok (.return_, 1) := by decide +kernel
theorem dX11_hold_0 : decode cX11_hold 0 = .ok (.aload_n 0, 1) := by decide +kernel
theorem dX11_hold_1 : decode cX11_hold 1 = .ok (.iload_n 1, 1) := by decide +kernel
theorem dX11_hold_2 : decode cX11_hold 2 = .ok (.invokevirtual 234, 3) := by decide +kernel
theorem dX11_hold_5 : decode cX11_hold 5 = .ok (.ifCond .eq 13, 3) := by decide +kernel
theorem dX11_hold_8 : decode cX11_hold 8 = .ok (.aload_n 0, 1) := by decide +kernel
theorem dX11_hold_9 : decode cX11_hold 9 = .ok (.iload_n 2, 1) := by decide +kernel
theorem dX11_hold_10 : decode cX11_hold 10 = .ok (.iconst 0, 1) := by decide +kernel
theorem dX11_hold_11 : decode cX11_hold 11 = .ok (.iconst 1, 1) := by decide +kernel
theorem dX11_hold_12 : decode cX11_hold 12 = .ok (.invokevirtual 230, 3) := by decide +kernel
theorem dX11_hold_15 : decode cX11_hold 15 = .ok (.ifCond .ne 5, 3) := by decide +kernel
theorem dX11_hold_18 : decode cX11_hold 18 = .ok (.iconst (-1), 1) := by decide +kernel
theorem dX11_hold_19 : decode cX11_hold 19 = .ok (.ireturn, 1) := by decide +kernel
theorem dX11_hold_20 : decode cX11_hold 20 = .ok (.aload_n 0, 1) := by decide +kernel
theorem dX11_hold_21 : decode cX11_hold 21 = .ok (.iload_n 1, 1) := by decide +kernel
theorem dX11_hold_22 : decode cX11_hold 22 = .ok (.invokevirtual 384, 3) := by decide +kernel
theorem dX11_hold_25 : decode cX11_hold 25 = .ok (.iload_n 2, 1) := by decide +kernel
theorem dX11_hold_26 : decode cX11_hold 26 = .ok (.ifCond .ne 10, 3) := by decide +kernel
theorem dX11_hold_29 : decode cX11_hold 29 = .ok (.aload_n 0, 1) := by decide +kernel
theorem dX11_hold_30 : decode cX11_hold 30 = .ok (.getfield 118, 3) := by decide +kernel
theorem dX11_hold_33 : decode cX11_hold 33 = .ok (.goto 7, 3) := by decide +kernel
theorem dX11_hold_36 : decode cX11_hold 36 = .ok (.aload_n 0, 1) := by decide +kernel
theorem dX11_hold_37 : decode cX11_hold 37 = .ok (.getfield 121, 3) := by decide +kernel
theorem dX11_hold_40 : decode cX11_hold 40 = .ok (.ireturn, 1) := by decide +kernel
theorem dX11_moreOf_0 : decode cX11_moreOf 0 = .ok (.iconst 0, 1) := by decide +kernel
theorem dX11_moreOf_1 : decode cX11_moreOf 1 = .ok (.istore_n 2, 1) := by decide +kernel
theorem dX11_moreOf_2 : decode cX11_moreOf 2 = .ok (.iconst 0, 1) := by decide +kernel
theorem dX11_moreOf_3 : decode cX11_moreOf 3 = .ok (.istore_n 3, 1) := by decide +kernel
theorem dX11_moreOf_4 : decode cX11_moreOf 4 = .ok (.iload_n 3, 1) := by decide +kernel
theorem dX11_moreOf_5 : decode cX11_moreOf 5 = .ok (.aload_n 0, 1) := by decide +kernel
theorem dX11_moreOf_6 : decode cX11_moreOf 6 = .ok (.getfield 13, 3) := by decide +kernel
theorem dX11_moreOf_9 : decode cX11_moreOf 9 = .ok (.aload_n 0, 1) := by decide +kernel
theorem dX11_moreOf_10 : decode cX11_moreOf 10 = .ok (.getfield 13, 3) := by decide +kernel
theorem dX11_moreOf_13 : decode cX11_moreOf 13 = .ok (.imul, 1) := by decide +kernel
theorem dX11_moreOf_14 : decode cX11_moreOf 14 = .ok (.if_icmp .ge 36, 3) := by decide +kernel
theorem dX11_moreOf_17 : decode cX11_moreOf 17 = .ok (.iload_n 2, 1) := by decide +kernel
theorem dX11_moreOf_18 : decode cX11_moreOf 18 = .ok (.aload_n 0, 1) := by decide +kernel
theorem dX11_moreOf_19 : decode cX11_moreOf 19 = .ok (.iload_n 3, 1) := by decide +kernel
theorem dX11_moreOf_20 : decode cX11_moreOf 20 = .ok (.invokevirtual 356, 3) := by decide +kernel
theorem dX11_moreOf_23 : decode cX11_moreOf 23 = .ok (.ifCond .eq 18, 3) := by decide +kernel
theorem dX11_moreOf_26 : decode cX11_moreOf 26 = .ok (.aload_n 0, 1) := by decide +kernel
theorem dX11_moreOf_27 : decode cX11_moreOf 27 = .ok (.iload_n 1, 1) := by decide +kernel
theorem dX11_moreOf_28 : decode cX11_moreOf 28 = .ok (.iload_n 3, 1) := by decide +kernel
theorem dX11_moreOf_29 : decode cX11_moreOf 29 = .ok (.invokevirtual 359, 3) := by decide +kernel
theorem dX11_moreOf_32 : decode cX11_moreOf 32 = .ok (.ifCond .eq 9, 3) := by decide +kernel
theorem dX11_moreOf_35 : decode cX11_moreOf 35 = .ok (.iconst 1, 1) := by decide +kernel
theorem dX11_moreOf_36 : decode cX11_moreOf 36 = .ok (.iload_n 3, 1) := by decide +kernel
theorem dX11_moreOf_37 : decode cX11_moreOf 37 = .ok (.ishl, 1) := by decide +kernel
theorem dX11_moreOf_38 : decode cX11_moreOf 38 = .ok (.goto 4, 3) := by decide +kernel
theorem dX11_moreOf_41 : decode cX11_moreOf 41 = .ok (.iconst 0, 1) := by decide +kernel
theorem dX11_moreOf_42 : decode cX11_moreOf 42 = .ok (.ior, 1) := by decide +kernel
theorem dX11_moreOf_43 : decode cX11_moreOf 43 = .ok (.istore_n 2, 1) := by decide +kernel
theorem dX11_moreOf_44 : decode cX11_moreOf 44 = .ok (.iinc 3 1, 3) := by decide +kernel
theorem dX11_moreOf_47 : decode cX11_moreOf 47 = .ok (.goto (-43), 3) := by decide +kernel
theorem dX11_moreOf_50 : decode cX11_moreOf 50 = .ok (.iload_n 2, 1) := by decide +kernel
theorem dX11_moreOf_51 : decode cX11_moreOf 51 = .ok (.ireturn, 1) := by decide +kernel
theorem dX11_more_0 : decode cX11_more 0 = .ok (.aload_n 0, 1) := by decide +kernel
theorem dX11_more_1 : decode cX11_more 1 = .ok (.iload_n 1, 1) := by decide +kernel
theorem dX11_more_2 : decode cX11_more 2 = .ok (.invokevirtual 234, 3) := by decide +kernel
theorem dX11_more_5 : decode cX11_more 5 = .ok (.ifCond .eq 11, 3) := by decide +kernel
theorem dX11_more_8 : decode cX11_more 8 = .ok (.aload_n 0, 1) := by decide +kernel
theorem dX11_more_9 : decode cX11_more 9 = .ok (.iload_n 1, 1) := by decide +kernel
theorem dX11_more_10 : decode cX11_more 10 = .ok (.invokevirtual 387, 3) := by decide +kernel
theorem dX11_more_13 : decode cX11_more 13 = .ok (.goto 4, 3) := by decide +kernel
theorem dX11_more_16 : decode cX11_more 16 = .ok (.iconst (-1), 1) := by decide +kernel
theorem dX11_more_17 : decode cX11_more 17 = .ok (.ireturn, 1) := by decide +kernel
theorem dX11_isPeaceOf_0 : decode cX11_isPeaceOf 0 = .ok (.iload_n 1, 1) := by decide +kernel
theorem dX11_isPeaceOf_1 : decode cX11_isPeaceOf 1 = .ok (.istore_n 2, 1) := by decide +kernel
theorem dX11_isPeaceOf_2 : decode cX11_isPeaceOf 2 = .ok (.iload_n 2, 1) := by decide +kernel
theorem dX11_isPeaceOf_3 : decode cX11_isPeaceOf 3 = .ok (.ifCond .eq 29, 3) := by decide +kernel
theorem dX11_isPeaceOf_6 : decode cX11_isPeaceOf 6 = .ok (.aload_n 0, 1) := by decide +kernel
theorem dX11_isPeaceOf_7 : decode cX11_isPeaceOf 7 = .ok (.getfield 124, 3) := by decide +kernel
theorem dX11_isPeaceOf_10 : decode cX11_isPeaceOf 10 = .ok (.aload_n 0, 1) := by decide +kernel
theorem dX11_isPeaceOf_11 : decode cX11_isPeaceOf 11 = .ok (.iload_n 2, 1) := by decide +kernel
theorem dX11_isPeaceOf_12 : decode cX11_isPeaceOf 12 = .ok (.invokevirtual 374, 3) := by decide +kernel
theorem dX11_isPeaceOf_15 : decode cX11_isPeaceOf 15 = .ok (.iaload, 1) := by decide +kernel
theorem dX11_isPeaceOf_16 : decode cX11_isPeaceOf 16 = .ok (.iload_n 1, 1) := by decide +kernel
theorem dX11_isPeaceOf_17 : decode cX11_isPeaceOf 17 = .ok (.iand, 1) := by decide +kernel
theorem dX11_isPeaceOf_18 : decode cX11_isPeaceOf 18 = .ok (.ifCond .eq 5, 3) := by decide +kernel
theorem dX11_isPeaceOf_21 : decode cX11_isPeaceOf 21 = .ok (.iconst 0, 1) := by decide +kernel
theorem dX11_isPeaceOf_22 : decode cX11_isPeaceOf 22 = .ok (.ireturn, 1) := by decide +kernel
theorem dX11_isPeaceOf_23 : decode cX11_isPeaceOf 23 = .ok (.iload_n 2, 1) := by decide +kernel
theorem dX11_isPeaceOf_24 : decode cX11_isPeaceOf 24 = .ok (.iload_n 2, 1) := by decide +kernel
theorem dX11_isPeaceOf_25 : decode cX11_isPeaceOf 25 = .ok (.iconst 1, 1) := by decide +kernel
theorem dX11_isPeaceOf_26 : decode cX11_isPeaceOf 26 = .ok (.isub, 1) := by decide +kernel
theorem dX11_isPeaceOf_27 : decode cX11_isPeaceOf 27 = .ok (.iand, 1) := by decide +kernel
theorem dX11_isPeaceOf_28 : decode cX11_isPeaceOf 28 = .ok (.istore_n 2, 1) := by decide +kernel
theorem dX11_isPeaceOf_29 : decode cX11_isPeaceOf 29 = .ok (.goto (-27), 3) := by decide +kernel
theorem dX11_isPeaceOf_32 : decode cX11_isPeaceOf 32 = .ok (.iconst 1, 1) := by decide +kernel
theorem dX11_isPeaceOf_33 : decode cX11_isPeaceOf 33 = .ok (.ireturn, 1) := by decide +kernel
theorem dX11_goes_0 : decode cX11_goes 0 = .ok (.bipush (-5), 2) := by decide +kernel
theorem dX11_goes_2 : decode cX11_goes 2 = .ok (.istore_n 3, 1) := by decide +kernel
theorem dX11_goes_3 : decode cX11_goes 3 = .ok (.aload_n 0, 1) := by decide +kernel
theorem dX11_goes_4 : decode cX11_goes 4 = .ok (.getfield 13, 3) := by decide +kernel
theorem dX11_goes_7 : decode cX11_goes 7 = .ok (.aload_n 0, 1) := by decide +kernel
theorem dX11_goes_8 : decode cX11_goes 8 = .ok (.getfield 13, 3) := by decide +kernel
theorem dX11_goes_11 : decode cX11_goes 11 = .ok (.imul, 1) := by decide +kernel
theorem dX11_goes_12 : decode cX11_goes 12 = .ok (.istore 4, 2) := by decide +kernel
theorem dX11_goes_14 : decode cX11_goes 14 = .ok (.iload_n 2, 1) := by decide +kernel
theorem dX11_goes_15 : decode cX11_goes 15 = .ok (.ifCond .ne 13, 3) := by decide +kernel
theorem dX11_goes_18 : decode cX11_goes 18 = .ok (.aload_n 0, 1) := by decide +kernel
theorem dX11_goes_19 : decode cX11_goes 19 = .ok (.iload_n 1, 1) := by decide +kernel
theorem dX11_goes_20 : decode cX11_goes 20 = .ok (.invokevirtual 390, 3) := by decide +kernel
theorem dX11_goes_23 : decode cX11_goes 23 = .ok (.ifCond .eq 5, 3) := by decide +kernel
theorem dX11_goes_26 : decode cX11_goes 26 = .ok (.iconst 0, 1) := by decide +kernel
theorem dX11_goes_27 : decode cX11_goes 27 = .ok (.istore_n 3, 1) := by decide +kernel
theorem dX11_goes_28 : decode cX11_goes 28 = .ok (.iconst 0, 1) := by decide +kernel
theorem dX11_goes_29 : decode cX11_goes 29 = .ok (.istore 5, 2) := by decide +kernel
theorem dX11_goes_31 : decode cX11_goes 31 = .ok (.iload 5, 2) := by decide +kernel
theorem dX11_goes_33 : decode cX11_goes 33 = .ok (.iload 4, 2) := by decide +kernel
theorem dX11_goes_35 : decode cX11_goes 35 = .ok (.if_icmp .ge 208, 3) := by decide +kernel
theorem dX11_goes_38 : decode cX11_goes 38 = .ok (.iload_n 2, 1) := by decide +kernel
theorem dX11_goes_39 : decode cX11_goes 39 = .ok (.ifCond .le 204, 3) := by decide +kernel
theorem dX11_goes_42 : decode cX11_goes 42 = .ok (.aload_n 0, 1) := by decide +kernel
theorem dX11_goes_43 : decode cX11_goes 43 = .ok (.iload_n 1, 1) := by decide +kernel
theorem dX11_goes_44 : decode cX11_goes 44 = .ok (.iload 5, 2) := by decide +kernel
theorem dX11_goes_46 : decode cX11_goes 46 = .ok (.invokevirtual 323, 3) := by decide +kernel
theorem dX11_goes_49 : decode cX11_goes 49 = .ok (.ifCond .ne 6, 3) := by decide +kernel
theorem dX11_goes_52 : decode cX11_goes 52 = .ok (.goto 185, 3) := by decide +kernel
theorem dX11_goes_55 : decode cX11_goes 55 = .ok (.iload_n 2, 1) := by decide +kernel
theorem dX11_goes_56 : decode cX11_goes 56 = .ok (.iconst 1, 1) := by decide +kernel
theorem dX11_goes_57 : decode cX11_goes 57 = .ok (.if_icmp .ne 17, 3) := by decide +kernel
theorem dX11_goes_60 : decode cX11_goes 60 = .ok (.aload_n 0, 1) := by decide +kernel
theorem dX11_goes_61 : decode cX11_goes 61 = .ok (.iload_n 1, 1) := by decide +kernel
theorem dX11_goes_62 : decode cX11_goes 62 = .ok (.iconst 1, 1) := by decide +kernel
theorem dX11_goes_63 : decode cX11_goes 63 = .ok (.iload 5, 2) := by decide +kernel
theorem dX11_goes_65 : decode cX11_goes 65 = .ok (.ishl, 1) := by decide +kernel
theorem dX11_goes_66 : decode cX11_goes 66 = .ok (.iload_n 3, 1) := by decide +kernel
theorem dX11_goes_67 : decode cX11_goes 67 = .ok (.invokevirtual 393, 3) := by decide +kernel
theorem dX11_goes_70 : decode cX11_goes 70 = .ok (.istore_n 3, 1) := by decide +kernel
theorem dX11_goes_71 : decode cX11_goes 71 = .ok (.goto 166, 3) := by decide +kernel
theorem dX11_goes_74 : decode cX11_goes 74 = .ok (.iconst 0, 1) := by decide +kernel
theorem dX11_goes_75 : decode cX11_goes 75 = .ok (.istore 6, 2) := by decide +kernel
theorem dX11_goes_77 : decode cX11_goes 77 = .ok (.iload 6, 2) := by decide +kernel
theorem dX11_goes_79 : decode cX11_goes 79 = .ok (.iload 5, 2) := by decide +kernel
theorem dX11_goes_81 : decode cX11_goes 81 = .ok (.if_icmp .ge 156, 3) := by decide +kernel
theorem dX11_goes_84 : decode cX11_goes 84 = .ok (.aload_n 0, 1) := by decide +kernel
theorem dX11_goes_85 : decode cX11_goes 85 = .ok (.iload_n 1, 1) := by decide +kernel
theorem dX11_goes_86 : decode cX11_goes 86 = .ok (.iload 6, 2) := by decide +kernel
theorem dX11_goes_88 : decode cX11_goes 88 = .ok (.invokevirtual 323, 3) := by decide +kernel
theorem dX11_goes_91 : decode cX11_goes 91 = .ok (.ifCond .ne 6, 3) := by decide +kernel
theorem dX11_goes_94 : decode cX11_goes 94 = .ok (.goto 137, 3) := by decide +kernel
theorem dX11_goes_97 : decode cX11_goes 97 = .ok (.iload_n 2, 1) := by decide +kernel
theorem dX11_goes_98 : decode cX11_goes 98 = .ok (.iconst 2, 1) := by decide +kernel
theorem dX11_goes_99 : decode cX11_goes 99 = .ok (.if_icmp .ne 22, 3) := by decide +kernel
theorem dX11_goes_102 : decode cX11_goes 102 = .ok (.aload_n 0, 1) := by decide +kernel
theorem dX11_goes_103 : decode cX11_goes 103 = .ok (.iload_n 1, 1) := by decide +kernel
theorem dX11_goes_104 : decode cX11_goes 104 = .ok (.iconst 1, 1) := by decide +kernel
theorem dX11_goes_105 : decode cX11_goes 105 = .ok (.iload 5, 2) := by decide +kernel
theorem dX11_goes_107 : decode cX11_goes 107 = .ok (.ishl, 1) := by decide +kernel
theorem dX11_goes_108 : decode cX11_goes 108 = .ok (.iconst 1, 1) := by decide +kernel
theorem dX11_goes_109 : decode cX11_goes 109 = .ok (.iload 6, 2) := by decide +kernel
theorem dX11_goes_111 : decode cX11_goes 111 = .ok (.ishl, 1) := by decide +kernel
theorem dX11_goes_112 : decode cX11_goes 112 = .ok (.ior, 1) := by decide +kernel
theorem dX11_goes_113 : decode cX11_goes 113 = .ok (.iload_n 3, 1) := by decide +kernel
theorem dX11_goes_114 : decode cX11_goes 114 = .ok (.invokevirtual 393, 3) := by decide +kernel
theorem dX11_goes_117 : decode cX11_goes 117 = .ok (.istore_n 3, 1) := by decide +kernel
theorem dX11_goes_118 : decode cX11_goes 118 = .ok (.goto 113, 3) := by decide +kernel
theorem dX11_goes_121 : decode cX11_goes 121 = .ok (.iconst 0, 1) := by decide +kernel
theorem dX11_goes_122 : decode cX11_goes 122 = .ok (.istore 7, 2) := by decide +kernel
theorem dX11_goes_124 : decode cX11_goes 124 = .ok (.iload 7, 2) := by decide +kernel
theorem dX11_goes_126 : decode cX11_goes 126 = .ok (.iload 6, 2) := by decide +kernel
theorem dX11_goes_128 : decode cX11_goes 128 = .ok (.if_icmp .ge 103, 3) := by decide +kernel
theorem dX11_goes_131 : decode cX11_goes 131 = .ok (.aload_n 0, 1) := by decide +kernel
theorem dX11_goes_132 : decode cX11_goes 132 = .ok (.iload_n 1, 1) := by decide +kernel
theorem dX11_goes_133 : decode cX11_goes 133 = .ok (.iload 7, 2) := by decide +kernel
theorem dX11_goes_135 : decode cX11_goes 135 = .ok (.invokevirtual 323, 3) := by decide +kernel
theorem dX11_goes_138 : decode cX11_goes 138 = .ok (.ifCond .ne 6, 3) := by decide +kernel
theorem dX11_goes_141 : decode cX11_goes 141 = .ok (.goto 84, 3) := by decide +kernel
theorem dX11_goes_144 : decode cX11_goes 144 = .ok (.iload_n 2, 1) := by decide +kernel
theorem dX11_goes_145 : decode cX11_goes 145 = .ok (.iconst 3, 1) := by decide +kernel
theorem dX11_goes_146 : decode cX11_goes 146 = .ok (.if_icmp .ne 27, 3) := by decide +kernel
theorem dX11_goes_149 : decode cX11_goes 149 = .ok (.aload_n 0, 1) := by decide +kernel
theorem dX11_goes_150 : decode cX11_goes 150 = .ok (.iload_n 1, 1) := by decide +kernel
theorem dX11_goes_151 : decode cX11_goes 151 = .ok (.iconst 1, 1) := by decide +kernel
theorem dX11_goes_152 : decode cX11_goes 152 = .ok (.iload 5, 2) := by decide +kernel
theorem dX11_goes_154 : decode cX11_goes 154 = .ok (.ishl, 1) := by decide +kernel
theorem dX11_goes_155 : decode cX11_goes 155 = .ok (.iconst 1, 1) := by decide +kernel
theorem dX11_goes_156 : decode cX11_goes 156 = .ok (.iload 6, 2) := by decide +kernel
theorem dX11_goes_158 : decode cX11_goes 158 = .ok (.ishl, 1) := by decide +kernel
theorem dX11_goes_159 : decode cX11_goes 159 = .ok (.ior, 1) := by decide +kernel
theorem dX11_goes_160 : decode cX11_goes 160 = .ok (.iconst 1, 1) := by decide +kernel
theorem dX11_goes_161 : decode cX11_goes 161 = .ok (.iload 7, 2) := by decide +kernel
theorem dX11_goes_163 : decode cX11_goes 163 = .ok (.ishl, 1) := by decide +kernel
theorem dX11_goes_164 : decode cX11_goes 164 = .ok (.ior, 1) := by decide +kernel
theorem dX11_goes_165 : decode cX11_goes 165 = .ok (.iload_n 3, 1) := by decide +kernel
theorem dX11_goes_166 : decode cX11_goes 166 = .ok (.invokevirtual 393, 3) := by decide +kernel
theorem dX11_goes_169 : decode cX11_goes 169 = .ok (.istore_n 3, 1) := by decide +kernel
theorem dX11_goes_170 : decode cX11_goes 170 = .ok (.goto 55, 3) := by decide +kernel
theorem dX11_goes_173 : decode cX11_goes 173 = .ok (.iconst 0, 1) := by decide +kernel
theorem dX11_goes_174 : decode cX11_goes 174 = .ok (.istore 8, 2) := by decide +kernel
theorem dX11_goes_176 : decode cX11_goes 176 = .ok (.iload 8, 2) := by decide +kernel
theorem dX11_goes_178 : decode cX11_goes 178 = .ok (.iload 7, 2) := by decide +kernel
theorem dX11_goes_180 : decode cX11_goes 180 = .ok (.if_icmp .ge 45, 3) := by decide +kernel
theorem dX11_goes_183 : decode cX11_goes 183 = .ok (.aload_n 0, 1) := by decide +kernel
theorem dX11_goes_184 : decode cX11_goes 184 = .ok (.iload_n 1, 1) := by decide +kernel
theorem dX11_goes_185 : decode cX11_goes 185 = .ok (.iload 8, 2) := by decide +kernel
theorem dX11_goes_187 : decode cX11_goes 187 = .ok (.invokevirtual 323, 3) := by decide +kernel
theorem dX11_goes_190 : decode cX11_goes 190 = .ok (.ifCond .eq 29, 3) := by decide +kernel
theorem dX11_goes_193 : decode cX11_goes 193 = .ok (.aload_n 0, 1) := by decide +kernel
theorem dX11_goes_194 : decode cX11_goes 194 = .ok (.iload_n 1, 1) := by decide +kernel
theorem dX11_goes_195 : decode cX11_goes 195 = .ok (.iconst 1, 1) := by decide +kernel
theorem dX11_goes_196 : decode cX11_goes 196 = .ok (.iload 5, 2) := by decide +kernel
theorem dX11_goes_198 : decode cX11_goes 198 = .ok (.ishl, 1) := by decide +kernel
theorem dX11_goes_199 : decode cX11_goes 199 = .ok (.iconst 1, 1) := by decide +kernel
theorem dX11_goes_200 : decode cX11_goes 200 = .ok (.iload 6, 2) := by decide +kernel
theorem dX11_goes_202 : decode cX11_goes 202 = .ok (.ishl, 1) := by decide +kernel
theorem dX11_goes_203 : decode cX11_goes 203 = .ok (.ior, 1) := by decide +kernel
theorem dX11_goes_204 : decode cX11_goes 204 = .ok (.iconst 1, 1) := by decide +kernel
theorem dX11_goes_205 : decode cX11_goes 205 = .ok (.iload 7, 2) := by decide +kernel
theorem dX11_goes_207 : decode cX11_goes 207 = .ok (.ishl, 1) := by decide +kernel
theorem dX11_goes_208 : decode cX11_goes 208 = .ok (.ior, 1) := by decide +kernel
theorem dX11_goes_209 : decode cX11_goes 209 = .ok (.iconst 1, 1) := by decide +kernel
theorem dX11_goes_210 : decode cX11_goes 210 = .ok (.iload 8, 2) := by decide +kernel
theorem dX11_goes_212 : decode cX11_goes 212 = .ok (.ishl, 1) := by decide +kernel
theorem dX11_goes_213 : decode cX11_goes 213 = .ok (.ior, 1) := by decide +kernel
theorem dX11_goes_214 : decode cX11_goes 214 = .ok (.iload_n 3, 1) := by decide +kernel
theorem dX11_goes_215 : decode cX11_goes 215 = .ok (.invokevirtual 393, 3) := by decide +kernel
theorem dX11_goes_218 : decode cX11_goes 218 = .ok (.istore_n 3, 1) := by decide +kernel
theorem dX11_goes_219 : decode cX11_goes 219 = .ok (.iinc 8 1, 3) := by decide +kernel
theorem dX11_goes_222 : decode cX11_goes 222 = .ok (.goto (-46), 3) := by decide +kernel
theorem dX11_goes_225 : decode cX11_goes 225 = .ok (.iinc 7 1, 3) := by decide +kernel
theorem dX11_goes_228 : decode cX11_goes 228 = .ok (.goto (-104), 3) := by decide +kernel
theorem dX11_goes_231 : decode cX11_goes 231 = .ok (.iinc 6 1, 3) := by decide +kernel
theorem dX11_goes_234 : decode cX11_goes 234 = .ok (.goto (-157), 3) := by decide +kernel
theorem dX11_goes_237 : decode cX11_goes 237 = .ok (.iinc 5 1, 3) := by decide +kernel
theorem dX11_goes_240 : decode cX11_goes 240 = .ok (.goto (-209), 3) := by decide +kernel
theorem dX11_goes_243 : decode cX11_goes 243 = .ok (.aload_n 0, 1) := by decide +kernel
theorem dX11_goes_244 : decode cX11_goes 244 = .ok (.iload_n 3, 1) := by decide +kernel
theorem dX11_goes_245 : decode cX11_goes 245 = .ok (.putfield 127, 3) := by decide +kernel
theorem dX11_goes_248 : decode cX11_goes 248 = .ok (.iload_n 3, 1) := by decide +kernel
theorem dX11_goes_249 : decode cX11_goes 249 = .ok (.ifCond .lt 7, 3) := by decide +kernel
theorem dX11_goes_252 : decode cX11_goes 252 = .ok (.iconst 1, 1) := by decide +kernel
theorem dX11_goes_253 : decode cX11_goes 253 = .ok (.goto 4, 3) := by decide +kernel
theorem dX11_goes_256 : decode cX11_goes 256 = .ok (.iconst 0, 1) := by decide +kernel
theorem dX11_goes_257 : decode cX11_goes 257 = .ok (.ireturn, 1) := by decide +kernel
theorem dX11_gone_0 : decode cX11_gone 0 = .ok (.iload_n 3, 1) := by decide +kernel
theorem dX11_gone_1 : decode cX11_gone 1 = .ok (.ifCond .lt 8, 3) := by decide +kernel
theorem dX11_gone_4 : decode cX11_gone 4 = .ok (.iload_n 2, 1) := by decide +kernel
theorem dX11_gone_5 : decode cX11_gone 5 = .ok (.iload_n 3, 1) := by decide +kernel
theorem dX11_gone_6 : decode cX11_gone 6 = .ok (.if_icmp .ge 19, 3) := by decide +kernel
theorem dX11_gone_9 : decode cX11_gone 9 = .ok (.aload_n 0, 1) := by decide +kernel
theorem dX11_gone_10 : decode cX11_gone 10 = .ok (.iload_n 1, 1) := by decide +kernel
theorem dX11_gone_11 : decode cX11_gone 11 = .ok (.iload_n 2, 1) := by decide +kernel
theorem dX11_gone_12 : decode cX11_gone 12 = .ok (.iconst (-1), 1) := by decide +kernel
theorem dX11_gone_13 : decode cX11_gone 13 = .ok (.ixor, 1) := by decide +kernel
theorem dX11_gone_14 : decode cX11_gone 14 = .ok (.iand, 1) := by decide +kernel
theorem dX11_gone_15 : decode cX11_gone 15 = .ok (.invokevirtual 390, 3) := by decide +kernel
theorem dX11_gone_18 : decode cX11_gone 18 = .ok (.ifCond .eq 7, 3) := by decide +kernel
theorem dX11_gone_21 : decode cX11_gone 21 = .ok (.iload_n 2, 1) := by decide +kernel
theorem dX11_gone_22 : decode cX11_gone 22 = .ok (.goto 4, 3) := by decide +kernel
theorem dX11_gone_25 : decode cX11_gone 25 = .ok (.iload_n 3, 1) := by decide +kernel
theorem dX11_gone_26 : decode cX11_gone 26 = .ok (.ireturn, 1) := by decide +kernel
theorem dX11_right_0 : decode cX11_right 0 = .ok (.aload_n 0, 1) := by decide +kernel
theorem dX11_right_1 : decode cX11_right 1 = .ok (.iload_n 1, 1) := by decide +kernel
theorem dX11_right_2 : decode cX11_right 2 = .ok (.iconst 0, 1) := by decide +kernel
theorem dX11_right_3 : decode cX11_right 3 = .ok (.iconst 1, 1) := by decide +kernel
theorem dX11_right_4 : decode cX11_right 4 = .ok (.invokevirtual 230, 3) := by decide +kernel
theorem dX11_right_7 : decode cX11_right 7 = .ok (.ifCond .ne 5, 3) := by decide +kernel
theorem dX11_right_10 : decode cX11_right 10 = .ok (.iconst (-1), 1) := by decide +kernel
theorem dX11_right_11 : decode cX11_right 11 = .ok (.ireturn, 1) := by decide +kernel
theorem dX11_right_12 : decode cX11_right 12 = .ok (.iconst 0, 1) := by decide +kernel
theorem dX11_right_13 : decode cX11_right 13 = .ok (.istore_n 2, 1) := by decide +kernel
theorem dX11_right_14 : decode cX11_right 14 = .ok (.iload_n 2, 1) := by decide +kernel
theorem dX11_right_15 : decode cX11_right 15 = .ok (.aload_n 0, 1) := by decide +kernel
theorem dX11_right_16 : decode cX11_right 16 = .ok (.getfield 13, 3) := by decide +kernel
theorem dX11_right_19 : decode cX11_right 19 = .ok (.aload_n 0, 1) := by decide +kernel
theorem dX11_right_20 : decode cX11_right 20 = .ok (.getfield 13, 3) := by decide +kernel
theorem dX11_right_23 : decode cX11_right 23 = .ok (.imul, 1) := by decide +kernel
theorem dX11_right_24 : decode cX11_right 24 = .ok (.if_icmp .ge 33, 3) := by decide +kernel
theorem dX11_right_27 : decode cX11_right 27 = .ok (.aload_n 0, 1) := by decide +kernel
theorem dX11_right_28 : decode cX11_right 28 = .ok (.getfield 124, 3) := by decide +kernel
theorem dX11_right_31 : decode cX11_right 31 = .ok (.iload_n 2, 1) := by decide +kernel
theorem dX11_right_32 : decode cX11_right 32 = .ok (.aload_n 0, 1) := by decide +kernel
theorem dX11_right_33 : decode cX11_right 33 = .ok (.getfield 36, 3) := by decide +kernel
theorem dX11_right_36 : decode cX11_right 36 = .ok (.iload_n 2, 1) := by decide +kernel
theorem dX11_right_37 : decode cX11_right 37 = .ok (.iaload, 1) := by decide +kernel
theorem dX11_right_38 : decode cX11_right 38 = .ok (.ifCond .ge 7, 3) := by decide +kernel
theorem dX11_right_41 : decode cX11_right 41 = .ok (.iconst 0, 1) := by decide +kernel
theorem dX11_right_42 : decode cX11_right 42 = .ok (.goto 8, 3) := by decide +kernel
theorem dX11_right_45 : decode cX11_right 45 = .ok (.aload_n 0, 1) := by decide +kernel
theorem dX11_right_46 : decode cX11_right 46 = .ok (.iload_n 2, 1) := by decide +kernel
theorem dX11_right_47 : decode cX11_right 47 = .ok (.invokevirtual 350, 3) := by decide +kernel
theorem dX11_right_50 : decode cX11_right 50 = .ok (.iastore, 1) := by decide +kernel
theorem dX11_right_51 : decode cX11_right 51 = .ok (.iinc 2 1, 3) := by decide +kernel
theorem dX11_right_54 : decode cX11_right 54 = .ok (.goto (-40), 3) := by decide +kernel
theorem dX11_right_57 : decode cX11_right 57 = .ok (.aload_n 0, 1) := by decide +kernel
theorem dX11_right_58 : decode cX11_right 58 = .ok (.invokevirtual 238, 3) := by decide +kernel
theorem dX11_right_61 : decode cX11_right 61 = .ok (.istore_n 2, 1) := by decide +kernel
theorem dX11_right_62 : decode cX11_right 62 = .ok (.iconst 0, 1) := by decide +kernel
theorem dX11_right_63 : decode cX11_right 63 = .ok (.istore_n 3, 1) := by decide +kernel
theorem dX11_right_64 : decode cX11_right 64 = .ok (.iload_n 3, 1) := by decide +kernel
theorem dX11_right_65 : decode cX11_right 65 = .ok (.iconst 5, 1) := by decide +kernel
theorem dX11_right_66 : decode cX11_right 66 = .ok (.if_icmp .ge 31, 3) := by decide +kernel
theorem dX11_right_69 : decode cX11_right 69 = .ok (.aload_n 0, 1) := by decide +kernel
theorem dX11_right_70 : decode cX11_right 70 = .ok (.iload_n 2, 1) := by decide +kernel
theorem dX11_right_71 : decode cX11_right 71 = .ok (.iload_n 3, 1) := by decide +kernel
theorem dX11_right_72 : decode cX11_right 72 = .ok (.invokevirtual 396, 3) := by decide +kernel
theorem dX11_right_75 : decode cX11_right 75 = .ok (.ifCond .eq 16, 3) := by decide +kernel
theorem dX11_right_78 : decode cX11_right 78 = .ok (.iload_n 1, 1) := by decide +kernel
theorem dX11_right_79 : decode cX11_right 79 = .ok (.ifCond .ne 7, 3) := by decide +kernel
theorem dX11_right_82 : decode cX11_right 82 = .ok (.iload_n 3, 1) := by decide +kernel
theorem dX11_right_83 : decode cX11_right 83 = .ok (.goto 7, 3) := by decide +kernel
theorem dX11_right_86 : decode cX11_right 86 = .ok (.aload_n 0, 1) := by decide +kernel
theorem dX11_right_87 : decode cX11_right 87 = .ok (.getfield 127, 3) := by decide +kernel
theorem dX11_right_90 : decode cX11_right 90 = .ok (.ireturn, 1) := by decide +kernel
theorem dX11_right_91 : decode cX11_right 91 = .ok (.iinc 3 1, 3) := by decide +kernel
theorem dX11_right_94 : decode cX11_right 94 = .ok (.goto (-30), 3) := by decide +kernel
theorem dX11_right_97 : decode cX11_right 97 = .ok (.bipush (-5), 2) := by decide +kernel
theorem dX11_right_99 : decode cX11_right 99 = .ok (.ireturn, 1) := by decide +kernel
theorem dX11_game_0 : decode cX11_game 0 = .ok (.aload_n 0, 1) := by decide +kernel
theorem dX11_game_1 : decode cX11_game 1 = .ok (.iload_n 1, 1) := by decide +kernel
theorem dX11_game_2 : decode cX11_game 2 = .ok (.invokevirtual 234, 3) := by decide +kernel
theorem dX11_game_5 : decode cX11_game 5 = .ok (.ifCond .ne 5, 3) := by decide +kernel
theorem dX11_game_8 : decode cX11_game 8 = .ok (.iconst (-1), 1) := by decide +kernel
theorem dX11_game_9 : decode cX11_game 9 = .ok (.ireturn, 1) := by decide +kernel
theorem dX11_game_10 : decode cX11_game 10 = .ok (.aload_n 0, 1) := by decide +kernel
theorem dX11_game_11 : decode cX11_game 11 = .ok (.iload_n 1, 1) := by decide +kernel
theorem dX11_game_12 : decode cX11_game 12 = .ok (.invokevirtual 387, 3) := by decide +kernel
theorem dX11_game_15 : decode cX11_game 15 = .ok (.istore_n 2, 1) := by decide +kernel
theorem dX11_game_16 : decode cX11_game 16 = .ok (.aload_n 0, 1) := by decide +kernel
theorem dX11_game_17 : decode cX11_game 17 = .ok (.iload_n 2, 1) := by decide +kernel
theorem dX11_game_18 : decode cX11_game 18 = .ok (.invokevirtual 242, 3) := by decide +kernel
theorem dX11_game_21 : decode cX11_game 21 = .ok (.istore_n 3, 1) := by decide +kernel
theorem dX11_game_22 : decode cX11_game 22 = .ok (.iload_n 3, 1) := by decide +kernel
theorem dX11_game_23 : decode cX11_game 23 = .ok (.bipush 9, 2) := by decide +kernel
theorem dX11_game_25 : decode cX11_game 25 = .ok (.if_icmp .le 6, 3) := by decide +kernel
theorem dX11_game_28 : decode cX11_game 28 = .ok (.bipush (-9), 2) := by decide +kernel
theorem dX11_game_30 : decode cX11_game 30 = .ok (.ireturn, 1) := by decide +kernel
theorem dX11_game_31 : decode cX11_game 31 = .ok (.aload_n 0, 1) := by decide +kernel
theorem dX11_game_32 : decode cX11_game 32 = .ok (.iload_n 1, 1) := by decide +kernel
theorem dX11_game_33 : decode cX11_game 33 = .ok (.invokevirtual 362, 3) := by decide +kernel
theorem dX11_game_36 : decode cX11_game 36 = .ok (.iconst 0, 1) := by decide +kernel
theorem dX11_game_37 : decode cX11_game 37 = .ok (.istore 4, 2) := by decide +kernel
theorem dX11_game_39 : decode cX11_game 39 = .ok (.iload_n 2, 1) := by decide +kernel
theorem dX11_game_40 : decode cX11_game 40 = .ok (.istore 5, 2) := by decide +kernel
theorem dX11_game_42 : decode cX11_game 42 = .ok (.iload 5, 2) := by decide +kernel
theorem dX11_game_44 : decode cX11_game 44 = .ok (.ifCond .eq 31, 3) := by decide +kernel
theorem dX11_game_47 : decode cX11_game 47 = .ok (.aload_n 0, 1) := by decide +kernel
theorem dX11_game_48 : decode cX11_game 48 = .ok (.getfield 130, 3) := by decide +kernel
theorem dX11_game_51 : decode cX11_game 51 = .ok (.iload 4, 2) := by decide +kernel
theorem dX11_game_53 : decode cX11_game 53 = .ok (.aload_n 0, 1) := by decide +kernel
theorem dX11_game_54 : decode cX11_game 54 = .ok (.iload 5, 2) := by decide +kernel
theorem dX11_game_56 : decode cX11_game 56 = .ok (.invokevirtual 374, 3) := by decide +kernel
theorem dX11_game_59 : decode cX11_game 59 = .ok (.iastore, 1) := by decide +kernel
theorem dX11_game_60 : decode cX11_game 60 = .ok (.iinc 4 1, 3) := by decide +kernel
theorem dX11_game_63 : decode cX11_game 63 = .ok (.iload 5, 2) := by decide +kernel
theorem dX11_game_65 : decode cX11_game 65 = .ok (.iload 5, 2) := by decide +kernel
theorem dX11_game_67 : decode cX11_game 67 = .ok (.iconst 1, 1) := by decide +kernel
theorem dX11_game_68 : decode cX11_game 68 = .ok (.isub, 1) := by decide +kernel
theorem dX11_game_69 : decode cX11_game 69 = .ok (.iand, 1) := by decide +kernel
theorem dX11_game_70 : decode cX11_game 70 = .ok (.istore 5, 2) := by decide +kernel
theorem dX11_game_72 : decode cX11_game 72 = .ok (.goto (-30), 3) := by decide +kernel
theorem dX11_game_75 : decode cX11_game 75 = .ok (.iconst 0, 1) := by decide +kernel
theorem dX11_game_76 : decode cX11_game 76 = .ok (.istore 5, 2) := by decide +kernel
theorem dX11_game_78 : decode cX11_game 78 = .ok (.iload 5, 2) := by decide +kernel
theorem dX11_game_80 : decode cX11_game 80 = .ok (.iload_n 3, 1) := by decide +kernel
theorem dX11_game_81 : decode cX11_game 81 = .ok (.if_icmp .ge 79, 3) := by decide +kernel
theorem dX11_game_84 : decode cX11_game 84 = .ok (.aload_n 0, 1) := by decide +kernel
theorem dX11_game_85 : decode cX11_game 85 = .ok (.getfield 133, 3) := by decide +kernel
theorem dX11_game_88 : decode cX11_game 88 = .ok (.iload 5, 2) := by decide +kernel
theorem dX11_game_90 : decode cX11_game 90 = .ok (.iconst 1, 1) := by decide +kernel
theorem dX11_game_91 : decode cX11_game 91 = .ok (.iload 5, 2) := by decide +kernel
theorem dX11_game_93 : decode cX11_game 93 = .ok (.ishl, 1) := by decide +kernel
theorem dX11_game_94 : decode cX11_game 94 = .ok (.iastore, 1) := by decide +kernel
theorem dX11_game_95 : decode cX11_game 95 = .ok (.iconst 0, 1) := by decide +kernel
theorem dX11_game_96 : decode cX11_game 96 = .ok (.istore 6, 2) := by decide +kernel
theorem dX11_game_98 : decode cX11_game 98 = .ok (.iload 6, 2) := by decide +kernel
theorem dX11_game_100 : decode cX11_game 100 = .ok (.iload_n 3, 1) := by decide +kernel
theorem dX11_game_101 : decode cX11_game 101 = .ok (.if_icmp .ge 53, 3) := by decide +kernel
theorem dX11_game_104 : decode cX11_game 104 = .ok (.aload_n 0, 1) := by decide +kernel
theorem dX11_game_105 : decode cX11_game 105 = .ok (.getfield 133, 3) := by decide +kernel
theorem dX11_game_108 : decode cX11_game 108 = .ok (.iload 5, 2) := by decide +kernel
theorem dX11_game_110 : decode cX11_game 110 = .ok (.dup2, 1) := by decide +kernel
theorem dX11_game_111 : decode cX11_game 111 = .ok (.iaload, 1) := by decide +kernel
theorem dX11_game_112 : decode cX11_game 112 = .ok (.aload_n 0, 1) := by decide +kernel
theorem dX11_game_113 : decode cX11_game 113 = .ok (.aload_n 0, 1) := by decide +kernel
theorem dX11_game_114 : decode cX11_game 114 = .ok (.getfield 100, 3) := by decide +kernel
theorem dX11_game_117 : decode cX11_game 117 = .ok (.aload_n 0, 1) := by decide +kernel
theorem dX11_game_118 : decode cX11_game 118 = .ok (.getfield 130, 3) := by decide +kernel
theorem dX11_game_121 : decode cX11_game 121 = .ok (.iload 5, 2) := by decide +kernel
theorem dX11_game_123 : decode cX11_game 123 = .ok (.iaload, 1) := by decide +kernel
theorem dX11_game_124 : decode cX11_game 124 = .ok (.iaload, 1) := by decide +kernel
theorem dX11_game_125 : decode cX11_game 125 = .ok (.aload_n 0, 1) := by decide +kernel
theorem dX11_game_126 : decode cX11_game 126 = .ok (.getfield 130, 3) := by decide +kernel
theorem dX11_game_129 : decode cX11_game 129 = .ok (.iload 6, 2) := by decide +kernel
theorem dX11_game_131 : decode cX11_game 131 = .ok (.iaload, 1) := by decide +kernel
theorem dX11_game_132 : decode cX11_game 132 = .ok (.invokevirtual 323, 3) := by decide +kernel
theorem dX11_game_135 : decode cX11_game 135 = .ok (.ifCond .eq 10, 3) := by decide +kernel
theorem dX11_game_138 : decode cX11_game 138 = .ok (.iconst 1, 1) := by decide +kernel
theorem dX11_game_139 : decode cX11_game 139 = .ok (.iload 6, 2) := by decide +kernel
theorem dX11_game_141 : decode cX11_game 141 = .ok (.ishl, 1) := by decide +kernel
theorem dX11_game_142 : decode cX11_game 142 = .ok (.goto 4, 3) := by decide +kernel
theorem dX11_game_145 : decode cX11_game 145 = .ok (.iconst 0, 1) := by decide +kernel
theorem dX11_game_146 : decode cX11_game 146 = .ok (.ior, 1) := by decide +kernel
theorem dX11_game_147 : decode cX11_game 147 = .ok (.iastore, 1) := by decide +kernel
theorem dX11_game_148 : decode cX11_game 148 = .ok (.iinc 6 1, 3) := by decide +kernel
theorem dX11_game_151 : decode cX11_game 151 = .ok (.goto (-53), 3) := by decide +kernel
theorem dX11_game_154 : decode cX11_game 154 = .ok (.iinc 5 1, 3) := by decide +kernel
theorem dX11_game_157 : decode cX11_game 157 = .ok (.goto (-79), 3) := by decide +kernel
theorem dX11_game_160 : decode cX11_game 160 = .ok (.iconst 0, 1) := by decide +kernel
theorem dX11_game_161 : decode cX11_game 161 = .ok (.istore 5, 2) := by decide +kernel
theorem dX11_game_163 : decode cX11_game 163 = .ok (.iload 5, 2) := by decide +kernel
theorem dX11_game_165 : decode cX11_game 165 = .ok (.iconst 1, 1) := by decide +kernel
theorem dX11_game_166 : decode cX11_game 166 = .ok (.iload_n 3, 1) := by decide +kernel
theorem dX11_game_167 : decode cX11_game 167 = .ok (.ishl, 1) := by decide +kernel
theorem dX11_game_168 : decode cX11_game 168 = .ok (.if_icmp .ge 79, 3) := by decide +kernel
theorem dX11_game_171 : decode cX11_game 171 = .ok (.iconst 0, 1) := by decide +kernel
theorem dX11_game_172 : decode cX11_game 172 = .ok (.istore 6, 2) := by decide +kernel
theorem dX11_game_174 : decode cX11_game 174 = .ok (.iconst 0, 1) := by decide +kernel
theorem dX11_game_175 : decode cX11_game 175 = .ok (.istore 7, 2) := by decide +kernel
theorem dX11_game_177 : decode cX11_game 177 = .ok (.iload 7, 2) := by decide +kernel
theorem dX11_game_179 : decode cX11_game 179 = .ok (.iload_n 3, 1) := by decide +kernel
theorem dX11_game_180 : decode cX11_game 180 = .ok (.if_icmp .ge 52, 3) := by decide +kernel
theorem dX11_game_183 : decode cX11_game 183 = .ok (.iload 6, 2) := by decide +kernel
theorem dX11_game_185 : decode cX11_game 185 = .ok (.ifCond .ne 47, 3) := by decide +kernel
theorem dX11_game_188 : decode cX11_game 188 = .ok (.aload_n 0, 1) := by decide +kernel
theorem dX11_game_189 : decode cX11_game 189 = .ok (.iload 5, 2) := by decide +kernel
theorem dX11_game_191 : decode cX11_game 191 = .ok (.iload 7, 2) := by decide +kernel
theorem dX11_game_193 : decode cX11_game 193 = .ok (.invokevirtual 323, 3) := by decide +kernel
theorem dX11_game_196 : decode cX11_game 196 = .ok (.ifCond .eq 27, 3) := by decide +kernel
theorem dX11_game_199 : decode cX11_game 199 = .ok (.aload_n 0, 1) := by decide +kernel
theorem dX11_game_200 : decode cX11_game 200 = .ok (.getfield 136, 3) := by decide +kernel
theorem dX11_game_203 : decode cX11_game 203 = .ok (.iload 5, 2) := by decide +kernel
theorem dX11_game_205 : decode cX11_game 205 = .ok (.aload_n 0, 1) := by decide +kernel
theorem dX11_game_206 : decode cX11_game 206 = .ok (.getfield 133, 3) := by decide +kernel
