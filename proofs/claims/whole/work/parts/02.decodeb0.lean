theorem dX10_init_0 : decode cX10_init 0 = .ok (.aload_n 0, 1) := by decide +kernel
theorem dX10_init_1 : decode cX10_init 1 = .ok (.invokespecial 3, 3) := by decide +kernel
theorem dX10_init_4 : decode cX10_init 4 = .ok (.aload_n 0, 1) := by decide +kernel
theorem dX10_init_5 : decode cX10_init 5 = .ok (.new 9, 3) := by decide +kernel
theorem dX10_init_8 : decode cX10_init 8 = .ok (.dup, 1) := by decide +kernel
theorem dX10_init_9 : decode cX10_init 9 = .ok (.invokespecial 11, 3) := by decide +kernel
theorem dX10_init_12 : decode cX10_init 12 = .ok (.putfield 12, 3) := by decide +kernel
theorem dX10_init_15 : decode cX10_init 15 = .ok (.aload_n 0, 1) := by decide +kernel
theorem dX10_init_16 : decode cX10_init 16 = .ok (.new 9, 3) := by decide +kernel
theorem dX10_init_19 : decode cX10_init 19 = .ok (.dup, 1) := by decide +kernel
theorem dX10_init_20 : decode cX10_init 20 = .ok (.invokespecial 11, 3) := by decide +kernel
theorem dX10_init_23 : decode cX10_init 23 = .ok (.putfield 18, 3) := by decide +kernel
theorem dX10_init_26 : decode cX10_init 26 = .ok (.aload_n 0, 1) := by decide +kernel
theorem dX10_init_27 : decode cX10_init 27 = .ok (.iconst 0, 1) := by decide +kernel
theorem dX10_init_28 : decode cX10_init 28 = .ok (.putfield 21, 3) := by decide +kernel
theorem dX10_init_31 : decode cX10_init 31 = .ok (.aload_n 0, 1) := by decide +kernel
theorem dX10_init_32 : decode cX10_init 32 = .ok (.new 25, 3) := by decide +kernel
theorem dX10_init_35 : decode cX10_init 35 = .ok (.dup, 1) := by decide +kernel
theorem dX10_init_36 : decode cX10_init 36 = .ok (.invokespecial 27, 3) := by decide +kernel
theorem dX10_init_39 : decode cX10_init 39 = .ok (.putfield 28, 3) := by decide +kernel
theorem dX10_init_42 : decode cX10_init 42 = .ok (.aload_n 0, 1) := by decide +kernel
theorem dX10_init_43 : decode cX10_init 43 = .ok (.bipush 6, 2) := by decide +kernel
theorem dX10_init_45 : decode cX10_init 45 = .ok (.anewarray 32, 3) := by decide +kernel
theorem dX10_init_48 : decode cX10_init 48 = .ok (.putfield 34, 3) := by decide +kernel
theorem dX10_init_51 : decode cX10_init 51 = .ok (.iconst 0, 1) := by decide +kernel
theorem dX10_init_52 : decode cX10_init 52 = .ok (.istore_n 1, 1) := by decide +kernel
theorem dX10_init_53 : decode cX10_init 53 = .ok (.iload_n 1, 1) := by decide +kernel
theorem dX10_init_54 : decode cX10_init 54 = .ok (.aload_n 0, 1) := by decide +kernel
theorem dX10_init_55 : decode cX10_init 55 = .ok (.getfield 34, 3) := by decide +kernel
theorem dX10_init_58 : decode cX10_init 58 = .ok (.arraylength, 1) := by decide +kernel
theorem dX10_init_59 : decode cX10_init 59 = .ok (.if_icmp .ge 22, 3) := by decide +kernel
theorem dX10_init_62 : decode cX10_init 62 = .ok (.aload_n 0, 1) := by decide +kernel
theorem dX10_init_63 : decode cX10_init 63 = .ok (.getfield 34, 3) := by decide +kernel
theorem dX10_init_66 : decode cX10_init 66 = .ok (.iload_n 1, 1) := by decide +kernel
theorem dX10_init_67 : decode cX10_init 67 = .ok (.new 32, 3) := by decide +kernel
theorem dX10_init_70 : decode cX10_init 70 = .ok (.dup, 1) := by decide +kernel
theorem dX10_init_71 : decode cX10_init 71 = .ok (.invokespecial 38, 3) := by decide +kernel
theorem dX10_init_74 : decode cX10_init 74 = .ok (.aastore, 1) := by decide +kernel
theorem dX10_init_75 : decode cX10_init 75 = .ok (.iinc 1 1, 3) := by decide +kernel
theorem dX10_init_78 : decode cX10_init 78 = .ok (.goto (-25), 3) := by decide +kernel
theorem dX10_init_81 : decode cX10_init 81 = .ok (.aload_n 0, 1) := by decide +kernel
theorem dX10_init_82 : decode cX10_init 82 = .ok (.new 32, 3) := by decide +kernel
theorem dX10_init_85 : decode cX10_init 85 = .ok (.dup, 1) := by decide +kernel
theorem dX10_init_86 : decode cX10_init 86 = .ok (.invokespecial 38, 3) := by decide +kernel
theorem dX10_init_89 : decode cX10_init 89 = .ok (.putfield 39, 3) := by decide +kernel
theorem dX10_init_92 : decode cX10_init 92 = .ok (.aload_n 0, 1) := by decide +kernel
theorem dX10_init_93 : decode cX10_init 93 = .ok (.iconst 0, 1) := by decide +kernel
theorem dX10_init_94 : decode cX10_init 94 = .ok (.putfield 43, 3) := by decide +kernel
theorem dX10_init_97 : decode cX10_init 97 = .ok (.aload_n 0, 1) := by decide +kernel
theorem dX10_init_98 : decode cX10_init 98 = .ok (.new 47, 3) := by decide +kernel
theorem dX10_init_101 : decode cX10_init 101 = .ok (.dup, 1) := by decide +kernel
theorem dX10_init_102 : decode cX10_init 102 = .ok (.invokespecial 49, 3) := by decide +kernel
theorem dX10_init_105 : decode cX10_init 105 = .ok (.putfield 50, 3) := by decide +kernel
theorem dX10_init_108 : decode cX10_init 108 = .ok (.aload_n 0, 1) := by decide +kernel
theorem dX10_init_109 : decode cX10_init 109 = .ok (.new 47, 3) := by decide +kernel
theorem dX10_init_112 : decode cX10_init 112 = .ok (.dup, 1) := by decide +kernel
theorem dX10_init_113 : decode cX10_init 113 = .ok (.invokespecial 49, 3) := by decide +kernel
theorem dX10_init_116 : decode cX10_init 116 = .ok (.putfield 54, 3) := by decide +kernel
theorem dX10_init_119 : decode cX10_init 119 = .ok (.aload_n 0, 1) := by decide +kernel
theorem dX10_init_120 : decode cX10_init 120 = .ok (.new 57, 3) := by decide +kernel
theorem dX10_init_123 : decode cX10_init 123 = .ok (.dup, 1) := by decide +kernel
theorem dX10_init_124 : decode cX10_init 124 = .ok (.invokespecial 59, 3) := by decide +kernel
theorem dX10_init_127 : decode cX10_init 127 = .ok (.putfield 60, 3) := by decide +kernel
theorem dX10_init_130 : decode cX10_init 130 = .ok (.aload_n 0, 1) := by decide +kernel
theorem dX10_init_131 : decode cX10_init 131 = .ok (.new 64, 3) := by decide +kernel
theorem dX10_init_134 : decode cX10_init 134 = .ok (.dup, 1) := by decide +kernel
theorem dX10_init_135 : decode cX10_init 135 = .ok (.invokespecial 66, 3) := by decide +kernel
theorem dX10_init_138 : decode cX10_init 138 = .ok (.putfield 67, 3) := by decide +kernel
theorem dX10_init_141 : decode cX10_init 141 = .ok (.aload_n 0, 1) := by decide +kernel
theorem dX10_init_142 : decode cX10_init 142 = .ok (.new 71, 3) := by decide +kernel
theorem dX10_init_145 : decode cX10_init 145 = .ok (.dup, 1) := by decide +kernel
theorem dX10_init_146 : decode cX10_init 146 = .ok (.invokespecial 73, 3) := by decide +kernel
theorem dX10_init_149 : decode cX10_init 149 = .ok (.putfield 74, 3) := by decide +kernel
theorem dX10_init_152 : decode cX10_init 152 = .ok (.aload_n 0, 1) := by decide +kernel
theorem dX10_init_153 : decode cX10_init 153 = .ok (.new 78, 3) := by decide +kernel
theorem dX10_init_156 : decode cX10_init 156 = .ok (.dup, 1) := by decide +kernel
theorem dX10_init_157 : decode cX10_init 157 = .ok (.invokespecial 80, 3) := by decide +kernel
theorem dX10_init_160 : decode cX10_init 160 = .ok (.putfield 81, 3) := by decide +kernel
theorem dX10_init_163 : decode cX10_init 163 = .ok (.aload_n 0, 1) := by decide +kernel
theorem dX10_init_164 : decode cX10_init 164 = .ok (.new 85, 3) := by decide +kernel
theorem dX10_init_167 : decode cX10_init 167 = .ok (.dup, 1) := by decide +kernel
theorem dX10_init_168 : decode cX10_init 168 = .ok (.invokespecial 87, 3) := by decide +kernel
theorem dX10_init_171 : decode cX10_init 171 = .ok (.putfield 88, 3) := by decide +kernel
theorem dX10_init_174 : decode cX10_init 174 = .ok (.return_, 1) := by decide +kernel
theorem dX10_plan_0 : decode cX10_plan 0 = .ok (.iload_n 1, 1) := by decide +kernel
theorem dX10_plan_1 : decode cX10_plan 1 = .ok (.invokestatic 92, 3) := by decide +kernel
theorem dX10_plan_4 : decode cX10_plan 4 = .ok (.ifCond .ne 5, 3) := by decide +kernel
theorem dX10_plan_7 : decode cX10_plan 7 = .ok (.iconst (-1), 1) := by decide +kernel
theorem dX10_plan_8 : decode cX10_plan 8 = .ok (.ireturn, 1) := by decide +kernel
theorem dX10_plan_9 : decode cX10_plan 9 = .ok (.iload_n 2, 1) := by decide +kernel
theorem dX10_plan_10 : decode cX10_plan 10 = .ok (.ifCond .lt 9, 3) := by decide +kernel
theorem dX10_plan_13 : decode cX10_plan 13 = .ok (.iload_n 2, 1) := by decide +kernel
theorem dX10_plan_14 : decode cX10_plan 14 = .ok (.bipush 9, 2) := by decide +kernel
theorem dX10_plan_16 : decode cX10_plan 16 = .ok (.if_icmp .le 6, 3) := by decide +kernel
theorem dX10_plan_19 : decode cX10_plan 19 = .ok (.bipush (-2), 2) := by decide +kernel
theorem dX10_plan_21 : decode cX10_plan 21 = .ok (.ireturn, 1) := by decide +kernel
theorem dX10_plan_22 : decode cX10_plan 22 = .ok (.aload_n 0, 1) := by decide +kernel
theorem dX10_plan_23 : decode cX10_plan 23 = .ok (.getfield 12, 3) := by decide +kernel
theorem dX10_plan_26 : decode cX10_plan 26 = .ok (.getfield 96, 3) := by decide +kernel
theorem dX10_plan_29 : decode cX10_plan 29 = .ok (.invokevirtual 100, 3) := by decide +kernel
theorem dX10_plan_32 : decode cX10_plan 32 = .ok (.ifCond .eq 6, 3) := by decide +kernel
theorem dX10_plan_35 : decode cX10_plan 35 = .ok (.bipush (-4), 2) := by decide +kernel
theorem dX10_plan_37 : decode cX10_plan 37 = .ok (.ireturn, 1) := by decide +kernel
theorem dX10_plan_38 : decode cX10_plan 38 = .ok (.aload_n 0, 1) := by decide +kernel
theorem dX10_plan_39 : decode cX10_plan 39 = .ok (.getfield 12, 3) := by decide +kernel
theorem dX10_plan_42 : decode cX10_plan 42 = .ok (.getfield 96, 3) := by decide +kernel
theorem dX10_plan_45 : decode cX10_plan 45 = .ok (.iload_n 1, 1) := by decide +kernel
theorem dX10_plan_46 : decode cX10_plan 46 = .ok (.invokevirtual 106, 3) := by decide +kernel
theorem dX10_plan_49 : decode cX10_plan 49 = .ok (.aload_n 0, 1) := by decide +kernel
theorem dX10_plan_50 : decode cX10_plan 50 = .ok (.getfield 12, 3) := by decide +kernel
theorem dX10_plan_53 : decode cX10_plan 53 = .ok (.getfield 110, 3) := by decide +kernel
theorem dX10_plan_56 : decode cX10_plan 56 = .ok (.iload_n 2, 1) := by decide +kernel
theorem dX10_plan_57 : decode cX10_plan 57 = .ok (.invokevirtual 106, 3) := by decide +kernel
theorem dX10_plan_60 : decode cX10_plan 60 = .ok (.aload_n 0, 1) := by decide +kernel
theorem dX10_plan_61 : decode cX10_plan 61 = .ok (.getfield 12, 3) := by decide +kernel
theorem dX10_plan_64 : decode cX10_plan 64 = .ok (.getfield 113, 3) := by decide +kernel
theorem dX10_plan_67 : decode cX10_plan 67 = .ok (.sipush 255, 3) := by decide +kernel
theorem dX10_plan_70 : decode cX10_plan 70 = .ok (.invokevirtual 106, 3) := by decide +kernel
theorem dX10_plan_73 : decode cX10_plan 73 = .ok (.aload_n 0, 1) := by decide +kernel
theorem dX10_plan_74 : decode cX10_plan 74 = .ok (.getfield 12, 3) := by decide +kernel
theorem dX10_plan_77 : decode cX10_plan 77 = .ok (.getfield 96, 3) := by decide +kernel
theorem dX10_plan_80 : decode cX10_plan 80 = .ok (.getfield 116, 3) := by decide +kernel
theorem dX10_plan_83 : decode cX10_plan 83 = .ok (.iconst 1, 1) := by decide +kernel
theorem dX10_plan_84 : decode cX10_plan 84 = .ok (.isub, 1) := by decide +kernel
theorem dX10_plan_85 : decode cX10_plan 85 = .ok (.ireturn, 1) := by decide +kernel
theorem dX10_of_0 : decode cX10_of 0 = .ok (.aload_n 0, 1) := by decide +kernel
theorem dX10_of_1 : decode cX10_of 1 = .ok (.iload_n 1, 1) := by decide +kernel
theorem dX10_of_2 : decode cX10_of 2 = .ok (.invokevirtual 119, 3) := by decide +kernel
theorem dX10_of_5 : decode cX10_of 5 = .ok (.ifCond .ne 5, 3) := by decide +kernel
theorem dX10_of_8 : decode cX10_of 8 = .ok (.iconst (-1), 1) := by decide +kernel
theorem dX10_of_9 : decode cX10_of 9 = .ok (.ireturn, 1) := by decide +kernel
theorem dX10_of_10 : decode cX10_of 10 = .ok (.iload_n 2, 1) := by decide +kernel
theorem dX10_of_11 : decode cX10_of 11 = .ok (.tableswitch 58 0 2 #[25, 37, 49], 25) := by decide +kernel
theorem dX10_of_36 : decode cX10_of 36 = .ok (.aload_n 0, 1) := by decide +kernel
theorem dX10_of_37 : decode cX10_of 37 = .ok (.getfield 12, 3) := by decide +kernel
theorem dX10_of_40 : decode cX10_of 40 = .ok (.getfield 96, 3) := by decide +kernel
theorem dX10_of_43 : decode cX10_of 43 = .ok (.iload_n 1, 1) := by decide +kernel
theorem dX10_of_44 : decode cX10_of 44 = .ok (.invokevirtual 122, 3) := by decide +kernel
theorem dX10_of_47 : decode cX10_of 47 = .ok (.ireturn, 1) := by decide +kernel
theorem dX10_of_48 : decode cX10_of 48 = .ok (.aload_n 0, 1) := by decide +kernel
theorem dX10_of_49 : decode cX10_of 49 = .ok (.getfield 12, 3) := by decide +kernel
theorem dX10_of_52 : decode cX10_of 52 = .ok (.getfield 110, 3) := by decide +kernel
theorem dX10_of_55 : decode cX10_of 55 = .ok (.iload_n 1, 1) := by decide +kernel
theorem dX10_of_56 : decode cX10_of 56 = .ok (.invokevirtual 122, 3) := by decide +kernel
theorem dX10_of_59 : decode cX10_of 59 = .ok (.ireturn, 1) := by decide +kernel
theorem dX10_of_60 : decode cX10_of 60 = .ok (.aload_n 0, 1) := by decide +kernel
theorem dX10_of_61 : decode cX10_of 61 = .ok (.getfield 12, 3) := by decide +kernel
theorem dX10_of_64 : decode cX10_of 64 = .ok (.iload_n 1, 1) := by decide +kernel
theorem dX10_of_65 : decode cX10_of 65 = .ok (.invokevirtual 126, 3) := by decide +kernel
theorem dX10_of_68 : decode cX10_of 68 = .ok (.ireturn, 1) := by decide +kernel
theorem dX10_of_69 : decode cX10_of 69 = .ok (.iconst (-1), 1) := by decide +kernel
theorem dX10_of_70 : decode cX10_of 70 = .ok (.ireturn, 1) := by decide +kernel
theorem dX10_row_0 : decode cX10_row 0 = .ok (.aload_n 0, 1) := by decide +kernel
theorem dX10_row_1 : decode cX10_row 1 = .ok (.iload_n 1, 1) := by decide +kernel
theorem dX10_row_2 : decode cX10_row 2 = .ok (.invokevirtual 119, 3) := by decide +kernel
theorem dX10_row_5 : decode cX10_row 5 = .ok (.ifCond .eq 13, 3) := by decide +kernel
theorem dX10_row_8 : decode cX10_row 8 = .ok (.iload_n 2, 1) := by decide +kernel
theorem dX10_row_9 : decode cX10_row 9 = .ok (.ifCond .lt 9, 3) := by decide +kernel
theorem dX10_row_12 : decode cX10_row 12 = .ok (.iload_n 2, 1) := by decide +kernel
theorem dX10_row_13 : decode cX10_row 13 = .ok (.bipush 7, 2) := by decide +kernel
theorem dX10_row_15 : decode cX10_row 15 = .ok (.if_icmp .le 5, 3) := by decide +kernel
theorem dX10_row_18 : decode cX10_row 18 = .ok (.iconst (-1), 1) := by decide +kernel
theorem dX10_row_19 : decode cX10_row 19 = .ok (.ireturn, 1) := by decide +kernel
theorem dX10_row_20 : decode cX10_row 20 = .ok (.iload_n 3, 1) := by decide +kernel
theorem dX10_row_21 : decode cX10_row 21 = .ok (.ifCond .lt 8, 3) := by decide +kernel
theorem dX10_row_24 : decode cX10_row 24 = .ok (.iload_n 3, 1) := by decide +kernel
theorem dX10_row_25 : decode cX10_row 25 = .ok (.iconst 1, 1) := by decide +kernel
theorem dX10_row_26 : decode cX10_row 26 = .ok (.if_icmp .le 6, 3) := by decide +kernel
theorem dX10_row_29 : decode cX10_row 29 = .ok (.bipush (-2), 2) := by decide +kernel
theorem dX10_row_31 : decode cX10_row 31 = .ok (.ireturn, 1) := by decide +kernel
theorem dX10_row_32 : decode cX10_row 32 = .ok (.aload_n 0, 1) := by decide +kernel
theorem dX10_row_33 : decode cX10_row 33 = .ok (.getfield 12, 3) := by decide +kernel
theorem dX10_row_36 : decode cX10_row 36 = .ok (.getfield 96, 3) := by decide +kernel
theorem dX10_row_39 : decode cX10_row 39 = .ok (.iload_n 1, 1) := by decide +kernel
theorem dX10_row_40 : decode cX10_row 40 = .ok (.invokevirtual 122, 3) := by decide +kernel
theorem dX10_row_43 : decode cX10_row 43 = .ok (.bipush 6, 2) := by decide +kernel
theorem dX10_row_45 : decode cX10_row 45 = .ok (.if_icmp .eq 6, 3) := by decide +kernel
theorem dX10_row_48 : decode cX10_row 48 = .ok (.bipush (-3), 2) := by decide +kernel
theorem dX10_row_50 : decode cX10_row 50 = .ok (.ireturn, 1) := by decide +kernel
theorem dX10_row_51 : decode cX10_row 51 = .ok (.aload_n 0, 1) := by decide +kernel
theorem dX10_row_52 : decode cX10_row 52 = .ok (.getfield 12, 3) := by decide +kernel
theorem dX10_row_55 : decode cX10_row 55 = .ok (.getfield 113, 3) := by decide +kernel
theorem dX10_row_58 : decode cX10_row 58 = .ok (.iload_n 1, 1) := by decide +kernel
theorem dX10_row_59 : decode cX10_row 59 = .ok (.invokevirtual 122, 3) := by decide +kernel
theorem dX10_row_62 : decode cX10_row 62 = .ok (.istore 4, 2) := by decide +kernel
theorem dX10_row_64 : decode cX10_row 64 = .ok (.iconst 1, 1) := by decide +kernel
theorem dX10_row_65 : decode cX10_row 65 = .ok (.iload_n 2, 1) := by decide +kernel
theorem dX10_row_66 : decode cX10_row 66 = .ok (.ishl, 1) := by decide +kernel
theorem dX10_row_67 : decode cX10_row 67 = .ok (.istore 5, 2) := by decide +kernel
theorem dX10_row_69 : decode cX10_row 69 = .ok (.aload_n 0, 1) := by decide +kernel
theorem dX10_row_70 : decode cX10_row 70 = .ok (.getfield 12, 3) := by decide +kernel
theorem dX10_row_73 : decode cX10_row 73 = .ok (.getfield 113, 3) := by decide +kernel
theorem dX10_row_76 : decode cX10_row 76 = .ok (.iload_n 1, 1) := by decide +kernel
theorem dX10_row_77 : decode cX10_row 77 = .ok (.iload_n 3, 1) := by decide +kernel
theorem dX10_row_78 : decode cX10_row 78 = .ok (.iconst 1, 1) := by decide +kernel
theorem dX10_row_79 : decode cX10_row 79 = .ok (.if_icmp .ne 11, 3) := by decide +kernel
theorem dX10_row_82 : decode cX10_row 82 = .ok (.iload 4, 2) := by decide +kernel
theorem dX10_row_84 : decode cX10_row 84 = .ok (.iload 5, 2) := by decide +kernel
theorem dX10_row_86 : decode cX10_row 86 = .ok (.ior, 1) := by decide +kernel
theorem dX10_row_87 : decode cX10_row 87 = .ok (.goto 10, 3) := by decide +kernel
theorem dX10_row_90 : decode cX10_row 90 = .ok (.iload 4, 2) := by decide +kernel
theorem dX10_row_92 : decode cX10_row 92 = .ok (.iload 5, 2) := by decide +kernel
theorem dX10_row_94 : decode cX10_row 94 = .ok (.iconst (-1), 1) := by decide +kernel
theorem dX10_row_95 : decode cX10_row 95 = .ok (.ixor, 1) := by decide +kernel
theorem dX10_row_96 : decode cX10_row 96 = .ok (.iand, 1) := by decide +kernel
theorem dX10_row_97 : decode cX10_row 97 = .ok (.invokevirtual 129, 3) := by decide +kernel
theorem dX10_row_100 : decode cX10_row 100 = .ok (.iload 4, 2) := by decide +kernel
theorem dX10_row_102 : decode cX10_row 102 = .ok (.iload 5, 2) := by decide +kernel
theorem dX10_row_104 : decode cX10_row 104 = .ok (.iand, 1) := by decide +kernel
theorem dX10_row_105 : decode cX10_row 105 = .ok (.ifCond .eq 7, 3) := by decide +kernel
theorem dX10_row_108 : decode cX10_row 108 = .ok (.iconst 1, 1) := by decide +kernel
theorem dX10_row_109 : decode cX10_row 109 = .ok (.goto 4, 3) := by decide +kernel
theorem dX10_row_112 : decode cX10_row 112 = .ok (.iconst 0, 1) := by decide +kernel
theorem dX10_row_113 : decode cX10_row 113 = .ok (.ireturn, 1) := by decide +kernel
theorem dX10_feed_0 : decode cX10_feed 0 = .ok (.iload_n 1, 1) := by decide +kernel
theorem dX10_feed_1 : decode cX10_feed 1 = .ok (.ifCond .lt 9, 3) := by decide +kernel
theorem dX10_feed_4 : decode cX10_feed 4 = .ok (.iload_n 1, 1) := by decide +kernel
theorem dX10_feed_5 : decode cX10_feed 5 = .ok (.bipush 127, 2) := by decide +kernel
theorem dX10_feed_7 : decode cX10_feed 7 = .ok (.if_icmp .le 6, 3) := by decide +kernel
theorem dX10_feed_10 : decode cX10_feed 10 = .ok (.bipush (-2), 2) := by decide +kernel
theorem dX10_feed_12 : decode cX10_feed 12 = .ok (.ireturn, 1) := by decide +kernel
theorem dX10_feed_13 : decode cX10_feed 13 = .ok (.aload_n 0, 1) := by decide +kernel
theorem dX10_feed_14 : decode cX10_feed 14 = .ok (.getfield 28, 3) := by decide +kernel
theorem dX10_feed_17 : decode cX10_feed 17 = .ok (.invokevirtual 133, 3) := by decide +kernel
theorem dX10_feed_20 : decode cX10_feed 20 = .ok (.ifCond .eq 6, 3) := by decide +kernel
theorem dX10_feed_23 : decode cX10_feed 23 = .ok (.bipush (-4), 2) := by decide +kernel
theorem dX10_feed_25 : decode cX10_feed 25 = .ok (.ireturn, 1) := by decide +kernel
theorem dX10_feed_26 : decode cX10_feed 26 = .ok (.aload_n 0, 1) := by decide +kernel
theorem dX10_feed_27 : decode cX10_feed 27 = .ok (.getfield 28, 3) := by decide +kernel
theorem dX10_feed_30 : decode cX10_feed 30 = .ok (.iload_n 1, 1) := by decide +kernel
theorem dX10_feed_31 : decode cX10_feed 31 = .ok (.invokevirtual 134, 3) := by decide +kernel
theorem dX10_feed_34 : decode cX10_feed 34 = .ok (.aload_n 0, 1) := by decide +kernel
theorem dX10_feed_35 : decode cX10_feed 35 = .ok (.getfield 28, 3) := by decide +kernel
theorem dX10_feed_38 : decode cX10_feed 38 = .ok (.getfield 135, 3) := by decide +kernel
theorem dX10_feed_41 : decode cX10_feed 41 = .ok (.ireturn, 1) := by decide +kernel
theorem dX10_yard_0 : decode cX10_yard 0 = .ok (.aload_n 0, 1) := by decide +kernel
theorem dX10_yard_1 : decode cX10_yard 1 = .ok (.getfield 43, 3) := by decide +kernel
theorem dX10_yard_4 : decode cX10_yard 4 = .ok (.ifCond .lt 27, 3) := by decide +kernel
theorem dX10_yard_7 : decode cX10_yard 7 = .ok (.aload_n 0, 1) := by decide +kernel
theorem dX10_yard_8 : decode cX10_yard 8 = .ok (.getfield 43, 3) := by decide +kernel
theorem dX10_yard_11 : decode cX10_yard 11 = .ok (.aload_n 0, 1) := by decide +kernel
theorem dX10_yard_12 : decode cX10_yard 12 = .ok (.getfield 34, 3) := by decide +kernel
theorem dX10_yard_15 : decode cX10_yard 15 = .ok (.arraylength, 1) := by decide +kernel
theorem dX10_yard_16 : decode cX10_yard 16 = .ok (.if_icmp .ge 15, 3) := by decide +kernel
theorem dX10_yard_19 : decode cX10_yard 19 = .ok (.aload_n 0, 1) := by decide +kernel
theorem dX10_yard_20 : decode cX10_yard 20 = .ok (.getfield 34, 3) := by decide +kernel
theorem dX10_yard_23 : decode cX10_yard 23 = .ok (.aload_n 0, 1) := by decide +kernel
theorem dX10_yard_24 : decode cX10_yard 24 = .ok (.getfield 43, 3) := by decide +kernel
theorem dX10_yard_27 : decode cX10_yard 27 = .ok (.aaload, 1) := by decide +kernel
theorem dX10_yard_28 : decode cX10_yard 28 = .ok (.ifnonnull 6, 3) := by decide +kernel
theorem dX10_yard_31 : decode cX10_yard 31 = .ok (.bipush (-4), 2) := by decide +kernel
theorem dX10_yard_33 : decode cX10_yard 33 = .ok (.ireturn, 1) := by decide +kernel
theorem dX10_yard_34 : decode cX10_yard 34 = .ok (.aload_n 0, 1) := by decide +kernel
theorem dX10_yard_35 : decode cX10_yard 35 = .ok (.getfield 28, 3) := by decide +kernel
theorem dX10_yard_38 : decode cX10_yard 38 = .ok (.iconst 4, 1) := by decide +kernel
theorem dX10_yard_39 : decode cX10_yard 39 = .ok (.invokevirtual 138, 3) := by decide +kernel
theorem dX10_yard_42 : decode cX10_yard 42 = .ok (.istore_n 1, 1) := by decide +kernel
theorem dX10_yard_43 : decode cX10_yard 43 = .ok (.iload_n 1, 1) := by decide +kernel
theorem dX10_yard_44 : decode cX10_yard 44 = .ok (.ifCond .ge 18, 3) := by decide +kernel
theorem dX10_yard_47 : decode cX10_yard 47 = .ok (.aload_n 0, 1) := by decide +kernel
theorem dX10_yard_48 : decode cX10_yard 48 = .ok (.getfield 28, 3) := by decide +kernel
theorem dX10_yard_51 : decode cX10_yard 51 = .ok (.aload_n 0, 1) := by decide +kernel
theorem dX10_yard_52 : decode cX10_yard 52 = .ok (.getfield 28, 3) := by decide +kernel
theorem dX10_yard_55 : decode cX10_yard 55 = .ok (.getfield 141, 3) := by decide +kernel
theorem dX10_yard_58 : decode cX10_yard 58 = .ok (.invokevirtual 138, 3) := by decide +kernel
theorem dX10_yard_61 : decode cX10_yard 61 = .ok (.pop, 1) := by decide +kernel
theorem dX10_yard_62 : decode cX10_yard 62 = .ok (.aload_n 0, 1) := by decide +kernel
theorem dX10_yard_63 : decode cX10_yard 63 = .ok (.getfield 28, 3) := by decide +kernel
theorem dX10_yard_66 : decode cX10_yard 66 = .ok (.iconst 0, 1) := by decide +kernel
theorem dX10_yard_67 : decode cX10_yard 67 = .ok (.putfield 135, 3) := by decide +kernel
theorem dX10_yard_70 : decode cX10_yard 70 = .ok (.iload_n 1, 1) := by decide +kernel
theorem dX10_yard_71 : decode cX10_yard 71 = .ok (.ifCond .lt 8, 3) := by decide +kernel
theorem dX10_yard_74 : decode cX10_yard 74 = .ok (.bipush (-10), 2) := by decide +kernel
theorem dX10_yard_76 : decode cX10_yard 76 = .ok (.iload_n 1, 1) := by decide +kernel
theorem dX10_yard_77 : decode cX10_yard 77 = .ok (.isub, 1) := by decide +kernel
theorem dX10_yard_78 : decode cX10_yard 78 = .ok (.ireturn, 1) := by decide +kernel
theorem dX10_yard_79 : decode cX10_yard 79 = .ok (.aload_n 0, 1) := by decide +kernel
theorem dX10_yard_80 : decode cX10_yard 80 = .ok (.getfield 34, 3) := by decide +kernel
theorem dX10_yard_83 : decode cX10_yard 83 = .ok (.aload_n 0, 1) := by decide +kernel
theorem dX10_yard_84 : decode cX10_yard 84 = .ok (.getfield 43, 3) := by decide +kernel
theorem dX10_yard_87 : decode cX10_yard 87 = .ok (.aaload, 1) := by decide +kernel
theorem dX10_yard_88 : decode cX10_yard 88 = .ok (.aload_n 0, 1) := by decide +kernel
theorem dX10_yard_89 : decode cX10_yard 89 = .ok (.getfield 28, 3) := by decide +kernel
theorem dX10_yard_92 : decode cX10_yard 92 = .ok (.invokevirtual 144, 3) := by decide +kernel
theorem dX10_yard_95 : decode cX10_yard 95 = .ok (.aload_n 0, 1) := by decide +kernel
theorem dX10_yard_96 : decode cX10_yard 96 = .ok (.getfield 12, 3) := by decide +kernel
theorem dX10_yard_99 : decode cX10_yard 99 = .ok (.invokevirtual 148, 3) := by decide +kernel
theorem dX10_yard_102 : decode cX10_yard 102 = .ok (.aload_n 0, 1) := by decide +kernel
theorem dX10_yard_103 : decode cX10_yard 103 = .ok (.getfield 12, 3) := by decide +kernel
theorem dX10_yard_106 : decode cX10_yard 106 = .ok (.aload_n 0, 1) := by decide +kernel
theorem dX10_yard_107 : decode cX10_yard 107 = .ok (.getfield 43, 3) := by decide +kernel
theorem dX10_yard_110 : decode cX10_yard 110 = .ok (.putfield 151, 3) := by decide +kernel
theorem dX10_yard_113 : decode cX10_yard 113 = .ok (.aload_n 0, 1) := by decide +kernel
theorem dX10_yard_114 : decode cX10_yard 114 = .ok (.dup, 1) := by decide +kernel
theorem dX10_yard_115 : decode cX10_yard 115 = .ok (.getfield 43, 3) := by decide +kernel
theorem dX10_yard_118 : decode cX10_yard 118 = .ok (.iconst 1, 1) := by decide +kernel
theorem dX10_yard_119 : decode cX10_yard 119 = .ok (.iadd, 1) := by decide +kernel
theorem dX10_yard_120 : decode cX10_yard 120 = .ok (.putfield 43, 3) := by decide +kernel
theorem dX10_yard_123 : decode cX10_yard 123 = .ok (.aload_n 0, 1) := by decide +kernel
theorem dX10_yard_124 : decode cX10_yard 124 = .ok (.getfield 12, 3) := by decide +kernel
theorem dX10_yard_127 : decode cX10_yard 127 = .ok (.getfield 151, 3) := by decide +kernel
theorem dX10_yard_130 : decode cX10_yard 130 = .ok (.ireturn, 1) := by decide +kernel
theorem dX10_told_0 : decode cX10_told 0 = .ok (.aload_n 0, 1) := by decide +kernel
theorem dX10_told_1 : decode cX10_told 1 = .ok (.invokevirtual 154, 3) := by decide +kernel
theorem dX10_told_4 : decode cX10_told 4 = .ok (.astore_n 2, 1) := by decide +kernel
theorem dX10_told_5 : decode cX10_told 5 = .ok (.iload_n 1, 1) := by decide +kernel
theorem dX10_told_6 : decode cX10_told 6 = .ok (.tableswitch 111 0 6 #[42, 47, 60, 71, 76, 81, 89], 42) := by decide +kernel
theorem dX10_told_48 : decode cX10_told 48 = .ok (.aload_n 2, 1) := by decide +kernel
theorem dX10_told_49 : decode cX10_told 49 = .ok (.getfield 158, 3) := by decide +kernel
theorem dX10_told_52 : decode cX10_told 52 = .ok (.ireturn, 1) := by decide +kernel
theorem dX10_told_53 : decode cX10_told 53 = .ok (.aload_n 2, 1) := by decide +kernel
theorem dX10_told_54 : decode cX10_told 54 = .ok (.getfield 159, 3) := by decide +kernel
theorem dX10_told_57 : decode cX10_told 57 = .ok (.ifCond .eq 7, 3) := by decide +kernel
theorem dX10_told_60 : decode cX10_told 60 = .ok (.iconst 1, 1) := by decide +kernel
theorem dX10_told_61 : decode cX10_told 61 = .ok (.goto 4, 3) := by decide +kernel
theorem dX10_told_64 : decode cX10_told 64 = .ok (.iconst 0, 1) := by decide +kernel
theorem dX10_told_65 : decode cX10_told 65 = .ok (.ireturn, 1) := by decide +kernel
theorem dX10_told_66 : decode cX10_told 66 = .ok (.aload_n 0, 1) := by decide +kernel
theorem dX10_told_67 : decode cX10_told 67 = .ok (.getfield 12, 3) := by decide +kernel
theorem dX10_told_70 : decode cX10_told 70 = .ok (.invokevirtual 162, 3) := by decide +kernel
theorem dX10_told_73 : decode cX10_told 73 = .ok (.invokestatic 166, 3) := by decide +kernel
theorem dX10_told_76 : decode cX10_told 76 = .ok (.ireturn, 1) := by decide +kernel
theorem dX10_told_77 : decode cX10_told 77 = .ok (.aload_n 2, 1) := by decide +kernel
theorem dX10_told_78 : decode cX10_told 78 = .ok (.getfield 171, 3) := by decide +kernel
theorem dX10_told_81 : decode cX10_told 81 = .ok (.ireturn, 1) := by decide +kernel
theorem dX10_told_82 : decode cX10_told 82 = .ok (.aload_n 2, 1) := by decide +kernel
theorem dX10_told_83 : decode cX10_told 83 = .ok (.getfield 174, 3) := by decide +kernel
theorem dX10_told_86 : decode cX10_told 86 = .ok (.ireturn, 1) := by decide +kernel
theorem dX10_told_87 : decode cX10_told 87 = .ok (.aload_n 0, 1) := by decide +kernel
theorem dX10_told_88 : decode cX10_told 88 = .ok (.getfield 12, 3) := by decide +kernel
theorem dX10_told_91 : decode cX10_told 91 = .ok (.invokevirtual 162, 3) := by decide +kernel
theorem dX10_told_94 : decode cX10_told 94 = .ok (.ireturn, 1) := by decide +kernel
theorem dX10_told_95 : decode cX10_told 95 = .ok (.aload_n 0, 1) := by decide +kernel
theorem dX10_told_96 : decode cX10_told 96 = .ok (.invokevirtual 177, 3) := by decide +kernel
theorem dX10_told_99 : decode cX10_told 99 = .ok (.aload_n 0, 1) := by decide +kernel
theorem dX10_told_100 : decode cX10_told 100 = .ok (.getfield 50, 3) := by decide +kernel
theorem dX10_told_103 : decode cX10_told 103 = .ok (.invokevirtual 180, 3) := by decide +kernel
theorem dX10_told_106 : decode cX10_told 106 = .ok (.bipush (-5), 2) := by decide +kernel
theorem dX10_told_108 : decode cX10_told 108 = .ok (.if_icmp .ne 7, 3) := by decide +kernel
theorem dX10_told_111 : decode cX10_told 111 = .ok (.iconst 1, 1) := by decide +kernel
theorem dX10_told_112 : decode cX10_told 112 = .ok (.goto 4, 3) := by decide +kernel
theorem dX10_told_115 : decode cX10_told 115 = .ok (.iconst 0, 1) := by decide +kernel
theorem dX10_told_116 : decode cX10_told 116 = .ok (.ireturn, 1) := by decide +kernel
theorem dX10_told_117 : decode cX10_told 117 = .ok (.iconst (-1), 1) := by decide +kernel
theorem dX10_told_118 : decode cX10_told 118 = .ok (.ireturn, 1) := by decide +kernel
theorem dX10_set_0 : decode cX10_set 0 = .ok (.aload_n 0, 1) := by decide +kernel
theorem dX10_set_1 : decode cX10_set 1 = .ok (.iload_n 1, 1) := by decide +kernel
theorem dX10_set_2 : decode cX10_set 2 = .ok (.invokevirtual 119, 3) := by decide +kernel
theorem dX10_set_5 : decode cX10_set 5 = .ok (.ifCond .eq 11, 3) := by decide +kernel
theorem dX10_set_8 : decode cX10_set 8 = .ok (.aload_n 0, 1) := by decide +kernel
theorem dX10_set_9 : decode cX10_set 9 = .ok (.iload_n 2, 1) := by decide +kernel
theorem dX10_set_10 : decode cX10_set 10 = .ok (.invokevirtual 183, 3) := by decide +kernel
theorem dX10_set_13 : decode cX10_set 13 = .ok (.ifCond .ne 5, 3) := by decide +kernel
theorem dX10_set_16 : decode cX10_set 16 = .ok (.iconst (-1), 1) := by decide +kernel
theorem dX10_set_17 : decode cX10_set 17 = .ok (.ireturn, 1) := by decide +kernel
theorem dX10_set_18 : decode cX10_set 18 = .ok (.aload_n 0, 1) := by decide +kernel
theorem dX10_set_19 : decode cX10_set 19 = .ok (.invokevirtual 186, 3) := by decide +kernel
theorem dX10_set_22 : decode cX10_set 22 = .ok (.iload_n 2, 1) := by decide +kernel
theorem dX10_set_23 : decode cX10_set 23 = .ok (.invokestatic 189, 3) := by decide +kernel
theorem dX10_set_26 : decode cX10_set 26 = .ok (.ifCond .ne 6, 3) := by decide +kernel
theorem dX10_set_29 : decode cX10_set 29 = .ok (.bipush (-3), 2) := by decide +kernel
theorem dX10_set_31 : decode cX10_set 31 = .ok (.ireturn, 1) := by decide +kernel
theorem dX10_set_32 : decode cX10_set 32 = .ok (.aload_n 0, 1) := by decide +kernel
theorem dX10_set_33 : decode cX10_set 33 = .ok (.iload_n 1, 1) := by decide +kernel
theorem dX10_set_34 : decode cX10_set 34 = .ok (.invokevirtual 193, 3) := by decide +kernel
theorem dX10_set_37 : decode cX10_set 37 = .ok (.iload_n 2, 1) := by decide +kernel
theorem dX10_set_38 : decode cX10_set 38 = .ok (.invokestatic 189, 3) := by decide +kernel
theorem dX10_set_41 : decode cX10_set 41 = .ok (.istore_n 3, 1) := by decide +kernel
theorem dX10_set_42 : decode cX10_set 42 = .ok (.aload_n 0, 1) := by decide +kernel
theorem dX10_set_43 : decode cX10_set 43 = .ok (.getfield 12, 3) := by decide +kernel
theorem dX10_set_46 : decode cX10_set 46 = .ok (.iload_n 2, 1) := by decide +kernel
theorem dX10_set_47 : decode cX10_set 47 = .ok (.iload_n 1, 1) := by decide +kernel
theorem dX10_set_48 : decode cX10_set 48 = .ok (.invokevirtual 196, 3) := by decide +kernel
theorem dX10_set_51 : decode cX10_set 51 = .ok (.iload_n 3, 1) := by decide +kernel
theorem dX10_set_52 : decode cX10_set 52 = .ok (.ifCond .eq 7, 3) := by decide +kernel
theorem dX10_set_55 : decode cX10_set 55 = .ok (.iconst 1, 1) := by decide +kernel
theorem dX10_set_56 : decode cX10_set 56 = .ok (.goto 4, 3) := by decide +kernel
theorem dX10_set_59 : decode cX10_set 59 = .ok (.iconst 0, 1) := by decide +kernel
theorem dX10_set_60 : decode cX10_set 60 = .ok (.ireturn, 1) := by decide +kernel
theorem dX10_take_0 : decode cX10_take 0 = .ok (.aload_n 0, 1) := by decide +kernel
theorem dX10_take_1 : decode cX10_take 1 = .ok (.iload_n 1, 1) := by decide +kernel
theorem dX10_take_2 : decode cX10_take 2 = .ok (.invokevirtual 183, 3) := by decide +kernel
theorem dX10_take_5 : decode cX10_take 5 = .ok (.ifCond .ne 5, 3) := by decide +kernel
theorem dX10_take_8 : decode cX10_take 8 = .ok (.iconst (-1), 1) := by decide +kernel
theorem dX10_take_9 : decode cX10_take 9 = .ok (.ireturn, 1) := by decide +kernel
theorem dX10_take_10 : decode cX10_take 10 = .ok (.aload_n 0, 1) := by decide +kernel
theorem dX10_take_11 : decode cX10_take 11 = .ok (.getfield 12, 3) := by decide +kernel
theorem dX10_take_14 : decode cX10_take 14 = .ok (.iload_n 1, 1) := by decide +kernel
theorem dX10_take_15 : decode cX10_take 15 = .ok (.invokevirtual 199, 3) := by decide +kernel
theorem dX10_take_18 : decode cX10_take 18 = .ok (.istore_n 2, 1) := by decide +kernel
theorem dX10_take_19 : decode cX10_take 19 = .ok (.iload_n 2, 1) := by decide +kernel
theorem dX10_take_20 : decode cX10_take 20 = .ok (.ifCond .ge 6, 3) := by decide +kernel
theorem dX10_take_23 : decode cX10_take 23 = .ok (.bipush (-3), 2) := by decide +kernel
theorem dX10_take_25 : decode cX10_take 25 = .ok (.ireturn, 1) := by decide +kernel
theorem dX10_take_26 : decode cX10_take 26 = .ok (.aload_n 0, 1) := by decide +kernel
theorem dX10_take_27 : decode cX10_take 27 = .ok (.getfield 12, 3) := by decide +kernel
theorem dX10_take_30 : decode cX10_take 30 = .ok (.iload_n 1, 1) := by decide +kernel
theorem dX10_take_31 : decode cX10_take 31 = .ok (.iconst (-1), 1) := by decide +kernel
theorem dX10_take_32 : decode cX10_take 32 = .ok (.invokevirtual 196, 3) := by decide +kernel
theorem dX10_take_35 : decode cX10_take 35 = .ok (.iload_n 2, 1) := by decide +kernel
theorem dX10_take_36 : decode cX10_take 36 = .ok (.ireturn, 1) := by decide +kernel
theorem dX10_at_0 : decode cX10_at 0 = .ok (.aload_n 0, 1) := by decide +kernel
theorem dX10_at_1 : decode cX10_at 1 = .ok (.iload_n 1, 1) := by decide +kernel
theorem dX10_at_2 : decode cX10_at 2 = .ok (.invokevirtual 183, 3) := by decide +kernel
theorem dX10_at_5 : decode cX10_at 5 = .ok (.ifCond .eq 12, 3) := by decide +kernel
theorem dX10_at_8 : decode cX10_at 8 = .ok (.iload_n 2, 1) := by decide +kernel
theorem dX10_at_9 : decode cX10_at 9 = .ok (.ifCond .lt 8, 3) := by decide +kernel
theorem dX10_at_12 : decode cX10_at 12 = .ok (.iload_n 2, 1) := by decide +kernel
theorem dX10_at_13 : decode cX10_at 13 = .ok (.iconst 2, 1) := by decide +kernel
theorem dX10_at_14 : decode cX10_at 14 = .ok (.if_icmp .le 5, 3) := by decide +kernel
theorem dX10_at_17 : decode cX10_at 17 = .ok (.iconst (-1), 1) := by decide +kernel
theorem dX10_at_18 : decode cX10_at 18 = .ok (.ireturn, 1) := by decide +kernel
theorem dX10_at_19 : decode cX10_at 19 = .ok (.iload_n 2, 1) := by decide +kernel
theorem dX10_at_20 : decode cX10_at 20 = .ok (.iconst 1, 1) := by decide +kernel
theorem dX10_at_21 : decode cX10_at 21 = .ok (.if_icmp .ne 16, 3) := by decide +kernel
theorem dX10_at_24 : decode cX10_at 24 = .ok (.aload_n 0, 1) := by decide +kernel
theorem dX10_at_25 : decode cX10_at 25 = .ok (.invokevirtual 202, 3) := by decide +kernel
theorem dX10_at_28 : decode cX10_at 28 = .ok (.aload_n 0, 1) := by decide +kernel
theorem dX10_at_29 : decode cX10_at 29 = .ok (.getfield 50, 3) := by decide +kernel
theorem dX10_at_32 : decode cX10_at 32 = .ok (.iload_n 1, 1) := by decide +kernel
theorem dX10_at_33 : decode cX10_at 33 = .ok (.invokevirtual 205, 3) := by decide +kernel
theorem dX10_at_36 : decode cX10_at 36 = .ok (.ireturn, 1) := by decide +kernel
theorem dX10_at_37 : decode cX10_at 37 = .ok (.aload_n 0, 1) := by decide +kernel
theorem dX10_at_38 : decode cX10_at 38 = .ok (.getfield 12, 3) := by decide +kernel
theorem dX10_at_41 : decode cX10_at 41 = .ok (.iload_n 1, 1) := by decide +kernel
theorem dX10_at_42 : decode cX10_at 42 = .ok (.invokevirtual 199, 3) := by decide +kernel
theorem dX10_at_45 : decode cX10_at 45 = .ok (.istore_n 3, 1) := by decide +kernel
theorem dX10_at_46 : decode cX10_at 46 = .ok (.iload_n 3, 1) := by decide +kernel
theorem dX10_at_47 : decode cX10_at 47 = .ok (.ifCond .ge 6, 3) := by decide +kernel
theorem dX10_at_50 : decode cX10_at 50 = .ok (.bipush (-5), 2) := by decide +kernel
theorem dX10_at_52 : decode cX10_at 52 = .ok (.ireturn, 1) := by decide +kernel
theorem dX10_at_53 : decode cX10_at 53 = .ok (.iload_n 2, 1) := by decide +kernel
theorem dX10_at_54 : decode cX10_at 54 = .ok (.ifCond .ne 7, 3) := by decide +kernel
theorem dX10_at_57 : decode cX10_at 57 = .ok (.iload_n 3, 1) := by decide +kernel
theorem dX10_at_58 : decode cX10_at 58 = .ok (.goto 9, 3) := by decide +kernel
theorem dX10_at_61 : decode cX10_at 61 = .ok (.aload_n 0, 1) := by decide +kernel
theorem dX10_at_62 : decode cX10_at 62 = .ok (.iload_n 3, 1) := by decide +kernel
theorem dX10_at_63 : decode cX10_at 63 = .ok (.iload_n 1, 1) := by decide +kernel
theorem dX10_at_64 : decode cX10_at 64 = .ok (.invokevirtual 208, 3) := by decide +kernel
theorem dX10_at_67 : decode cX10_at 67 = .ok (.ireturn, 1) := by decide +kernel
theorem dX10_sees_0 : decode cX10_sees 0 = .ok (.aload_n 0, 1) := by decide +kernel
theorem dX10_sees_1 : decode cX10_sees 1 = .ok (.iload_n 1, 1) := by decide +kernel
theorem dX10_sees_2 : decode cX10_sees 2 = .ok (.invokevirtual 119, 3) := by decide +kernel
theorem dX10_sees_5 : decode cX10_sees 5 = .ok (.ifCond .eq 11, 3) := by decide +kernel
theorem dX10_sees_8 : decode cX10_sees 8 = .ok (.aload_n 0, 1) := by decide +kernel
theorem dX10_sees_9 : decode cX10_sees 9 = .ok (.iload_n 2, 1) := by decide +kernel
theorem dX10_sees_10 : decode cX10_sees 10 = .ok (.invokevirtual 183, 3) := by decide +kernel
theorem dX10_sees_13 : decode cX10_sees 13 = .ok (.ifCond .ne 5, 3) := by decide +kernel
theorem dX10_sees_16 : decode cX10_sees 16 = .ok (.iconst (-1), 1) := by decide +kernel
theorem dX10_sees_17 : decode cX10_sees 17 = .ok (.ireturn, 1) := by decide +kernel
theorem dX10_sees_18 : decode cX10_sees 18 = .ok (.aload_n 0, 1) := by decide +kernel
theorem dX10_sees_19 : decode cX10_sees 19 = .ok (.iload_n 1, 1) := by decide +kernel
theorem dX10_sees_20 : decode cX10_sees 20 = .ok (.iload_n 2, 1) := by decide +kernel
theorem dX10_sees_21 : decode cX10_sees 21 = .ok (.invokevirtual 208, 3) := by decide +kernel
theorem dX10_sees_24 : decode cX10_sees 24 = .ok (.ireturn, 1) := by decide +kernel
theorem dX10_clear_0 : decode cX10_clear 0 = .ok (.aload_n 0, 1) := by decide +kernel
theorem dX10_clear_1 : decode cX10_clear 1 = .ok (.getfield 12, 3) := by decide +kernel
theorem dX10_clear_4 : decode cX10_clear 4 = .ok (.invokevirtual 162, 3) := by decide +kernel
theorem dX10_clear_7 : decode cX10_clear 7 = .ok (.invokestatic 166, 3) := by decide +kernel
theorem dX10_clear_10 : decode cX10_clear 10 = .ok (.istore_n 1, 1) := by decide +kernel
theorem dX10_clear_11 : decode cX10_clear 11 = .ok (.aload_n 0, 1) := by decide +kernel
theorem dX10_clear_12 : decode cX10_clear 12 = .ok (.getfield 12, 3) := by decide +kernel
theorem dX10_clear_15 : decode cX10_clear 15 = .ok (.invokevirtual 212, 3) := by decide +kernel
theorem dX10_clear_18 : decode cX10_clear 18 = .ok (.iload_n 1, 1) := by decide +kernel
theorem dX10_clear_19 : decode cX10_clear 19 = .ok (.ireturn, 1) := by decide +kernel
theorem dX10_worst_0 : decode cX10_worst 0 = .ok (.aload_n 0, 1) := by decide +kernel
theorem dX10_worst_1 : decode cX10_worst 1 = .ok (.invokevirtual 177, 3) := by decide +kernel
theorem dX10_worst_4 : decode cX10_worst 4 = .ok (.aload_n 0, 1) := by decide +kernel
theorem dX10_worst_5 : decode cX10_worst 5 = .ok (.getfield 50, 3) := by decide +kernel
theorem dX10_worst_8 : decode cX10_worst 8 = .ok (.invokevirtual 180, 3) := by decide +kernel
theorem dX10_worst_11 : decode cX10_worst 11 = .ok (.ireturn, 1) := by decide +kernel
theorem dX10_ways_0 : decode cX10_ways 0 = .ok (.aload_n 0, 1) := by decide +kernel
theorem dX10_ways_1 : decode cX10_ways 1 = .ok (.iload_n 1, 1) := by decide +kernel
theorem dX10_ways_2 : decode cX10_ways 2 = .ok (.invokevirtual 119, 3) := by decide +kernel
theorem dX10_ways_5 : decode cX10_ways 5 = .ok (.ifCond .eq 19, 3) := by decide +kernel
theorem dX10_ways_8 : decode cX10_ways 8 = .ok (.iload_n 2, 1) := by decide +kernel
theorem dX10_ways_9 : decode cX10_ways 9 = .ok (.iconst (-1), 1) := by decide +kernel
theorem dX10_ways_10 : decode cX10_ways 10 = .ok (.if_icmp .lt 14, 3) := by decide +kernel
theorem dX10_ways_13 : decode cX10_ways 13 = .ok (.iload_n 2, 1) := by decide +kernel
theorem dX10_ways_14 : decode cX10_ways 14 = .ok (.aload_n 0, 1) := by decide +kernel
theorem dX10_ways_15 : decode cX10_ways 15 = .ok (.invokevirtual 154, 3) := by decide +kernel
theorem dX10_ways_18 : decode cX10_ways 18 = .ok (.getfield 158, 3) := by decide +kernel
theorem dX10_ways_21 : decode cX10_ways 21 = .ok (.if_icmp .lt 5, 3) := by decide +kernel
theorem dX10_ways_24 : decode cX10_ways 24 = .ok (.iconst (-1), 1) := by decide +kernel
theorem dX10_ways_25 : decode cX10_ways 25 = .ok (.ireturn, 1) := by decide +kernel
theorem dX10_ways_26 : decode cX10_ways 26 = .ok (.aload_n 0, 1) := by decide +kernel
theorem dX10_ways_27 : decode cX10_ways 27 = .ok (.iload_n 1, 1) := by decide +kernel
theorem dX10_ways_28 : decode cX10_ways 28 = .ok (.invokevirtual 215, 3) := by decide +kernel
theorem dX10_ways_31 : decode cX10_ways 31 = .ok (.aload_n 0, 1) := by decide +kernel
theorem dX10_ways_32 : decode cX10_ways 32 = .ok (.getfield 60, 3) := by decide +kernel
theorem dX10_ways_35 : decode cX10_ways 35 = .ok (.invokevirtual 218, 3) := by decide +kernel
theorem dX10_ways_38 : decode cX10_ways 38 = .ok (.iload_n 2, 1) := by decide +kernel
theorem dX10_ways_39 : decode cX10_ways 39 = .ok (.iconst (-1), 1) := by decide +kernel
theorem dX10_ways_40 : decode cX10_ways 40 = .ok (.if_icmp .ne 13, 3) := by decide +kernel
theorem dX10_ways_43 : decode cX10_ways 43 = .ok (.aload_n 0, 1) := by decide +kernel
theorem dX10_ways_44 : decode cX10_ways 44 = .ok (.getfield 60, 3) := by decide +kernel
theorem dX10_ways_47 : decode cX10_ways 47 = .ok (.getfield 221, 3) := by decide +kernel
theorem dX10_ways_50 : decode cX10_ways 50 = .ok (.goto 11, 3) := by decide +kernel
theorem dX10_ways_53 : decode cX10_ways 53 = .ok (.aload_n 0, 1) := by decide +kernel
theorem dX10_ways_54 : decode cX10_ways 54 = .ok (.getfield 60, 3) := by decide +kernel
theorem dX10_ways_57 : decode cX10_ways 57 = .ok (.iload_n 2, 1) := by decide +kernel
theorem dX10_ways_58 : decode cX10_ways 58 = .ok (.invokevirtual 224, 3) := by decide +kernel
theorem dX10_ways_61 : decode cX10_ways 61 = .ok (.ireturn, 1) := by decide +kernel
theorem dX10_after_0 : decode cX10_after 0 = .ok (.aload_n 0, 1) := by decide +kernel
theorem dX10_after_1 : decode cX10_after 1 = .ok (.iload_n 1, 1) := by decide +kernel
theorem dX10_after_2 : decode cX10_after 2 = .ok (.invokevirtual 119, 3) := by decide +kernel
theorem dX10_after_5 : decode cX10_after 5 = .ok (.ifCond .eq 18, 3) := by decide +kernel
theorem dX10_after_8 : decode cX10_after 8 = .ok (.iload_n 2, 1) := by decide +kernel
theorem dX10_after_9 : decode cX10_after 9 = .ok (.ifCond .lt 14, 3) := by decide +kernel
theorem dX10_after_12 : decode cX10_after 12 = .ok (.iload_n 2, 1) := by decide +kernel
theorem dX10_after_13 : decode cX10_after 13 = .ok (.aload_n 0, 1) := by decide +kernel
theorem dX10_after_14 : decode cX10_after 14 = .ok (.invokevirtual 154, 3) := by decide +kernel
theorem dX10_after_17 : decode cX10_after 17 = .ok (.getfield 158, 3) := by decide +kernel
theorem dX10_after_20 : decode cX10_after 20 = .ok (.if_icmp .lt 5, 3) := by decide +kernel
theorem dX10_after_23 : decode cX10_after 23 = .ok (.iconst (-1), 1) := by decide +kernel
theorem dX10_after_24 : decode cX10_after 24 = .ok (.ireturn, 1) := by decide +kernel
theorem dX10_after_25 : decode cX10_after 25 = .ok (.aload_n 0, 1) := by decide +kernel
theorem dX10_after_26 : decode cX10_after 26 = .ok (.iload_n 1, 1) := by decide +kernel
theorem dX10_after_27 : decode cX10_after 27 = .ok (.invokevirtual 215, 3) := by decide +kernel
theorem dX10_after_30 : decode cX10_after 30 = .ok (.aload_n 0, 1) := by decide +kernel
theorem dX10_after_31 : decode cX10_after 31 = .ok (.getfield 60, 3) := by decide +kernel
theorem dX10_after_34 : decode cX10_after 34 = .ok (.aload_n 0, 1) := by decide +kernel
theorem dX10_after_35 : decode cX10_after 35 = .ok (.getfield 12, 3) := by decide +kernel
theorem dX10_after_38 : decode cX10_after 38 = .ok (.invokevirtual 162, 3) := by decide +kernel
theorem dX10_after_41 : decode cX10_after 41 = .ok (.invokevirtual 227, 3) := by decide +kernel
theorem dX10_after_44 : decode cX10_after 44 = .ok (.ifCond .ne 6, 3) := by decide +kernel
theorem dX10_after_47 : decode cX10_after 47 = .ok (.bipush (-9), 2) := by decide +kernel
theorem dX10_after_49 : decode cX10_after 49 = .ok (.ireturn, 1) := by decide +kernel
theorem dX10_after_50 : decode cX10_after 50 = .ok (.aload_n 0, 1) := by decide +kernel
theorem dX10_after_51 : decode cX10_after 51 = .ok (.getfield 60, 3) := by decide +kernel
theorem dX10_after_54 : decode cX10_after 54 = .ok (.invokevirtual 230, 3) := by decide +kernel
theorem dX10_after_57 : decode cX10_after 57 = .ok (.aload_n 0, 1) := by decide +kernel
theorem dX10_after_58 : decode cX10_after 58 = .ok (.getfield 60, 3) := by decide +kernel
theorem dX10_after_61 : decode cX10_after 61 = .ok (.iload_n 2, 1) := by decide +kernel
theorem dX10_after_62 : decode cX10_after 62 = .ok (.invokevirtual 224, 3) := by decide +kernel
theorem dX10_after_65 : decode cX10_after 65 = .ok (.ireturn, 1) := by decide +kernel
theorem dX10_most_0 : decode cX10_most 0 = .ok (.aload_n 0, 1) := by decide +kernel
theorem dX10_most_1 : decode cX10_most 1 = .ok (.iload_n 1, 1) := by decide +kernel
theorem dX10_most_2 : decode cX10_most 2 = .ok (.invokevirtual 119, 3) := by decide +kernel
theorem dX10_most_5 : decode cX10_most 5 = .ok (.ifCond .ne 5, 3) := by decide +kernel
theorem dX10_most_8 : decode cX10_most 8 = .ok (.iconst (-1), 1) := by decide +kernel
theorem dX10_most_9 : decode cX10_most 9 = .ok (.ireturn, 1) := by decide +kernel
theorem dX10_most_10 : decode cX10_most 10 = .ok (.aload_n 0, 1) := by decide +kernel
theorem dX10_most_11 : decode cX10_most 11 = .ok (.invokevirtual 154, 3) := by decide +kernel
theorem dX10_most_14 : decode cX10_most 14 = .ok (.invokevirtual 233, 3) := by decide +kernel
theorem dX10_most_17 : decode cX10_most 17 = .ok (.istore_n 2, 1) := by decide +kernel
theorem dX10_most_18 : decode cX10_most 18 = .ok (.aload_n 0, 1) := by decide +kernel
theorem dX10_most_19 : decode cX10_most 19 = .ok (.iload_n 1, 1) := by decide +kernel
theorem dX10_most_20 : decode cX10_most 20 = .ok (.invokevirtual 236, 3) := by decide +kernel
theorem dX10_most_23 : decode cX10_most 23 = .ok (.aload_n 0, 1) := by decide +kernel
theorem dX10_most_24 : decode cX10_most 24 = .ok (.getfield 54, 3) := by decide +kernel
theorem dX10_most_27 : decode cX10_most 27 = .ok (.iload_n 2, 1) := by decide +kernel
theorem dX10_most_28 : decode cX10_most 28 = .ok (.invokevirtual 239, 3) := by decide +kernel
theorem dX10_most_31 : decode cX10_most 31 = .ok (.aload_n 0, 1) := by decide +kernel
theorem dX10_most_32 : decode cX10_most 32 = .ok (.getfield 54, 3) := by decide +kernel
theorem dX10_most_35 : decode cX10_most 35 = .ok (.getfield 242, 3) := by decide +kernel
theorem dX10_most_38 : decode cX10_most 38 = .ok (.iload_n 2, 1) := by decide +kernel
theorem dX10_most_39 : decode cX10_most 39 = .ok (.iconst 0, 1) := by decide +kernel
theorem dX10_most_40 : decode cX10_most 40 = .ok (.invokestatic 246, 3) := by decide +kernel
theorem dX10_most_43 : decode cX10_most 43 = .ok (.ireturn, 1) := by decide +kernel
theorem dX10_hold_0 : decode cX10_hold 0 = .ok (.aload_n 0, 1) := by decide +kernel
theorem dX10_hold_1 : decode cX10_hold 1 = .ok (.iload_n 1, 1) := by decide +kernel
theorem dX10_hold_2 : decode cX10_hold 2 = .ok (.invokevirtual 119, 3) := by decide +kernel
theorem dX10_hold_5 : decode cX10_hold 5 = .ok (.ifCond .eq 12, 3) := by decide +kernel
theorem dX10_hold_8 : decode cX10_hold 8 = .ok (.iload_n 2, 1) := by decide +kernel
theorem dX10_hold_9 : decode cX10_hold 9 = .ok (.ifCond .lt 8, 3) := by decide +kernel
theorem dX10_hold_12 : decode cX10_hold 12 = .ok (.iload_n 2, 1) := by decide +kernel
theorem dX10_hold_13 : decode cX10_hold 13 = .ok (.iconst 1, 1) := by decide +kernel
theorem dX10_hold_14 : decode cX10_hold 14 = .ok (.if_icmp .le 5, 3) := by decide +kernel
theorem dX10_hold_17 : decode cX10_hold 17 = .ok (.iconst (-1), 1) := by decide +kernel
theorem dX10_hold_18 : decode cX10_hold 18 = .ok (.ireturn, 1) := by decide +kernel
theorem dX10_hold_19 : decode cX10_hold 19 = .ok (.aload_n 0, 1) := by decide +kernel
theorem dX10_hold_20 : decode cX10_hold 20 = .ok (.invokevirtual 154, 3) := by decide +kernel
theorem dX10_hold_23 : decode cX10_hold 23 = .ok (.astore_n 3, 1) := by decide +kernel
theorem dX10_hold_24 : decode cX10_hold 24 = .ok (.aload_n 0, 1) := by decide +kernel
theorem dX10_hold_25 : decode cX10_hold 25 = .ok (.iload_n 1, 1) := by decide +kernel
theorem dX10_hold_26 : decode cX10_hold 26 = .ok (.invokevirtual 236, 3) := by decide +kernel
theorem dX10_hold_29 : decode cX10_hold 29 = .ok (.aload_n 0, 1) := by decide +kernel
theorem dX10_hold_30 : decode cX10_hold 30 = .ok (.getfield 54, 3) := by decide +kernel
theorem dX10_hold_33 : decode cX10_hold 33 = .ok (.invokevirtual 250, 3) := by decide +kernel
theorem dX10_hold_36 : decode cX10_hold 36 = .ok (.aload_n 3, 1) := by decide +kernel
theorem dX10_hold_37 : decode cX10_hold 37 = .ok (.invokevirtual 253, 3) := by decide +kernel
theorem dX10_hold_40 : decode cX10_hold 40 = .ok (.aload_n 3, 1) := by decide +kernel
theorem dX10_hold_41 : decode cX10_hold 41 = .ok (.getfield 171, 3) := by decide +kernel
theorem dX10_hold_44 : decode cX10_hold 44 = .ok (.iconst (-1), 1) := by decide +kernel
theorem dX10_hold_45 : decode cX10_hold 45 = .ok (.ixor, 1) := by decide +kernel
theorem dX10_hold_46 : decode cX10_hold 46 = .ok (.iand, 1) := by decide +kernel
theorem dX10_hold_47 : decode cX10_hold 47 = .ok (.istore 4, 2) := by decide +kernel
theorem dX10_hold_49 : decode cX10_hold 49 = .ok (.aload_n 0, 1) := by decide +kernel
theorem dX10_hold_50 : decode cX10_hold 50 = .ok (.getfield 54, 3) := by decide +kernel
theorem dX10_hold_53 : decode cX10_hold 53 = .ok (.invokevirtual 256, 3) := by decide +kernel
theorem dX10_hold_56 : decode cX10_hold 56 = .ok (.istore 5, 2) := by decide +kernel
theorem dX10_hold_58 : decode cX10_hold 58 = .ok (.iconst 1, 1) := by decide +kernel
theorem dX10_hold_59 : decode cX10_hold 59 = .ok (.istore 6, 2) := by decide +kernel
theorem dX10_hold_61 : decode cX10_hold 61 = .ok (.iload 6, 2) := by decide +kernel
theorem dX10_hold_63 : decode cX10_hold 63 = .ok (.iconst 4, 1) := by decide +kernel
theorem dX10_hold_64 : decode cX10_hold 64 = .ok (.if_icmp .gt 50, 3) := by decide +kernel
theorem dX10_hold_67 : decode cX10_hold 67 = .ok (.aload_n 0, 1) := by decide +kernel
theorem dX10_hold_68 : decode cX10_hold 68 = .ok (.getfield 54, 3) := by decide +kernel
theorem dX10_hold_71 : decode cX10_hold 71 = .ok (.getfield 259, 3) := by decide +kernel
theorem dX10_hold_74 : decode cX10_hold 74 = .ok (.aload_n 3, 1) := by decide +kernel
theorem dX10_hold_75 : decode cX10_hold 75 = .ok (.invokevirtual 233, 3) := by decide +kernel
theorem dX10_hold_78 : decode cX10_hold 78 = .ok (.iload 4, 2) := by decide +kernel
theorem dX10_hold_80 : decode cX10_hold 80 = .ok (.iload 5, 2) := by decide +kernel
theorem dX10_hold_82 : decode cX10_hold 82 = .ok (.bipush 25, 2) := by decide +kernel
theorem dX10_hold_84 : decode cX10_hold 84 = .ok (.iload 6, 2) := by decide +kernel
theorem dX10_hold_86 : decode cX10_hold 86 = .ok (.invokestatic 262, 3) := by decide +kernel
theorem dX10_hold_89 : decode cX10_hold 89 = .ok (.istore 7, 2) := by decide +kernel
theorem dX10_hold_91 : decode cX10_hold 91 = .ok (.iload 7, 2) := by decide +kernel
theorem dX10_hold_93 : decode cX10_hold 93 = .ok (.ifCond .lt 15, 3) := by decide +kernel
theorem dX10_hold_96 : decode cX10_hold 96 = .ok (.iload_n 2, 1) := by decide +kernel
theorem dX10_hold_97 : decode cX10_hold 97 = .ok (.ifCond .ne 8, 3) := by decide +kernel
theorem dX10_hold_100 : decode cX10_hold 100 = .ok (.iload 6, 2) := by decide +kernel
theorem dX10_hold_102 : decode cX10_hold 102 = .ok (.goto 5, 3) := by decide +kernel
theorem dX10_hold_105 : decode cX10_hold 105 = .ok (.iload 7, 2) := by decide +kernel
theorem dX10_hold_107 : decode cX10_hold 107 = .ok (.ireturn, 1) := by decide +kernel
theorem dX10_hold_108 : decode cX10_hold 108 = .ok (.iinc 6 1, 3) := by decide +kernel
theorem dX10_hold_111 : decode cX10_hold 111 = .ok (.goto (-50), 3) := by decide +kernel
theorem dX10_hold_114 : decode cX10_hold 114 = .ok (.bipush (-5), 2) := by decide +kernel
theorem dX10_hold_116 : decode cX10_hold 116 = .ok (.ireturn, 1) := by decide +kernel
theorem dX10_more_0 : decode cX10_more 0 = .ok (.aload_n 0, 1) := by decide +kernel
theorem dX10_more_1 : decode cX10_more 1 = .ok (.iload_n 1, 1) := by decide +kernel
theorem dX10_more_2 : decode cX10_more 2 = .ok (.invokevirtual 119, 3) := by decide +kernel
theorem dX10_more_5 : decode cX10_more 5 = .ok (.ifCond .eq 11, 3) := by decide +kernel
theorem dX10_more_8 : decode cX10_more 8 = .ok (.aload_n 0, 1) := by decide +kernel
theorem dX10_more_9 : decode cX10_more 9 = .ok (.iload_n 1, 1) := by decide +kernel
theorem dX10_more_10 : decode cX10_more 10 = .ok (.invokevirtual 193, 3) := by decide +kernel
theorem dX10_more_13 : decode cX10_more 13 = .ok (.goto 4, 3) := by decide +kernel
theorem dX10_more_16 : decode cX10_more 16 = .ok (.iconst (-1), 1) := by decide +kernel
theorem dX10_more_17 : decode cX10_more 17 = .ok (.ireturn, 1) := by decide +kernel
theorem dX10_right_0 : decode cX10_right 0 = .ok (.iload_n 1, 1) := by decide +kernel
theorem dX10_right_1 : decode cX10_right 1 = .ok (.ifCond .lt 8, 3) := by decide +kernel
theorem dX10_right_4 : decode cX10_right 4 = .ok (.iload_n 1, 1) := by decide +kernel
theorem dX10_right_5 : decode cX10_right 5 = .ok (.iconst 1, 1) := by decide +kernel
theorem dX10_right_6 : decode cX10_right 6 = .ok (.if_icmp .le 5, 3) := by decide +kernel
theorem dX10_right_9 : decode cX10_right 9 = .ok (.iconst (-1), 1) := by decide +kernel
theorem dX10_right_10 : decode cX10_right 10 = .ok (.ireturn, 1) := by decide +kernel
theorem dX10_right_11 : decode cX10_right 11 = .ok (.aload_n 0, 1) := by decide +kernel
theorem dX10_right_12 : decode cX10_right 12 = .ok (.invokevirtual 177, 3) := by decide +kernel
theorem dX10_right_15 : decode cX10_right 15 = .ok (.iconst 0, 1) := by decide +kernel
theorem dX10_right_16 : decode cX10_right 16 = .ok (.istore_n 2, 1) := by decide +kernel
theorem dX10_right_17 : decode cX10_right 17 = .ok (.iload_n 2, 1) := by decide +kernel
theorem dX10_right_18 : decode cX10_right 18 = .ok (.iconst 4, 1) := by decide +kernel
theorem dX10_right_19 : decode cX10_right 19 = .ok (.if_icmp .gt 42, 3) := by decide +kernel
theorem dX10_right_22 : decode cX10_right 22 = .ok (.aload_n 0, 1) := by decide +kernel
theorem dX10_right_23 : decode cX10_right 23 = .ok (.getfield 50, 3) := by decide +kernel
theorem dX10_right_26 : decode cX10_right 26 = .ok (.getfield 242, 3) := by decide +kernel
theorem dX10_right_29 : decode cX10_right 29 = .ok (.aload_n 0, 1) := by decide +kernel
theorem dX10_right_30 : decode cX10_right 30 = .ok (.getfield 12, 3) := by decide +kernel
theorem dX10_right_33 : decode cX10_right 33 = .ok (.invokevirtual 162, 3) := by decide +kernel
theorem dX10_right_36 : decode cX10_right 36 = .ok (.iload_n 2, 1) := by decide +kernel
theorem dX10_right_37 : decode cX10_right 37 = .ok (.invokestatic 266, 3) := by decide +kernel
theorem dX10_right_40 : decode cX10_right 40 = .ok (.istore_n 3, 1) := by decide +kernel
theorem dX10_right_41 : decode cX10_right 41 = .ok (.iload_n 3, 1) := by decide +kernel
theorem dX10_right_42 : decode cX10_right 42 = .ok (.ifCond .lt 13, 3) := by decide +kernel
theorem dX10_right_45 : decode cX10_right 45 = .ok (.iload_n 1, 1) := by decide +kernel
theorem dX10_right_46 : decode cX10_right 46 = .ok (.ifCond .ne 7, 3) := by decide +kernel
theorem dX10_right_49 : decode cX10_right 49 = .ok (.iload_n 2, 1) := by decide +kernel
theorem dX10_right_50 : decode cX10_right 50 = .ok (.goto 4, 3) := by decide +kernel
theorem dX10_right_53 : decode cX10_right 53 = .ok (.iload_n 3, 1) := by decide +kernel
theorem dX10_right_54 : decode cX10_right 54 = .ok (.ireturn, 1) := by decide +kernel
theorem dX10_right_55 : decode cX10_right 55 = .ok (.iinc 2 1, 3) := by decide +kernel
theorem dX10_right_58 : decode cX10_right 58 = .ok (.goto (-41), 3) := by decide +kernel
theorem dX10_right_61 : decode cX10_right 61 = .ok (.bipush (-5), 2) := by decide +kernel
theorem dX10_right_63 : decode cX10_right 63 = .ok (.ireturn, 1) := by decide +kernel
theorem dX10_game_0 : decode cX10_game 0 = .ok (.aload_n 0, 1) := by decide +kernel
theorem dX10_game_1 : decode cX10_game 1 = .ok (.iload_n 1, 1) := by decide +kernel
theorem dX10_game_2 : decode cX10_game 2 = .ok (.invokevirtual 119, 3) := by decide +kernel
theorem dX10_game_5 : decode cX10_game 5 = .ok (.ifCond .ne 5, 3) := by decide +kernel
theorem dX10_game_8 : decode cX10_game 8 = .ok (.iconst (-1), 1) := by decide +kernel
theorem dX10_game_9 : decode cX10_game 9 = .ok (.ireturn, 1) := by decide +kernel
theorem dX10_game_10 : decode cX10_game 10 = .ok (.aload_n 0, 1) := by decide +kernel
theorem dX10_game_11 : decode cX10_game 11 = .ok (.iload_n 1, 1) := by decide +kernel
theorem dX10_game_12 : decode cX10_game 12 = .ok (.invokevirtual 193, 3) := by decide +kernel
theorem dX10_game_15 : decode cX10_game 15 = .ok (.istore_n 2, 1) := by decide +kernel
theorem dX10_game_16 : decode cX10_game 16 = .ok (.iload_n 2, 1) := by decide +kernel
theorem dX10_game_17 : decode cX10_game 17 = .ok (.invokestatic 166, 3) := by decide +kernel
theorem dX10_game_20 : decode cX10_game 20 = .ok (.bipush 9, 2) := by decide +kernel
theorem dX10_game_22 : decode cX10_game 22 = .ok (.if_icmp .le 6, 3) := by decide +kernel
theorem dX10_game_25 : decode cX10_game 25 = .ok (.bipush (-9), 2) := by decide +kernel
theorem dX10_game_27 : decode cX10_game 27 = .ok (.ireturn, 1) := by decide +kernel
theorem dX10_game_28 : decode cX10_game 28 = .ok (.aload_n 0, 1) := by decide +kernel
theorem dX10_game_29 : decode cX10_game 29 = .ok (.getfield 54, 3) := by decide +kernel
theorem dX10_game_32 : decode cX10_game 32 = .ok (.iload_n 2, 1) := by decide +kernel
theorem dX10_game_33 : decode cX10_game 33 = .ok (.invokevirtual 239, 3) := by decide +kernel
theorem dX10_game_36 : decode cX10_game 36 = .ok (.aload_n 0, 1) := by decide +kernel
theorem dX10_game_37 : decode cX10_game 37 = .ok (.getfield 67, 3) := by decide +kernel
theorem dX10_game_40 : decode cX10_game 40 = .ok (.iload_n 2, 1) := by decide +kernel
theorem dX10_game_41 : decode cX10_game 41 = .ok (.aload_n 0, 1) := by decide +kernel
theorem dX10_game_42 : decode cX10_game 42 = .ok (.getfield 54, 3) := by decide +kernel
theorem dX10_game_45 : decode cX10_game 45 = .ok (.getfield 242, 3) := by decide +kernel
theorem dX10_game_48 : decode cX10_game 48 = .ok (.invokevirtual 269, 3) := by decide +kernel
theorem dX10_game_51 : decode cX10_game 51 = .ok (.ifCond .eq 7, 3) := by decide +kernel
theorem dX10_game_54 : decode cX10_game 54 = .ok (.iconst 1, 1) := by decide +kernel
theorem dX10_game_55 : decode cX10_game 55 = .ok (.goto 4, 3) := by decide +kernel
theorem dX10_game_58 : decode cX10_game 58 = .ok (.iconst 0, 1) := by decide +kernel
theorem dX10_game_59 : decode cX10_game 59 = .ok (.ireturn, 1) := by decide +kernel
theorem dX10_turned_0 : decode cX10_turned 0 = .ok (.iload_n 1, 1) := by decide +kernel
theorem dX10_turned_1 : decode cX10_turned 1 = .ok (.ifCond .lt 9, 3) := by decide +kernel
theorem dX10_turned_4 : decode cX10_turned 4 = .ok (.iload_n 1, 1) := by decide +kernel
theorem dX10_turned_5 : decode cX10_turned 5 = .ok (.bipush 7, 2) := by decide +kernel
theorem dX10_turned_7 : decode cX10_turned 7 = .ok (.if_icmp .le 5, 3) := by decide +kernel
theorem dX10_turned_10 : decode cX10_turned 10 = .ok (.iconst (-1), 1) := by decide +kernel
theorem dX10_turned_11 : decode cX10_turned 11 = .ok (.ireturn, 1) := by decide +kernel
theorem dX10_turned_12 : decode cX10_turned 12 = .ok (.aload_n 0, 1) := by decide +kernel
theorem dX10_turned_13 : decode cX10_turned 13 = .ok (.iload_n 1, 1) := by decide +kernel
theorem dX10_turned_14 : decode cX10_turned 14 = .ok (.invokevirtual 273, 3) := by decide +kernel
theorem dX10_turned_17 : decode cX10_turned 17 = .ok (.ifCond .eq 7, 3) := by decide +kernel
theorem dX10_turned_20 : decode cX10_turned 20 = .ok (.iconst 1, 1) := by decide +kernel
theorem dX10_turned_21 : decode cX10_turned 21 = .ok (.goto 4, 3) := by decide +kernel
theorem dX10_turned_24 : decode cX10_turned 24 = .ok (.iconst 0, 1) := by decide +kernel
theorem dX10_turned_25 : decode cX10_turned 25 = .ok (.ireturn, 1) := by decide +kernel
theorem dX10_alike_0 : decode cX10_alike 0 = .ok (.iconst 0, 1) := by decide +kernel
theorem dX10_alike_1 : decode cX10_alike 1 = .ok (.istore_n 1, 1) := by decide +kernel
theorem dX10_alike_2 : decode cX10_alike 2 = .ok (.iconst 0, 1) := by decide +kernel
theorem dX10_alike_3 : decode cX10_alike 3 = .ok (.istore_n 2, 1) := by decide +kernel
theorem dX10_alike_4 : decode cX10_alike 4 = .ok (.iload_n 2, 1) := by decide +kernel
theorem dX10_alike_5 : decode cX10_alike 5 = .ok (.bipush 8, 2) := by decide +kernel
theorem dX10_alike_7 : decode cX10_alike 7 = .ok (.if_icmp .ge 20, 3) := by decide +kernel
theorem dX10_alike_10 : decode cX10_alike 10 = .ok (.aload_n 0, 1) := by decide +kernel
theorem dX10_alike_11 : decode cX10_alike 11 = .ok (.iload_n 2, 1) := by decide +kernel
theorem dX10_alike_12 : decode cX10_alike 12 = .ok (.invokevirtual 273, 3) := by decide +kernel
theorem dX10_alike_15 : decode cX10_alike 15 = .ok (.ifCond .eq 6, 3) := by decide +kernel
theorem dX10_alike_18 : decode cX10_alike 18 = .ok (.iinc 1 1, 3) := by decide +kernel
theorem dX10_alike_21 : decode cX10_alike 21 = .ok (.iinc 2 1, 3) := by decide +kernel
theorem dX10_alike_24 : decode cX10_alike 24 = .ok (.goto (-20), 3) := by decide +kernel
theorem dX10_alike_27 : decode cX10_alike 27 = .ok (.iload_n 1, 1) := by decide +kernel
theorem dX10_alike_28 : decode cX10_alike 28 = .ok (.ireturn, 1) := by decide +kernel
theorem dX10_aim_0 : decode cX10_aim 0 = .ok (.iload_n 1, 1) := by decide +kernel
theorem dX10_aim_1 : decode cX10_aim 1 = .ok (.iconst (-1), 1) := by decide +kernel
theorem dX10_aim_2 : decode cX10_aim 2 = .ok (.if_icmp .ne 15, 3) := by decide +kernel
theorem dX10_aim_5 : decode cX10_aim 5 = .ok (.aload_n 0, 1) := by decide +kernel
theorem dX10_aim_6 : decode cX10_aim 6 = .ok (.getfield 12, 3) := by decide +kernel
theorem dX10_aim_9 : decode cX10_aim 9 = .ok (.getfield 276, 3) := by decide +kernel
theorem dX10_aim_12 : decode cX10_aim 12 = .ok (.invokevirtual 279, 3) := by decide +kernel
theorem dX10_aim_15 : decode cX10_aim 15 = .ok (.iconst 0, 1) := by decide +kernel
theorem dX10_aim_16 : decode cX10_aim 16 = .ok (.ireturn, 1) := by decide +kernel
theorem dX10_aim_17 : decode cX10_aim 17 = .ok (.aload_n 0, 1) := by decide +kernel
theorem dX10_aim_18 : decode cX10_aim 18 = .ok (.iload_n 1, 1) := by decide +kernel
theorem dX10_aim_19 : decode cX10_aim 19 = .ok (.invokevirtual 183, 3) := by decide +kernel
theorem dX10_aim_22 : decode cX10_aim 22 = .ok (.ifCond .ne 5, 3) := by decide +kernel
theorem dX10_aim_25 : decode cX10_aim 25 = .ok (.iconst (-1), 1) := by decide +kernel
theorem dX10_aim_26 : decode cX10_aim 26 = .ok (.ireturn, 1) := by decide +kernel
theorem dX10_aim_27 : decode cX10_aim 27 = .ok (.aload_n 0, 1) := by decide +kernel
theorem dX10_aim_28 : decode cX10_aim 28 = .ok (.getfield 12, 3) := by decide +kernel
theorem dX10_aim_31 : decode cX10_aim 31 = .ok (.getfield 276, 3) := by decide +kernel
theorem dX10_aim_34 : decode cX10_aim 34 = .ok (.iload_n 1, 1) := by decide +kernel
theorem dX10_aim_35 : decode cX10_aim 35 = .ok (.invokevirtual 282, 3) := by decide +kernel
theorem dX10_aim_38 : decode cX10_aim 38 = .ok (.ifCond .eq 6, 3) := by decide +kernel
theorem dX10_aim_41 : decode cX10_aim 41 = .ok (.bipush (-2), 2) := by decide +kernel
theorem dX10_aim_43 : decode cX10_aim 43 = .ok (.ireturn, 1) := by decide +kernel
theorem dX10_aim_44 : decode cX10_aim 44 = .ok (.aload_n 0, 1) := by decide +kernel
theorem dX10_aim_45 : decode cX10_aim 45 = .ok (.getfield 12, 3) := by decide +kernel
theorem dX10_aim_48 : decode cX10_aim 48 = .ok (.getfield 276, 3) := by decide +kernel
theorem dX10_aim_51 : decode cX10_aim 51 = .ok (.invokevirtual 100, 3) := by decide +kernel
theorem dX10_aim_54 : decode cX10_aim 54 = .ok (.ifCond .eq 6, 3) := by decide +kernel
theorem dX10_aim_57 : decode cX10_aim 57 = .ok (.bipush (-4), 2) := by decide +kernel
theorem dX10_aim_59 : decode cX10_aim 59 = .ok (.ireturn, 1) := by decide +kernel
theorem dX10_aim_60 : decode cX10_aim 60 = .ok (.aload_n 0, 1) := by decide +kernel
theorem dX10_aim_61 : decode cX10_aim 61 = .ok (.getfield 12, 3) := by decide +kernel
theorem dX10_aim_64 : decode cX10_aim 64 = .ok (.getfield 276, 3) := by decide +kernel
theorem dX10_aim_67 : decode cX10_aim 67 = .ok (.iload_n 1, 1) := by decide +kernel
theorem dX10_aim_68 : decode cX10_aim 68 = .ok (.invokevirtual 106, 3) := by decide +kernel
theorem dX10_aim_71 : decode cX10_aim 71 = .ok (.aload_n 0, 1) := by decide +kernel
theorem dX10_aim_72 : decode cX10_aim 72 = .ok (.getfield 12, 3) := by decide +kernel
theorem dX10_aim_75 : decode cX10_aim 75 = .ok (.getfield 276, 3) := by decide +kernel
theorem dX10_aim_78 : decode cX10_aim 78 = .ok (.getfield 116, 3) := by decide +kernel
theorem dX10_aim_81 : decode cX10_aim 81 = .ok (.ireturn, 1) := by decide +kernel
theorem dX10_reach_0 : decode cX10_reach 0 = .ok (.aload_n 0, 1) := by decide +kernel
theorem dX10_reach_1 : decode cX10_reach 1 = .ok (.getfield 12, 3) := by decide +kernel
theorem dX10_reach_4 : decode cX10_reach 4 = .ok (.invokevirtual 162, 3) := by decide +kernel
theorem dX10_reach_7 : decode cX10_reach 7 = .ok (.istore_n 1, 1) := by decide +kernel
theorem dX10_reach_8 : decode cX10_reach 8 = .ok (.iload_n 1, 1) := by decide +kernel
theorem dX10_reach_9 : decode cX10_reach 9 = .ok (.invokestatic 166, 3) := by decide +kernel
theorem dX10_reach_12 : decode cX10_reach 12 = .ok (.iconst 5, 1) := by decide +kernel
theorem dX10_reach_13 : decode cX10_reach 13 = .ok (.if_icmp .le 6, 3) := by decide +kernel
theorem dX10_reach_16 : decode cX10_reach 16 = .ok (.bipush (-9), 2) := by decide +kernel
theorem dX10_reach_18 : decode cX10_reach 18 = .ok (.ireturn, 1) := by decide +kernel
theorem dX10_reach_19 : decode cX10_reach 19 = .ok (.iload_n 1, 1) := by decide +kernel
theorem dX10_reach_20 : decode cX10_reach 20 = .ok (.invokestatic 166, 3) := by decide +kernel
theorem dX10_reach_23 : decode cX10_reach 23 = .ok (.aload_n 0, 1) := by decide +kernel
theorem dX10_reach_24 : decode cX10_reach 24 = .ok (.getfield 12, 3) := by decide +kernel
theorem dX10_reach_27 : decode cX10_reach 27 = .ok (.getfield 276, 3) := by decide +kernel
theorem dX10_reach_30 : decode cX10_reach 30 = .ok (.getfield 116, 3) := by decide +kernel
theorem dX10_reach_33 : decode cX10_reach 33 = .ok (.if_icmp .eq 6, 3) := by decide +kernel
theorem dX10_reach_36 : decode cX10_reach 36 = .ok (.bipush (-5), 2) := by decide +kernel
theorem dX10_reach_38 : decode cX10_reach 38 = .ok (.ireturn, 1) := by decide +kernel
theorem dX10_reach_39 : decode cX10_reach 39 = .ok (.aload_n 0, 1) := by decide +kernel
theorem dX10_reach_40 : decode cX10_reach 40 = .ok (.getfield 74, 3) := by decide +kernel
theorem dX10_reach_43 : decode cX10_reach 43 = .ok (.aload_n 0, 1) := by decide +kernel
theorem dX10_reach_44 : decode cX10_reach 44 = .ok (.invokevirtual 154, 3) := by decide +kernel
theorem dX10_reach_47 : decode cX10_reach 47 = .ok (.iload_n 1, 1) := by decide +kernel
theorem dX10_reach_48 : decode cX10_reach 48 = .ok (.aload_n 0, 1) := by decide +kernel
theorem dX10_reach_49 : decode cX10_reach 49 = .ok (.getfield 12, 3) := by decide +kernel
theorem dX10_reach_52 : decode cX10_reach 52 = .ok (.getfield 276, 3) := by decide +kernel
theorem dX10_reach_55 : decode cX10_reach 55 = .ok (.invokevirtual 285, 3) := by decide +kernel
theorem dX10_reach_58 : decode cX10_reach 58 = .ok (.ireturn, 1) := by decide +kernel
theorem dX10_see_0 : decode cX10_see 0 = .ok (.iload_n 1, 1) := by decide +kernel
theorem dX10_see_1 : decode cX10_see 1 = .ok (.iconst (-1), 1) := by decide +kernel
theorem dX10_see_2 : decode cX10_see 2 = .ok (.if_icmp .ne 12, 3) := by decide +kernel
theorem dX10_see_5 : decode cX10_see 5 = .ok (.aload_n 0, 1) := by decide +kernel
theorem dX10_see_6 : decode cX10_see 6 = .ok (.getfield 12, 3) := by decide +kernel
theorem dX10_see_9 : decode cX10_see 9 = .ok (.invokevirtual 289, 3) := by decide +kernel
theorem dX10_see_12 : decode cX10_see 12 = .ok (.iconst 0, 1) := by decide +kernel
theorem dX10_see_13 : decode cX10_see 13 = .ok (.ireturn, 1) := by decide +kernel
theorem dX10_see_14 : decode cX10_see 14 = .ok (.aload_n 0, 1) := by decide +kernel
theorem dX10_see_15 : decode cX10_see 15 = .ok (.iload_n 1, 1) := by decide +kernel
theorem dX10_see_16 : decode cX10_see 16 = .ok (.invokevirtual 183, 3) := by decide +kernel
theorem dX10_see_19 : decode cX10_see 19 = .ok (.ifCond .ne 5, 3) := by decide +kernel
theorem dX10_see_22 : decode cX10_see 22 = .ok (.iconst (-1), 1) := by decide +kernel
theorem dX10_see_23 : decode cX10_see 23 = .ok (.ireturn, 1) := by decide +kernel
theorem dX10_see_24 : decode cX10_see 24 = .ok (.iload_n 2, 1) := by decide +kernel
theorem dX10_see_25 : decode cX10_see 25 = .ok (.ifCond .lt 9, 3) := by decide +kernel
theorem dX10_see_28 : decode cX10_see 28 = .ok (.iload_n 2, 1) := by decide +kernel
theorem dX10_see_29 : decode cX10_see 29 = .ok (.bipush 25, 2) := by decide +kernel
theorem dX10_see_31 : decode cX10_see 31 = .ok (.if_icmp .le 6, 3) := by decide +kernel
theorem dX10_see_34 : decode cX10_see 34 = .ok (.bipush (-2), 2) := by decide +kernel
theorem dX10_see_36 : decode cX10_see 36 = .ok (.ireturn, 1) := by decide +kernel
theorem dX10_see_37 : decode cX10_see 37 = .ok (.aload_n 0, 1) := by decide +kernel
theorem dX10_see_38 : decode cX10_see 38 = .ok (.getfield 12, 3) := by decide +kernel
theorem dX10_see_41 : decode cX10_see 41 = .ok (.getfield 292, 3) := by decide +kernel
theorem dX10_see_44 : decode cX10_see 44 = .ok (.invokevirtual 100, 3) := by decide +kernel
theorem dX10_see_47 : decode cX10_see 47 = .ok (.ifCond .eq 6, 3) := by decide +kernel
theorem dX10_see_50 : decode cX10_see 50 = .ok (.bipush (-4), 2) := by decide +kernel
theorem dX10_see_52 : decode cX10_see 52 = .ok (.ireturn, 1) := by decide +kernel
theorem dX10_see_53 : decode cX10_see 53 = .ok (.aload_n 0, 1) := by decide +kernel
theorem dX10_see_54 : decode cX10_see 54 = .ok (.getfield 12, 3) := by decide +kernel
theorem dX10_see_57 : decode cX10_see 57 = .ok (.getfield 292, 3) := by decide +kernel
theorem dX10_see_60 : decode cX10_see 60 = .ok (.iload_n 1, 1) := by decide +kernel
theorem dX10_see_61 : decode cX10_see 61 = .ok (.invokevirtual 106, 3) := by decide +kernel
theorem dX10_see_64 : decode cX10_see 64 = .ok (.aload_n 0, 1) := by decide +kernel
theorem dX10_see_65 : decode cX10_see 65 = .ok (.getfield 12, 3) := by decide +kernel
theorem dX10_see_68 : decode cX10_see 68 = .ok (.getfield 295, 3) := by decide +kernel
theorem dX10_see_71 : decode cX10_see 71 = .ok (.iload_n 2, 1) := by decide +kernel
theorem dX10_see_72 : decode cX10_see 72 = .ok (.invokevirtual 106, 3) := by decide +kernel
theorem dX10_see_75 : decode cX10_see 75 = .ok (.aload_n 0, 1) := by decide +kernel
theorem dX10_see_76 : decode cX10_see 76 = .ok (.getfield 12, 3) := by decide +kernel
theorem dX10_see_79 : decode cX10_see 79 = .ok (.getfield 292, 3) := by decide +kernel
theorem dX10_see_82 : decode cX10_see 82 = .ok (.getfield 116, 3) := by decide +kernel
theorem dX10_see_85 : decode cX10_see 85 = .ok (.ireturn, 1) := by decide +kernel
theorem dX10_rubbed_0 : decode cX10_rubbed 0 = .ok (.aload_n 0, 1) := by decide +kernel
theorem dX10_rubbed_1 : decode cX10_rubbed 1 = .ok (.iload_n 1, 1) := by decide +kernel
theorem dX10_rubbed_2 : decode cX10_rubbed 2 = .ok (.invokevirtual 119, 3) := by decide +kernel
theorem dX10_rubbed_5 : decode cX10_rubbed 5 = .ok (.ifCond .ne 5, 3) := by decide +kernel
theorem dX10_rubbed_8 : decode cX10_rubbed 8 = .ok (.iconst (-1), 1) := by decide +kernel
theorem dX10_rubbed_9 : decode cX10_rubbed 9 = .ok (.ireturn, 1) := by decide +kernel
theorem dX10_rubbed_10 : decode cX10_rubbed 10 = .ok (.aload_n 0, 1) := by decide +kernel
theorem dX10_rubbed_11 : decode cX10_rubbed 11 = .ok (.invokevirtual 202, 3) := by decide +kernel
theorem dX10_rubbed_14 : decode cX10_rubbed 14 = .ok (.aload_n 0, 1) := by decide +kernel
theorem dX10_rubbed_15 : decode cX10_rubbed 15 = .ok (.iload_n 1, 1) := by decide +kernel
theorem dX10_rubbed_16 : decode cX10_rubbed 16 = .ok (.invokevirtual 236, 3) := by decide +kernel
theorem dX10_rubbed_19 : decode cX10_rubbed 19 = .ok (.aload_n 0, 1) := by decide +kernel
theorem dX10_rubbed_20 : decode cX10_rubbed 20 = .ok (.invokevirtual 186, 3) := by decide +kernel
theorem dX10_rubbed_23 : decode cX10_rubbed 23 = .ok (.istore_n 2, 1) := by decide +kernel
theorem dX10_rubbed_24 : decode cX10_rubbed 24 = .ok (.iconst 0, 1) := by decide +kernel
theorem dX10_rubbed_25 : decode cX10_rubbed 25 = .ok (.istore_n 3, 1) := by decide +kernel
theorem dX10_rubbed_26 : decode cX10_rubbed 26 = .ok (.iconst 0, 1) := by decide +kernel
theorem dX10_rubbed_27 : decode cX10_rubbed 27 = .ok (.istore 4, 2) := by decide +kernel
theorem dX10_rubbed_29 : decode cX10_rubbed 29 = .ok (.iload 4, 2) := by decide +kernel
theorem dX10_rubbed_31 : decode cX10_rubbed 31 = .ok (.bipush 25, 2) := by decide +kernel
theorem dX10_rubbed_33 : decode cX10_rubbed 33 = .ok (.if_icmp .ge 41, 3) := by decide +kernel
theorem dX10_rubbed_36 : decode cX10_rubbed 36 = .ok (.iload_n 2, 1) := by decide +kernel
theorem dX10_rubbed_37 : decode cX10_rubbed 37 = .ok (.iload 4, 2) := by decide +kernel
theorem dX10_rubbed_39 : decode cX10_rubbed 39 = .ok (.invokestatic 189, 3) := by decide +kernel
theorem dX10_rubbed_42 : decode cX10_rubbed 42 = .ok (.ifCond .eq 26, 3) := by decide +kernel
theorem dX10_rubbed_45 : decode cX10_rubbed 45 = .ok (.aload_n 0, 1) := by decide +kernel
theorem dX10_rubbed_46 : decode cX10_rubbed 46 = .ok (.aload_n 0, 1) := by decide +kernel
theorem dX10_rubbed_47 : decode cX10_rubbed 47 = .ok (.getfield 54, 3) := by decide +kernel
theorem dX10_rubbed_50 : decode cX10_rubbed 50 = .ok (.iload 4, 2) := by decide +kernel
theorem dX10_rubbed_52 : decode cX10_rubbed 52 = .ok (.invokevirtual 298, 3) := by decide +kernel
theorem dX10_rubbed_55 : decode cX10_rubbed 55 = .ok (.invokevirtual 301, 3) := by decide +kernel
theorem dX10_rubbed_58 : decode cX10_rubbed 58 = .ok (.ifCond .eq 10, 3) := by decide +kernel
theorem dX10_rubbed_61 : decode cX10_rubbed 61 = .ok (.iload_n 3, 1) := by decide +kernel
theorem dX10_rubbed_62 : decode cX10_rubbed 62 = .ok (.iconst 1, 1) := by decide +kernel
theorem dX10_rubbed_63 : decode cX10_rubbed 63 = .ok (.iload 4, 2) := by decide +kernel
theorem dX10_rubbed_65 : decode cX10_rubbed 65 = .ok (.ishl, 1) := by decide +kernel
theorem dX10_rubbed_66 : decode cX10_rubbed 66 = .ok (.ior, 1) := by decide +kernel
theorem dX10_rubbed_67 : decode cX10_rubbed 67 = .ok (.istore_n 3, 1) := by decide +kernel
theorem dX10_rubbed_68 : decode cX10_rubbed 68 = .ok (.iinc 4 1, 3) := by decide +kernel
theorem dX10_rubbed_71 : decode cX10_rubbed 71 = .ok (.goto (-42), 3) := by decide +kernel
theorem dX10_rubbed_74 : decode cX10_rubbed 74 = .ok (.iload_n 3, 1) := by decide +kernel
theorem dX10_rubbed_75 : decode cX10_rubbed 75 = .ok (.ireturn, 1) := by decide +kernel
theorem dX10_odds_0 : decode cX10_odds 0 = .ok (.aload_n 0, 1) := by decide +kernel
theorem dX10_odds_1 : decode cX10_odds 1 = .ok (.iload_n 1, 1) := by decide +kernel
theorem dX10_odds_2 : decode cX10_odds 2 = .ok (.invokevirtual 119, 3) := by decide +kernel
theorem dX10_odds_5 : decode cX10_odds 5 = .ok (.ifCond .ne 7, 3) := by decide +kernel
theorem dX10_odds_8 : decode cX10_odds 8 = .ok (.ldc2_w 304, 3) := by decide +kernel
theorem dX10_odds_11 : decode cX10_odds 11 = .ok (.lreturn, 1) := by decide +kernel
theorem dX10_odds_12 : decode cX10_odds 12 = .ok (.aload_n 0, 1) := by decide +kernel
theorem dX10_odds_13 : decode cX10_odds 13 = .ok (.iload_n 1, 1) := by decide +kernel
theorem dX10_odds_14 : decode cX10_odds 14 = .ok (.invokevirtual 193, 3) := by decide +kernel
theorem dX10_odds_17 : decode cX10_odds 17 = .ok (.invokestatic 166, 3) := by decide +kernel
theorem dX10_odds_20 : decode cX10_odds 20 = .ok (.aload_n 0, 1) := by decide +kernel
theorem dX10_odds_21 : decode cX10_odds 21 = .ok (.invokevirtual 186, 3) := by decide +kernel
theorem dX10_odds_24 : decode cX10_odds 24 = .ok (.invokestatic 166, 3) := by decide +kernel
theorem dX10_odds_27 : decode cX10_odds 27 = .ok (.iload_n 2, 1) := by decide +kernel
theorem dX10_odds_28 : decode cX10_odds 28 = .ok (.invokestatic 306, 3) := by decide +kernel
theorem dX10_odds_31 : decode cX10_odds 31 = .ok (.lreturn, 1) := by decide +kernel
theorem dX10_mean_0 : decode cX10_mean 0 = .ok (.aload_n 0, 1) := by decide +kernel
theorem dX10_mean_1 : decode cX10_mean 1 = .ok (.invokevirtual 202, 3) := by decide +kernel
theorem dX10_mean_4 : decode cX10_mean 4 = .ok (.aload_n 0, 1) := by decide +kernel
theorem dX10_mean_5 : decode cX10_mean 5 = .ok (.getfield 50, 3) := by decide +kernel
theorem dX10_mean_8 : decode cX10_mean 8 = .ok (.invokevirtual 310, 3) := by decide +kernel
theorem dX10_mean_11 : decode cX10_mean 11 = .ok (.aload_n 0, 1) := by decide +kernel
theorem dX10_mean_12 : decode cX10_mean 12 = .ok (.getfield 12, 3) := by decide +kernel
theorem dX10_mean_15 : decode cX10_mean 15 = .ok (.invokevirtual 162, 3) := by decide +kernel
theorem dX10_mean_18 : decode cX10_mean 18 = .ok (.invokestatic 166, 3) := by decide +kernel
theorem dX10_mean_21 : decode cX10_mean 21 = .ok (.iload_n 1, 1) := by decide +kernel
theorem dX10_mean_22 : decode cX10_mean 22 = .ok (.invokestatic 306, 3) := by decide +kernel
theorem dX10_mean_25 : decode cX10_mean 25 = .ok (.lreturn, 1) := by decide +kernel
theorem dX10_book_0 : decode cX10_book 0 = .ok (.iload_n 1, 1) := by decide +kernel
theorem dX10_book_1 : decode cX10_book 1 = .ok (.iconst (-1), 1) := by decide +kernel
theorem dX10_book_2 : decode cX10_book 2 = .ok (.if_icmp .ne 15, 3) := by decide +kernel
theorem dX10_book_5 : decode cX10_book 5 = .ok (.aload_n 0, 1) := by decide +kernel
theorem dX10_book_6 : decode cX10_book 6 = .ok (.getfield 12, 3) := by decide +kernel
theorem dX10_book_9 : decode cX10_book 9 = .ok (.getfield 313, 3) := by decide +kernel
theorem dX10_book_12 : decode cX10_book 12 = .ok (.invokevirtual 279, 3) := by decide +kernel
theorem dX10_book_15 : decode cX10_book 15 = .ok (.iconst 0, 1) := by decide +kernel
theorem dX10_book_16 : decode cX10_book 16 = .ok (.ireturn, 1) := by decide +kernel
theorem dX10_book_17 : decode cX10_book 17 = .ok (.aload_n 0, 1) := by decide +kernel
theorem dX10_book_18 : decode cX10_book 18 = .ok (.iload_n 1, 1) := by decide +kernel
theorem dX10_book_19 : decode cX10_book 19 = .ok (.invokevirtual 183, 3) := by decide +kernel
theorem dX10_book_22 : decode cX10_book 22 = .ok (.ifCond .ne 5, 3) := by decide +kernel
theorem dX10_book_25 : decode cX10_book 25 = .ok (.iconst (-1), 1) := by decide +kernel
theorem dX10_book_26 : decode cX10_book 26 = .ok (.ireturn, 1) := by decide +kernel
theorem dX10_book_27 : decode cX10_book 27 = .ok (.aload_n 0, 1) := by decide +kernel
theorem dX10_book_28 : decode cX10_book 28 = .ok (.getfield 12, 3) := by decide +kernel
theorem dX10_book_31 : decode cX10_book 31 = .ok (.getfield 313, 3) := by decide +kernel
theorem dX10_book_34 : decode cX10_book 34 = .ok (.invokevirtual 100, 3) := by decide +kernel
theorem dX10_book_37 : decode cX10_book 37 = .ok (.ifCond .eq 6, 3) := by decide +kernel
theorem dX10_book_40 : decode cX10_book 40 = .ok (.bipush (-4), 2) := by decide +kernel
theorem dX10_book_42 : decode cX10_book 42 = .ok (.ireturn, 1) := by decide +kernel
theorem dX10_book_43 : decode cX10_book 43 = .ok (.aload_n 0, 1) := by decide +kernel
theorem dX10_book_44 : decode cX10_book 44 = .ok (.getfield 12, 3) := by decide +kernel
theorem dX10_book_47 : decode cX10_book 47 = .ok (.getfield 313, 3) := by decide +kernel
theorem dX10_book_50 : decode cX10_book 50 = .ok (.iload_n 1, 1) := by decide +kernel
theorem dX10_book_51 : decode cX10_book 51 = .ok (.invokevirtual 106, 3) := by decide +kernel
theorem dX10_book_54 : decode cX10_book 54 = .ok (.aload_n 0, 1) := by decide +kernel
theorem dX10_book_55 : decode cX10_book 55 = .ok (.getfield 12, 3) := by decide +kernel
theorem dX10_book_58 : decode cX10_book 58 = .ok (.getfield 313, 3) := by decide +kernel
theorem dX10_book_61 : decode cX10_book 61 = .ok (.getfield 116, 3) := by decide +kernel
theorem dX10_book_64 : decode cX10_book 64 = .ok (.ireturn, 1) := by decide +kernel
theorem dX10_looked_0 : decode cX10_looked 0 = .ok (.iconst 0, 1) := by decide +kernel
theorem dX10_looked_1 : decode cX10_looked 1 = .ok (.istore_n 1, 1) := by decide +kernel
theorem dX10_looked_2 : decode cX10_looked 2 = .ok (.iload_n 1, 1) := by decide +kernel
theorem dX10_looked_3 : decode cX10_looked 3 = .ok (.aload_n 0, 1) := by decide +kernel
theorem dX10_looked_4 : decode cX10_looked 4 = .ok (.getfield 12, 3) := by decide +kernel
theorem dX10_looked_7 : decode cX10_looked 7 = .ok (.getfield 313, 3) := by decide +kernel
theorem dX10_looked_10 : decode cX10_looked 10 = .ok (.getfield 116, 3) := by decide +kernel
theorem dX10_looked_13 : decode cX10_looked 13 = .ok (.if_icmp .ge 32, 3) := by decide +kernel
theorem dX10_looked_16 : decode cX10_looked 16 = .ok (.aload_n 0, 1) := by decide +kernel
theorem dX10_looked_17 : decode cX10_looked 17 = .ok (.getfield 12, 3) := by decide +kernel
theorem dX10_looked_20 : decode cX10_looked 20 = .ok (.aload_n 0, 1) := by decide +kernel
theorem dX10_looked_21 : decode cX10_looked 21 = .ok (.getfield 12, 3) := by decide +kernel
theorem dX10_looked_24 : decode cX10_looked 24 = .ok (.getfield 313, 3) := by decide +kernel
theorem dX10_looked_27 : decode cX10_looked 27 = .ok (.iload_n 1, 1) := by decide +kernel
theorem dX10_looked_28 : decode cX10_looked 28 = .ok (.invokevirtual 122, 3) := by decide +kernel
theorem dX10_looked_31 : decode cX10_looked 31 = .ok (.invokevirtual 199, 3) := by decide +kernel
theorem dX10_looked_34 : decode cX10_looked 34 = .ok (.ifCond .ge 5, 3) := by decide +kernel
theorem dX10_looked_37 : decode cX10_looked 37 = .ok (.iload_n 1, 1) := by decide +kernel
theorem dX10_looked_38 : decode cX10_looked 38 = .ok (.ireturn, 1) := by decide +kernel
theorem dX10_looked_39 : decode cX10_looked 39 = .ok (.iinc 1 1, 3) := by decide +kernel
theorem dX10_looked_42 : decode cX10_looked 42 = .ok (.goto (-40), 3) := by decide +kernel
theorem dX10_looked_45 : decode cX10_looked 45 = .ok (.bipush (-5), 2) := by decide +kernel
theorem dX10_looked_47 : decode cX10_looked 47 = .ok (.ireturn, 1) := by decide +kernel
theorem dX10_judge_0 : decode cX10_judge 0 = .ok (.aload_n 0, 1) := by decide +kernel
theorem dX10_judge_1 : decode cX10_judge 1 = .ok (.getfield 88, 3) := by decide +kernel
theorem dX10_judge_4 : decode cX10_judge 4 = .ok (.iload_n 1, 1) := by decide +kernel
theorem dX10_judge_5 : decode cX10_judge 5 = .ok (.invokevirtual 316, 3) := by decide +kernel
theorem dX10_judge_8 : decode cX10_judge 8 = .ok (.ifCond .ne 5, 3) := by decide +kernel
theorem dX10_judge_11 : decode cX10_judge 11 = .ok (.iconst (-1), 1) := by decide +kernel
theorem dX10_judge_12 : decode cX10_judge 12 = .ok (.ireturn, 1) := by decide +kernel
theorem dX10_judge_13 : decode cX10_judge 13 = .ok (.aload_n 0, 1) := by decide +kernel
theorem dX10_judge_14 : decode cX10_judge 14 = .ok (.getfield 88, 3) := by decide +kernel
theorem dX10_judge_17 : decode cX10_judge 17 = .ok (.iload_n 1, 1) := by decide +kernel
theorem dX10_judge_18 : decode cX10_judge 18 = .ok (.invokevirtual 319, 3) := by decide +kernel
theorem dX10_judge_21 : decode cX10_judge 21 = .ok (.ifCond .eq 6, 3) := by decide +kernel
theorem dX10_judge_24 : decode cX10_judge 24 = .ok (.bipush 100, 2) := by decide +kernel
theorem dX10_judge_26 : decode cX10_judge 26 = .ok (.ireturn, 1) := by decide +kernel
theorem dX10_judge_27 : decode cX10_judge 27 = .ok (.aload_n 0, 1) := by decide +kernel
theorem dX10_judge_28 : decode cX10_judge 28 = .ok (.getfield 88, 3) := by decide +kernel
theorem dX10_judge_31 : decode cX10_judge 31 = .ok (.iload_n 1, 1) := by decide +kernel
theorem dX10_judge_32 : decode cX10_judge 32 = .ok (.invokevirtual 322, 3) := by decide +kernel
theorem dX10_judge_35 : decode cX10_judge 35 = .ok (.iconst 4, 1) := by decide +kernel
theorem dX10_judge_36 : decode cX10_judge 36 = .ok (.if_icmp .eq 6, 3) := by decide +kernel
theorem dX10_judge_39 : decode cX10_judge 39 = .ok (.bipush (-12), 2) := by decide +kernel
theorem dX10_judge_41 : decode cX10_judge 41 = .ok (.ireturn, 1) := by decide +kernel
theorem dX10_judge_42 : decode cX10_judge 42 = .ok (.aload_n 0, 1) := by decide +kernel
theorem dX10_judge_43 : decode cX10_judge 43 = .ok (.iload_n 1, 1) := by decide +kernel
theorem dX10_judge_44 : decode cX10_judge 44 = .ok (.iload_n 2, 1) := by decide +kernel
theorem dX10_judge_45 : decode cX10_judge 45 = .ok (.invokevirtual 325, 3) := by decide +kernel
theorem dX10_judge_48 : decode cX10_judge 48 = .ok (.ireturn, 1) := by decide +kernel
theorem dX10_image_0 : decode cX10_image 0 = .ok (.aload_n 0, 1) := by decide +kernel
theorem dX10_image_1 : decode cX10_image 1 = .ok (.getfield 18, 3) := by decide +kernel
theorem dX10_image_4 : decode cX10_image 4 = .ok (.aload_n 0, 1) := by decide +kernel
theorem dX10_image_5 : decode cX10_image 5 = .ok (.getfield 12, 3) := by decide +kernel
theorem dX10_image_8 : decode cX10_image 8 = .ok (.invokevirtual 328, 3) := by decide +kernel
theorem dX10_image_11 : decode cX10_image 11 = .ok (.aload_n 0, 1) := by decide +kernel
theorem dX10_image_12 : decode cX10_image 12 = .ok (.iconst 1, 1) := by decide +kernel
theorem dX10_image_13 : decode cX10_image 13 = .ok (.putfield 21, 3) := by decide +kernel
theorem dX10_image_16 : decode cX10_image 16 = .ok (.aload_n 0, 1) := by decide +kernel
theorem dX10_image_17 : decode cX10_image 17 = .ok (.getfield 12, 3) := by decide +kernel
theorem dX10_image_20 : decode cX10_image 20 = .ok (.getfield 96, 3) := by decide +kernel
theorem dX10_image_23 : decode cX10_image 23 = .ok (.getfield 116, 3) := by decide +kernel
theorem dX10_image_26 : decode cX10_image 26 = .ok (.ireturn, 1) := by decide +kernel
theorem dX10_undo_0 : decode cX10_undo 0 = .ok (.aload_n 0, 1) := by decide +kernel
theorem dX10_undo_1 : decode cX10_undo 1 = .ok (.getfield 21, 3) := by decide +kernel
theorem dX10_undo_4 : decode cX10_undo 4 = .ok (.ifCond .ne 6, 3) := by decide +kernel
theorem dX10_undo_7 : decode cX10_undo 7 = .ok (.bipush (-3), 2) := by decide +kernel
theorem dX10_undo_9 : decode cX10_undo 9 = .ok (.ireturn, 1) := by decide +kernel
theorem dX10_undo_10 : decode cX10_undo 10 = .ok (.aload_n 0, 1) := by decide +kernel
theorem dX10_undo_11 : decode cX10_undo 11 = .ok (.getfield 12, 3) := by decide +kernel
theorem dX10_undo_14 : decode cX10_undo 14 = .ok (.aload_n 0, 1) := by decide +kernel
theorem dX10_undo_15 : decode cX10_undo 15 = .ok (.getfield 18, 3) := by decide +kernel
theorem dX10_undo_18 : decode cX10_undo 18 = .ok (.invokevirtual 328, 3) := by decide +kernel
theorem dX10_undo_21 : decode cX10_undo 21 = .ok (.aload_n 0, 1) := by decide +kernel
theorem dX10_undo_22 : decode cX10_undo 22 = .ok (.getfield 12, 3) := by decide +kernel
theorem dX10_undo_25 : decode cX10_undo 25 = .ok (.getfield 96, 3) := by decide +kernel
theorem dX10_undo_28 : decode cX10_undo 28 = .ok (.getfield 116, 3) := by decide +kernel
theorem dX10_undo_31 : decode cX10_undo 31 = .ok (.ireturn, 1) := by decide +kernel
theorem dX10_act_0 : decode cX10_act 0 = .ok (.aload_n 0, 1) := by decide +kernel
theorem dX10_act_1 : decode cX10_act 1 = .ok (.getfield 81, 3) := by decide +kernel
theorem dX10_act_4 : decode cX10_act 4 = .ok (.invokevirtual 332, 3) := by decide +kernel
theorem dX10_act_7 : decode cX10_act 7 = .ok (.aload_n 0, 1) := by decide +kernel
theorem dX10_act_8 : decode cX10_act 8 = .ok (.iload_n 1, 1) := by decide +kernel
theorem dX10_act_9 : decode cX10_act 9 = .ok (.invokevirtual 119, 3) := by decide +kernel
theorem dX10_act_12 : decode cX10_act 12 = .ok (.ifCond .eq 12, 3) := by decide +kernel
theorem dX10_act_15 : decode cX10_act 15 = .ok (.iload_n 2, 1) := by decide +kernel
theorem dX10_act_16 : decode cX10_act 16 = .ok (.ifCond .lt 8, 3) := by decide +kernel
theorem dX10_act_19 : decode cX10_act 19 = .ok (.iload_n 2, 1) := by decide +kernel
theorem dX10_act_20 : decode cX10_act 20 = .ok (.iconst 2, 1) := by decide +kernel
theorem dX10_act_21 : decode cX10_act 21 = .ok (.if_icmp .le 5, 3) := by decide +kernel
theorem dX10_act_24 : decode cX10_act 24 = .ok (.iconst 0, 1) := by decide +kernel
theorem dX10_act_25 : decode cX10_act 25 = .ok (.ireturn, 1) := by decide +kernel
theorem dX10_act_26 : decode cX10_act 26 = .ok (.aload_n 0, 1) := by decide +kernel
theorem dX10_act_27 : decode cX10_act 27 = .ok (.getfield 81, 3) := by decide +kernel
theorem dX10_act_30 : decode cX10_act 30 = .ok (.iload_n 1, 1) := by decide +kernel
theorem dX10_act_31 : decode cX10_act 31 = .ok (.aload_n 0, 1) := by decide +kernel
theorem dX10_act_32 : decode cX10_act 32 = .ok (.getfield 12, 3) := by decide +kernel
theorem dX10_act_35 : decode cX10_act 35 = .ok (.getfield 96, 3) := by decide +kernel
theorem dX10_act_38 : decode cX10_act 38 = .ok (.iload_n 1, 1) := by decide +kernel
theorem dX10_act_39 : decode cX10_act 39 = .ok (.invokevirtual 122, 3) := by decide +kernel
theorem dX10_act_42 : decode cX10_act 42 = .ok (.aload_n 0, 1) := by decide +kernel
theorem dX10_act_43 : decode cX10_act 43 = .ok (.getfield 12, 3) := by decide +kernel
theorem dX10_act_46 : decode cX10_act 46 = .ok (.getfield 110, 3) := by decide +kernel
theorem dX10_act_49 : decode cX10_act 49 = .ok (.iload_n 1, 1) := by decide +kernel
theorem dX10_act_50 : decode cX10_act 50 = .ok (.invokevirtual 122, 3) := by decide +kernel
theorem dX10_act_53 : decode cX10_act 53 = .ok (.iload_n 2, 1) := by decide +kernel
theorem dX10_act_54 : decode cX10_act 54 = .ok (.iload_n 3, 1) := by decide +kernel
theorem dX10_act_55 : decode cX10_act 55 = .ok (.invokevirtual 335, 3) := by decide +kernel
theorem dX10_act_58 : decode cX10_act 58 = .ok (.ireturn, 1) := by decide +kernel
theorem dX10_trace_0 : decode cX10_trace 0 = .ok (.iload_n 1, 1) := by decide +kernel
theorem dX10_trace_1 : decode cX10_trace 1 = .ok (.ifCond .lt 17, 3) := by decide +kernel
theorem dX10_trace_4 : decode cX10_trace 4 = .ok (.iload_n 1, 1) := by decide +kernel
theorem dX10_trace_5 : decode cX10_trace 5 = .ok (.aload_n 0, 1) := by decide +kernel
theorem dX10_trace_6 : decode cX10_trace 6 = .ok (.getfield 81, 3) := by decide +kernel
theorem dX10_trace_9 : decode cX10_trace 9 = .ok (.getfield 339, 3) := by decide +kernel
theorem dX10_trace_12 : decode cX10_trace 12 = .ok (.getfield 116, 3) := by decide +kernel
theorem dX10_trace_15 : decode cX10_trace 15 = .ok (.if_icmp .lt 5, 3) := by decide +kernel
theorem dX10_trace_18 : decode cX10_trace 18 = .ok (.iconst (-1), 1) := by decide +kernel
theorem dX10_trace_19 : decode cX10_trace 19 = .ok (.ireturn, 1) := by decide +kernel
theorem dX10_trace_20 : decode cX10_trace 20 = .ok (.aload_n 0, 1) := by decide +kernel
theorem dX10_trace_21 : decode cX10_trace 21 = .ok (.getfield 81, 3) := by decide +kernel
theorem dX10_trace_24 : decode cX10_trace 24 = .ok (.getfield 339, 3) := by decide +kernel
theorem dX10_trace_27 : decode cX10_trace 27 = .ok (.iload_n 1, 1) := by decide +kernel
theorem dX10_trace_28 : decode cX10_trace 28 = .ok (.invokevirtual 122, 3) := by decide +kernel
theorem dX10_trace_31 : decode cX10_trace 31 = .ok (.ireturn, 1) := by decide +kernel
theorem dX10_taken_0 : decode cX10_taken 0 = .ok (.iload_n 2, 1) := by decide +kernel
theorem dX10_taken_1 : decode cX10_taken 1 = .ok (.invokestatic 92, 3) := by decide +kernel
theorem dX10_taken_4 : decode cX10_taken 4 = .ok (.ifCond .ne 6, 3) := by decide +kernel
theorem dX10_taken_7 : decode cX10_taken 7 = .ok (.bipush (-2), 2) := by decide +kernel
theorem dX10_taken_9 : decode cX10_taken 9 = .ok (.ireturn, 1) := by decide +kernel
theorem dX10_taken_10 : decode cX10_taken 10 = .ok (.aload_n 0, 1) := by decide +kernel
theorem dX10_taken_11 : decode cX10_taken 11 = .ok (.iload_n 1, 1) := by decide +kernel
theorem dX10_taken_12 : decode cX10_taken 12 = .ok (.invokevirtual 119, 3) := by decide +kernel
theorem dX10_taken_15 : decode cX10_taken 15 = .ok (.ifCond .ne 6, 3) := by decide +kernel
theorem dX10_taken_18 : decode cX10_taken 18 = .ok (.bipush (-11), 2) := by decide +kernel
theorem dX10_taken_20 : decode cX10_taken 20 = .ok (.ireturn, 1) := by decide +kernel
theorem dX10_taken_21 : decode cX10_taken 21 = .ok (.aload_n 0, 1) := by decide +kernel
theorem dX10_taken_22 : decode cX10_taken 22 = .ok (.getfield 12, 3) := by decide +kernel
theorem dX10_taken_25 : decode cX10_taken 25 = .ok (.getfield 96, 3) := by decide +kernel
theorem dX10_taken_28 : decode cX10_taken 28 = .ok (.iload_n 1, 1) := by decide +kernel
theorem dX10_taken_29 : decode cX10_taken 29 = .ok (.invokevirtual 122, 3) := by decide +kernel
theorem dX10_taken_32 : decode cX10_taken 32 = .ok (.istore_n 3, 1) := by decide +kernel
theorem dX10_taken_33 : decode cX10_taken 33 = .ok (.iload_n 3, 1) := by decide +kernel
theorem dX10_taken_34 : decode cX10_taken 34 = .ok (.iload_n 2, 1) := by decide +kernel
theorem dX10_taken_35 : decode cX10_taken 35 = .ok (.invokestatic 342, 3) := by decide +kernel
theorem dX10_taken_38 : decode cX10_taken 38 = .ok (.ifCond .eq 7, 3) := by decide +kernel
theorem dX10_taken_41 : decode cX10_taken 41 = .ok (.iload_n 3, 1) := by decide +kernel
theorem dX10_taken_42 : decode cX10_taken 42 = .ok (.goto 5, 3) := by decide +kernel
theorem dX10_taken_45 : decode cX10_taken 45 = .ok (.bipush (-12), 2) := by decide +kernel
theorem dX10_taken_47 : decode cX10_taken 47 = .ok (.ireturn, 1) := by decide +kernel
theorem dX10_count_0 : decode cX10_count 0 = .ok (.iload_n 1, 1) := by decide +kernel
theorem dX10_count_1 : decode cX10_count 1 = .ok (.tableswitch 108 0 6 #[43, 54, 59, 70, 81, 92, 100], 43) := by decide +kernel
theorem dX10_count_44 : decode cX10_count 44 = .ok (.aload_n 0, 1) := by decide +kernel
theorem dX10_count_45 : decode cX10_count 45 = .ok (.getfield 12, 3) := by decide +kernel
theorem dX10_count_48 : decode cX10_count 48 = .ok (.getfield 96, 3) := by decide +kernel
theorem dX10_count_51 : decode cX10_count 51 = .ok (.getfield 116, 3) := by decide +kernel
theorem dX10_count_54 : decode cX10_count 54 = .ok (.ireturn, 1) := by decide +kernel
theorem dX10_count_55 : decode cX10_count 55 = .ok (.aload_n 0, 1) := by decide +kernel
theorem dX10_count_56 : decode cX10_count 56 = .ok (.getfield 43, 3) := by decide +kernel
theorem dX10_count_59 : decode cX10_count 59 = .ok (.ireturn, 1) := by decide +kernel
theorem dX10_count_60 : decode cX10_count 60 = .ok (.aload_n 0, 1) := by decide +kernel
theorem dX10_count_61 : decode cX10_count 61 = .ok (.getfield 12, 3) := by decide +kernel
theorem dX10_count_64 : decode cX10_count 64 = .ok (.getfield 276, 3) := by decide +kernel
theorem dX10_count_67 : decode cX10_count 67 = .ok (.getfield 116, 3) := by decide +kernel
theorem dX10_count_70 : decode cX10_count 70 = .ok (.ireturn, 1) := by decide +kernel
theorem dX10_count_71 : decode cX10_count 71 = .ok (.aload_n 0, 1) := by decide +kernel
theorem dX10_count_72 : decode cX10_count 72 = .ok (.getfield 12, 3) := by decide +kernel
theorem dX10_count_75 : decode cX10_count 75 = .ok (.getfield 292, 3) := by decide +kernel
theorem dX10_count_78 : decode cX10_count 78 = .ok (.getfield 116, 3) := by decide +kernel
theorem dX10_count_81 : decode cX10_count 81 = .ok (.ireturn, 1) := by decide +kernel
theorem dX10_count_82 : decode cX10_count 82 = .ok (.aload_n 0, 1) := by decide +kernel
theorem dX10_count_83 : decode cX10_count 83 = .ok (.getfield 12, 3) := by decide +kernel
theorem dX10_count_86 : decode cX10_count 86 = .ok (.getfield 313, 3) := by decide +kernel
theorem dX10_count_89 : decode cX10_count 89 = .ok (.getfield 116, 3) := by decide +kernel
theorem dX10_count_92 : decode cX10_count 92 = .ok (.ireturn, 1) := by decide +kernel
theorem dX10_count_93 : decode cX10_count 93 = .ok (.aload_n 0, 1) := by decide +kernel
theorem dX10_count_94 : decode cX10_count 94 = .ok (.getfield 28, 3) := by decide +kernel
theorem dX10_count_97 : decode cX10_count 97 = .ok (.getfield 135, 3) := by decide +kernel
theorem dX10_count_100 : decode cX10_count 100 = .ok (.ireturn, 1) := by decide +kernel
theorem dX10_count_101 : decode cX10_count 101 = .ok (.aload_n 0, 1) := by decide +kernel
theorem dX10_count_102 : decode cX10_count 102 = .ok (.getfield 81, 3) := by decide +kernel
theorem dX10_count_105 : decode cX10_count 105 = .ok (.getfield 345, 3) := by decide +kernel
theorem dX10_count_108 : decode cX10_count 108 = .ok (.ireturn, 1) := by decide +kernel
theorem dX10_count_109 : decode cX10_count 109 = .ok (.bipush (-2), 2) := by decide +kernel
theorem dX10_count_111 : decode cX10_count 111 = .ok (.ireturn, 1) := by decide +kernel
theorem dX10_tape_0 : decode cX10_tape 0 = .ok (.aload_n 0, 1) := by decide +kernel
theorem dX10_tape_1 : decode cX10_tape 1 = .ok (.getfield 88, 3) := by decide +kernel
theorem dX10_tape_4 : decode cX10_tape 4 = .ok (.iload_n 1, 1) := by decide +kernel
theorem dX10_tape_5 : decode cX10_tape 5 = .ok (.invokevirtual 316, 3) := by decide +kernel
theorem dX10_tape_8 : decode cX10_tape 8 = .ok (.ifCond .ne 5, 3) := by decide +kernel
theorem dX10_tape_11 : decode cX10_tape 11 = .ok (.iconst (-1), 1) := by decide +kernel
theorem dX10_tape_12 : decode cX10_tape 12 = .ok (.ireturn, 1) := by decide +kernel
theorem dX10_tape_13 : decode cX10_tape 13 = .ok (.iload_n 2, 1) := by decide +kernel
theorem dX10_tape_14 : decode cX10_tape 14 = .ok (.iconst (-1), 1) := by decide +kernel
theorem dX10_tape_15 : decode cX10_tape 15 = .ok (.if_icmp .ne 15, 3) := by decide +kernel
theorem dX10_tape_18 : decode cX10_tape 18 = .ok (.aload_n 0, 1) := by decide +kernel
theorem dX10_tape_19 : decode cX10_tape 19 = .ok (.getfield 88, 3) := by decide +kernel
theorem dX10_tape_22 : decode cX10_tape 22 = .ok (.iload_n 1, 1) := by decide +kernel
theorem dX10_tape_23 : decode cX10_tape 23 = .ok (.iload_n 2, 1) := by decide +kernel
theorem dX10_tape_24 : decode cX10_tape 24 = .ok (.iconst 0, 1) := by decide +kernel
theorem dX10_tape_25 : decode cX10_tape 25 = .ok (.invokevirtual 348, 3) := by decide +kernel
theorem dX10_tape_28 : decode cX10_tape 28 = .ok (.iconst 1, 1) := by decide +kernel
theorem dX10_tape_29 : decode cX10_tape 29 = .ok (.ireturn, 1) := by decide +kernel
theorem dX10_tape_30 : decode cX10_tape 30 = .ok (.iload_n 2, 1) := by decide +kernel
theorem dX10_tape_31 : decode cX10_tape 31 = .ok (.ifCond .lt 14, 3) := by decide +kernel
theorem dX10_tape_34 : decode cX10_tape 34 = .ok (.iload_n 2, 1) := by decide +kernel
theorem dX10_tape_35 : decode cX10_tape 35 = .ok (.iconst 4, 1) := by decide +kernel
theorem dX10_tape_36 : decode cX10_tape 36 = .ok (.if_icmp .gt 9, 3) := by decide +kernel
theorem dX10_tape_39 : decode cX10_tape 39 = .ok (.iload_n 3, 1) := by decide +kernel
theorem dX10_tape_40 : decode cX10_tape 40 = .ok (.bipush 60, 2) := by decide +kernel
theorem dX10_tape_42 : decode cX10_tape 42 = .ok (.if_icmp .le 6, 3) := by decide +kernel
theorem dX10_tape_45 : decode cX10_tape 45 = .ok (.bipush (-2), 2) := by decide +kernel
theorem dX10_tape_47 : decode cX10_tape 47 = .ok (.ireturn, 1) := by decide +kernel
theorem dX10_tape_48 : decode cX10_tape 48 = .ok (.iload_n 3, 1) := by decide +kernel
theorem dX10_tape_49 : decode cX10_tape 49 = .ok (.ifCond .ge 6, 3) := by decide +kernel
theorem dX10_tape_52 : decode cX10_tape 52 = .ok (.bipush (-14), 2) := by decide +kernel
theorem dX10_tape_54 : decode cX10_tape 54 = .ok (.ireturn, 1) := by decide +kernel
theorem dX10_tape_55 : decode cX10_tape 55 = .ok (.aload_n 0, 1) := by decide +kernel
theorem dX10_tape_56 : decode cX10_tape 56 = .ok (.getfield 88, 3) := by decide +kernel
theorem dX10_tape_59 : decode cX10_tape 59 = .ok (.iload_n 1, 1) := by decide +kernel
theorem dX10_tape_60 : decode cX10_tape 60 = .ok (.iload_n 2, 1) := by decide +kernel
theorem dX10_tape_61 : decode cX10_tape 61 = .ok (.iload_n 3, 1) := by decide +kernel
theorem dX10_tape_62 : decode cX10_tape 62 = .ok (.invokevirtual 348, 3) := by decide +kernel
theorem dX10_tape_65 : decode cX10_tape 65 = .ok (.iconst 1, 1) := by decide +kernel
theorem dX10_tape_66 : decode cX10_tape 66 = .ok (.ireturn, 1) := by decide +kernel
theorem dX10_item_0 : decode cX10_item 0 = .ok (.aload_n 0, 1) := by decide +kernel
theorem dX10_item_1 : decode cX10_item 1 = .ok (.getfield 88, 3) := by decide +kernel
theorem dX10_item_4 : decode cX10_item 4 = .ok (.iload_n 1, 1) := by decide +kernel
theorem dX10_item_5 : decode cX10_item 5 = .ok (.invokevirtual 316, 3) := by decide +kernel
theorem dX10_item_8 : decode cX10_item 8 = .ok (.ifCond .ne 5, 3) := by decide +kernel
theorem dX10_item_11 : decode cX10_item 11 = .ok (.iconst (-1), 1) := by decide +kernel
theorem dX10_item_12 : decode cX10_item 12 = .ok (.ireturn, 1) := by decide +kernel
theorem dX10_item_13 : decode cX10_item 13 = .ok (.aload_n 0, 1) := by decide +kernel
theorem dX10_item_14 : decode cX10_item 14 = .ok (.getfield 88, 3) := by decide +kernel
theorem dX10_item_17 : decode cX10_item 17 = .ok (.iload_n 1, 1) := by decide +kernel
theorem dX10_item_18 : decode cX10_item 18 = .ok (.invokevirtual 319, 3) := by decide +kernel
theorem dX10_item_21 : decode cX10_item 21 = .ok (.ifCond .eq 6, 3) := by decide +kernel
theorem dX10_item_24 : decode cX10_item 24 = .ok (.bipush (-11), 2) := by decide +kernel
theorem dX10_item_26 : decode cX10_item 26 = .ok (.ireturn, 1) := by decide +kernel
theorem dX10_item_27 : decode cX10_item 27 = .ok (.aload_n 0, 1) := by decide +kernel
theorem dX10_item_28 : decode cX10_item 28 = .ok (.getfield 88, 3) := by decide +kernel
theorem dX10_item_31 : decode cX10_item 31 = .ok (.iload_n 1, 1) := by decide +kernel
theorem dX10_item_32 : decode cX10_item 32 = .ok (.iload_n 2, 1) := by decide +kernel
theorem dX10_item_33 : decode cX10_item 33 = .ok (.invokevirtual 352, 3) := by decide +kernel
theorem dX10_item_36 : decode cX10_item 36 = .ok (.ifCond .ne 6, 3) := by decide +kernel
theorem dX10_item_39 : decode cX10_item 39 = .ok (.bipush (-13), 2) := by decide +kernel
theorem dX10_item_41 : decode cX10_item 41 = .ok (.ireturn, 1) := by decide +kernel
theorem dX10_item_42 : decode cX10_item 42 = .ok (.aload_n 0, 1) := by decide +kernel
theorem dX10_item_43 : decode cX10_item 43 = .ok (.getfield 88, 3) := by decide +kernel
theorem dX10_item_46 : decode cX10_item 46 = .ok (.iload_n 1, 1) := by decide +kernel
theorem dX10_item_47 : decode cX10_item 47 = .ok (.iload_n 2, 1) := by decide +kernel
theorem dX10_item_48 : decode cX10_item 48 = .ok (.lload_n 3, 1) := by decide +kernel
theorem dX10_item_49 : decode cX10_item 49 = .ok (.invokevirtual 355, 3) := by decide +kernel
theorem dX10_item_52 : decode cX10_item 52 = .ok (.iconst 1, 1) := by decide +kernel
theorem dX10_item_53 : decode cX10_item 53 = .ok (.ireturn, 1) := by decide +kernel
theorem dX10_read_0 : decode cX10_read 0 = .ok (.aload_n 0, 1) := by decide +kernel
theorem dX10_read_1 : decode cX10_read 1 = .ok (.getfield 88, 3) := by decide +kernel
theorem dX10_read_4 : decode cX10_read 4 = .ok (.iload_n 1, 1) := by decide +kernel
theorem dX10_read_5 : decode cX10_read 5 = .ok (.invokevirtual 316, 3) := by decide +kernel
theorem dX10_read_8 : decode cX10_read 8 = .ok (.ifCond .eq 15, 3) := by decide +kernel
theorem dX10_read_11 : decode cX10_read 11 = .ok (.aload_n 0, 1) := by decide +kernel
theorem dX10_read_12 : decode cX10_read 12 = .ok (.getfield 88, 3) := by decide +kernel
theorem dX10_read_15 : decode cX10_read 15 = .ok (.iload_n 1, 1) := by decide +kernel
theorem dX10_read_16 : decode cX10_read 16 = .ok (.iload_n 2, 1) := by decide +kernel
theorem dX10_read_17 : decode cX10_read 17 = .ok (.invokevirtual 352, 3) := by decide +kernel
theorem dX10_read_20 : decode cX10_read 20 = .ok (.ifCond .ne 7, 3) := by decide +kernel
theorem dX10_read_23 : decode cX10_read 23 = .ok (.ldc2_w 304, 3) := by decide +kernel
theorem dX10_read_26 : decode cX10_read 26 = .ok (.lreturn, 1) := by decide +kernel
theorem dX10_read_27 : decode cX10_read 27 = .ok (.aload_n 0, 1) := by decide +kernel
theorem dX10_read_28 : decode cX10_read 28 = .ok (.getfield 88, 3) := by decide +kernel
theorem dX10_read_31 : decode cX10_read 31 = .ok (.iload_n 1, 1) := by decide +kernel
theorem dX10_read_32 : decode cX10_read 32 = .ok (.iload_n 2, 1) := by decide +kernel
theorem dX10_read_33 : decode cX10_read 33 = .ok (.invokevirtual 358, 3) := by decide +kernel
theorem dX10_read_36 : decode cX10_read 36 = .ok (.lreturn, 1) := by decide +kernel
theorem dX10_shift_0 : decode cX10_shift 0 = .ok (.aload_n 0, 1) := by decide +kernel
theorem dX10_shift_1 : decode cX10_shift 1 = .ok (.getfield 88, 3) := by decide +kernel
theorem dX10_shift_4 : decode cX10_shift 4 = .ok (.iload_n 1, 1) := by decide +kernel
theorem dX10_shift_5 : decode cX10_shift 5 = .ok (.invokevirtual 316, 3) := by decide +kernel
theorem dX10_shift_8 : decode cX10_shift 8 = .ok (.ifCond .eq 14, 3) := by decide +kernel
theorem dX10_shift_11 : decode cX10_shift 11 = .ok (.aload_n 0, 1) := by decide +kernel
theorem dX10_shift_12 : decode cX10_shift 12 = .ok (.getfield 88, 3) := by decide +kernel
theorem dX10_shift_15 : decode cX10_shift 15 = .ok (.iload_n 3, 1) := by decide +kernel
theorem dX10_shift_16 : decode cX10_shift 16 = .ok (.invokevirtual 316, 3) := by decide +kernel
theorem dX10_shift_19 : decode cX10_shift 19 = .ok (.ifCond .ne 5, 3) := by decide +kernel
theorem dX10_shift_22 : decode cX10_shift 22 = .ok (.iconst (-1), 1) := by decide +kernel
theorem dX10_shift_23 : decode cX10_shift 23 = .ok (.ireturn, 1) := by decide +kernel
theorem dX10_shift_24 : decode cX10_shift 24 = .ok (.aload_n 0, 1) := by decide +kernel
theorem dX10_shift_25 : decode cX10_shift 25 = .ok (.getfield 88, 3) := by decide +kernel
theorem dX10_shift_28 : decode cX10_shift 28 = .ok (.iload_n 1, 1) := by decide +kernel
theorem dX10_shift_29 : decode cX10_shift 29 = .ok (.invokevirtual 319, 3) := by decide +kernel
theorem dX10_shift_32 : decode cX10_shift 32 = .ok (.ifCond .ne 14, 3) := by decide +kernel
theorem dX10_shift_35 : decode cX10_shift 35 = .ok (.aload_n 0, 1) := by decide +kernel
theorem dX10_shift_36 : decode cX10_shift 36 = .ok (.getfield 88, 3) := by decide +kernel
theorem dX10_shift_39 : decode cX10_shift 39 = .ok (.iload_n 3, 1) := by decide +kernel
theorem dX10_shift_40 : decode cX10_shift 40 = .ok (.invokevirtual 319, 3) := by decide +kernel
theorem dX10_shift_43 : decode cX10_shift 43 = .ok (.ifCond .eq 6, 3) := by decide +kernel
theorem dX10_shift_46 : decode cX10_shift 46 = .ok (.bipush (-11), 2) := by decide +kernel
theorem dX10_shift_48 : decode cX10_shift 48 = .ok (.ireturn, 1) := by decide +kernel
theorem dX10_shift_49 : decode cX10_shift 49 = .ok (.aload_n 0, 1) := by decide +kernel
theorem dX10_shift_50 : decode cX10_shift 50 = .ok (.getfield 88, 3) := by decide +kernel
theorem dX10_shift_53 : decode cX10_shift 53 = .ok (.iload_n 1, 1) := by decide +kernel
theorem dX10_shift_54 : decode cX10_shift 54 = .ok (.invokevirtual 322, 3) := by decide +kernel
theorem dX10_shift_57 : decode cX10_shift 57 = .ok (.aload_n 0, 1) := by decide +kernel
theorem dX10_shift_58 : decode cX10_shift 58 = .ok (.getfield 88, 3) := by decide +kernel
theorem dX10_shift_61 : decode cX10_shift 61 = .ok (.iload_n 3, 1) := by decide +kernel
theorem dX10_shift_62 : decode cX10_shift 62 = .ok (.invokevirtual 322, 3) := by decide +kernel
theorem dX10_shift_65 : decode cX10_shift 65 = .ok (.if_icmp .eq 6, 3) := by decide +kernel
theorem dX10_shift_68 : decode cX10_shift 68 = .ok (.bipush (-12), 2) := by decide +kernel
theorem dX10_shift_70 : decode cX10_shift 70 = .ok (.ireturn, 1) := by decide +kernel
theorem dX10_shift_71 : decode cX10_shift 71 = .ok (.aload_n 0, 1) := by decide +kernel
theorem dX10_shift_72 : decode cX10_shift 72 = .ok (.getfield 88, 3) := by decide +kernel
theorem dX10_shift_75 : decode cX10_shift 75 = .ok (.iload_n 1, 1) := by decide +kernel
theorem dX10_shift_76 : decode cX10_shift 76 = .ok (.iload_n 2, 1) := by decide +kernel
theorem dX10_shift_77 : decode cX10_shift 77 = .ok (.iload 5, 2) := by decide +kernel
theorem dX10_shift_79 : decode cX10_shift 79 = .ok (.invokevirtual 361, 3) := by decide +kernel
theorem dX10_shift_82 : decode cX10_shift 82 = .ok (.ifCond .eq 18, 3) := by decide +kernel
theorem dX10_shift_85 : decode cX10_shift 85 = .ok (.aload_n 0, 1) := by decide +kernel
theorem dX10_shift_86 : decode cX10_shift 86 = .ok (.getfield 88, 3) := by decide +kernel
theorem dX10_shift_89 : decode cX10_shift 89 = .ok (.iload_n 3, 1) := by decide +kernel
theorem dX10_shift_90 : decode cX10_shift 90 = .ok (.iload 4, 2) := by decide +kernel
theorem dX10_shift_92 : decode cX10_shift 92 = .ok (.iload 5, 2) := by decide +kernel
theorem dX10_shift_94 : decode cX10_shift 94 = .ok (.invokevirtual 361, 3) := by decide +kernel
theorem dX10_shift_97 : decode cX10_shift 97 = .ok (.ifCond .ne 6, 3) := by decide +kernel
theorem dX10_shift_100 : decode cX10_shift 100 = .ok (.bipush (-13), 2) := by decide +kernel
theorem dX10_shift_102 : decode cX10_shift 102 = .ok (.ireturn, 1) := by decide +kernel
theorem dX10_shift_103 : decode cX10_shift 103 = .ok (.aload_n 0, 1) := by decide +kernel
theorem dX10_shift_104 : decode cX10_shift 104 = .ok (.getfield 88, 3) := by decide +kernel
theorem dX10_shift_107 : decode cX10_shift 107 = .ok (.iload_n 1, 1) := by decide +kernel
theorem dX10_shift_108 : decode cX10_shift 108 = .ok (.iload_n 2, 1) := by decide +kernel
theorem dX10_shift_109 : decode cX10_shift 109 = .ok (.iload_n 3, 1) := by decide +kernel
theorem dX10_shift_110 : decode cX10_shift 110 = .ok (.iload 4, 2) := by decide +kernel
theorem dX10_shift_112 : decode cX10_shift 112 = .ok (.iload 5, 2) := by decide +kernel
theorem dX10_shift_114 : decode cX10_shift 114 = .ok (.invokevirtual 365, 3) := by decide +kernel
theorem dX10_shift_117 : decode cX10_shift 117 = .ok (.iload 5, 2) := by decide +kernel
theorem dX10_shift_119 : decode cX10_shift 119 = .ok (.ireturn, 1) := by decide +kernel
theorem dX10_isIn_0 : decode cX10_isIn 0 = .ok (.iload_n 1, 1) := by decide +kernel
theorem dX10_isIn_1 : decode cX10_isIn 1 = .ok (.ifCond .lt 21, 3) := by decide +kernel
theorem dX10_isIn_4 : decode cX10_isIn 4 = .ok (.iload_n 1, 1) := by decide +kernel
theorem dX10_isIn_5 : decode cX10_isIn 5 = .ok (.bipush 25, 2) := by decide +kernel
theorem dX10_isIn_7 : decode cX10_isIn 7 = .ok (.if_icmp .ge 15, 3) := by decide +kernel
theorem dX10_isIn_10 : decode cX10_isIn 10 = .ok (.iload_n 0, 1) := by decide +kernel
theorem dX10_isIn_11 : decode cX10_isIn 11 = .ok (.iload_n 1, 1) := by decide +kernel
theorem dX10_isIn_12 : decode cX10_isIn 12 = .ok (.ishr, 1) := by decide +kernel
theorem dX10_isIn_13 : decode cX10_isIn 13 = .ok (.iconst 1, 1) := by decide +kernel
theorem dX10_isIn_14 : decode cX10_isIn 14 = .ok (.iand, 1) := by decide +kernel
theorem dX10_isIn_15 : decode cX10_isIn 15 = .ok (.ifCond .eq 7, 3) := by decide +kernel
theorem dX10_isIn_18 : decode cX10_isIn 18 = .ok (.iconst 1, 1) := by decide +kernel
theorem dX10_isIn_19 : decode cX10_isIn 19 = .ok (.goto 4, 3) := by decide +kernel
theorem dX10_isIn_22 : decode cX10_isIn 22 = .ok (.iconst 0, 1) := by decide +kernel
theorem dX10_isIn_23 : decode cX10_isIn 23 = .ok (.ireturn, 1) := by decide +kernel
theorem dX10_allSquares_0 : decode cX10_allSquares 0 = .ok (.iload_n 0, 1) := by decide +kernel
theorem dX10_allSquares_1 : decode cX10_allSquares 1 = .ok (.ifCond .lt 8, 3) := by decide +kernel
theorem dX10_allSquares_4 : decode cX10_allSquares 4 = .ok (.iload_n 0, 1) := by decide +kernel
theorem dX10_allSquares_5 : decode cX10_allSquares 5 = .ok (.iconst 5, 1) := by decide +kernel
theorem dX10_allSquares_6 : decode cX10_allSquares 6 = .ok (.if_icmp .le 7, 3) := by decide +kernel
theorem dX10_allSquares_9 : decode cX10_allSquares 9 = .ok (.iconst 0, 1) := by decide +kernel
theorem dX10_allSquares_10 : decode cX10_allSquares 10 = .ok (.goto 10, 3) := by decide +kernel
theorem dX10_allSquares_13 : decode cX10_allSquares 13 = .ok (.iconst 1, 1) := by decide +kernel
theorem dX10_allSquares_14 : decode cX10_allSquares 14 = .ok (.iload_n 0, 1) := by decide +kernel
theorem dX10_allSquares_15 : decode cX10_allSquares 15 = .ok (.iload_n 0, 1) := by decide +kernel
theorem dX10_allSquares_16 : decode cX10_allSquares 16 = .ok (.imul, 1) := by decide +kernel
theorem dX10_allSquares_17 : decode cX10_allSquares 17 = .ok (.ishl, 1) := by decide +kernel
theorem dX10_allSquares_18 : decode cX10_allSquares 18 = .ok (.iconst 1, 1) := by decide +kernel
theorem dX10_allSquares_19 : decode cX10_allSquares 19 = .ok (.isub, 1) := by decide +kernel
theorem dX10_allSquares_20 : decode cX10_allSquares 20 = .ok (.ireturn, 1) := by decide +kernel
theorem dX10_isKind_0 : decode cX10_isKind 0 = .ok (.iload_n 0, 1) := by decide +kernel
theorem dX10_isKind_1 : decode cX10_isKind 1 = .ok (.ifCond .lt 15, 3) := by decide +kernel
theorem dX10_isKind_4 : decode cX10_isKind 4 = .ok (.iload_n 0, 1) := by decide +kernel
theorem dX10_isKind_5 : decode cX10_isKind 5 = .ok (.getstatic 369, 3) := by decide +kernel
theorem dX10_isKind_8 : decode cX10_isKind 8 = .ok (.arraylength, 1) := by decide +kernel
theorem dX10_isKind_9 : decode cX10_isKind 9 = .ok (.if_icmp .ge 7, 3) := by decide +kernel
theorem dX10_isKind_12 : decode cX10_isKind 12 = .ok (.iconst 1, 1) := by decide +kernel
theorem dX10_isKind_13 : decode cX10_isKind 13 = .ok (.goto 4, 3) := by decide +kernel
theorem dX10_isKind_16 : decode cX10_isKind 16 = .ok (.iconst 0, 1) := by decide +kernel
theorem dX10_isKind_17 : decode cX10_isKind 17 = .ok (.ireturn, 1) := by decide +kernel
theorem dX10_isUnder_0 : decode cX10_isUnder 0 = .ok (.iload_n 0, 1) := by decide +kernel
theorem dX10_isUnder_1 : decode cX10_isUnder 1 = .ok (.istore_n 2, 1) := by decide +kernel
theorem dX10_isUnder_2 : decode cX10_isUnder 2 = .ok (.iconst 0, 1) := by decide +kernel
theorem dX10_isUnder_3 : decode cX10_isUnder 3 = .ok (.istore_n 3, 1) := by decide +kernel
theorem dX10_isUnder_4 : decode cX10_isUnder 4 = .ok (.iload_n 3, 1) := by decide +kernel
theorem dX10_isUnder_5 : decode cX10_isUnder 5 = .ok (.getstatic 369, 3) := by decide +kernel
theorem dX10_isUnder_8 : decode cX10_isUnder 8 = .ok (.arraylength, 1) := by decide +kernel
theorem dX10_isUnder_9 : decode cX10_isUnder 9 = .ok (.if_icmp .ge 29, 3) := by decide +kernel
theorem dX10_isUnder_12 : decode cX10_isUnder 12 = .ok (.iload_n 2, 1) := by decide +kernel
theorem dX10_isUnder_13 : decode cX10_isUnder 13 = .ok (.invokestatic 92, 3) := by decide +kernel
theorem dX10_isUnder_16 : decode cX10_isUnder 16 = .ok (.ifCond .eq 22, 3) := by decide +kernel
theorem dX10_isUnder_19 : decode cX10_isUnder 19 = .ok (.iload_n 2, 1) := by decide +kernel
theorem dX10_isUnder_20 : decode cX10_isUnder 20 = .ok (.iload_n 1, 1) := by decide +kernel
theorem dX10_isUnder_21 : decode cX10_isUnder 21 = .ok (.if_icmp .ne 5, 3) := by decide +kernel
theorem dX10_isUnder_24 : decode cX10_isUnder 24 = .ok (.iconst 1, 1) := by decide +kernel
theorem dX10_isUnder_25 : decode cX10_isUnder 25 = .ok (.ireturn, 1) := by decide +kernel
theorem dX10_isUnder_26 : decode cX10_isUnder 26 = .ok (.getstatic 369, 3) := by decide +kernel
theorem dX10_isUnder_29 : decode cX10_isUnder 29 = .ok (.iload_n 2, 1) := by decide +kernel
theorem dX10_isUnder_30 : decode cX10_isUnder 30 = .ok (.iaload, 1) := by decide +kernel
theorem dX10_isUnder_31 : decode cX10_isUnder 31 = .ok (.istore_n 2, 1) := by decide +kernel
theorem dX10_isUnder_32 : decode cX10_isUnder 32 = .ok (.iinc 3 1, 3) := by decide +kernel
theorem dX10_isUnder_35 : decode cX10_isUnder 35 = .ok (.goto (-31), 3) := by decide +kernel
theorem dX10_isUnder_38 : decode cX10_isUnder 38 = .ok (.iconst 0, 1) := by decide +kernel
theorem dX10_isUnder_39 : decode cX10_isUnder 39 = .ok (.ireturn, 1) := by decide +kernel
theorem dX10_isPlan_0 : decode cX10_isPlan 0 = .ok (.iload_n 1, 1) := by decide +kernel
theorem dX10_isPlan_1 : decode cX10_isPlan 1 = .ok (.ifCond .lt 21, 3) := by decide +kernel
theorem dX10_isPlan_4 : decode cX10_isPlan 4 = .ok (.iload_n 1, 1) := by decide +kernel
theorem dX10_isPlan_5 : decode cX10_isPlan 5 = .ok (.aload_n 0, 1) := by decide +kernel
theorem dX10_isPlan_6 : decode cX10_isPlan 6 = .ok (.getfield 12, 3) := by decide +kernel
theorem dX10_isPlan_9 : decode cX10_isPlan 9 = .ok (.getfield 96, 3) := by decide +kernel
theorem dX10_isPlan_12 : decode cX10_isPlan 12 = .ok (.getfield 116, 3) := by decide +kernel
theorem dX10_isPlan_15 : decode cX10_isPlan 15 = .ok (.if_icmp .ge 7, 3) := by decide +kernel
theorem dX10_isPlan_18 : decode cX10_isPlan 18 = .ok (.iconst 1, 1) := by decide +kernel
theorem dX10_isPlan_19 : decode cX10_isPlan 19 = .ok (.goto 4, 3) := by decide +kernel
theorem dX10_isPlan_22 : decode cX10_isPlan 22 = .ok (.iconst 0, 1) := by decide +kernel
theorem dX10_isPlan_23 : decode cX10_isPlan 23 = .ok (.ireturn, 1) := by decide +kernel
theorem dX10_isSquare_0 : decode cX10_isSquare 0 = .ok (.aload_n 0, 1) := by decide +kernel
theorem dX10_isSquare_1 : decode cX10_isSquare 1 = .ok (.invokevirtual 154, 3) := by decide +kernel
theorem dX10_isSquare_4 : decode cX10_isSquare 4 = .ok (.astore_n 2, 1) := by decide +kernel
theorem dX10_isSquare_5 : decode cX10_isSquare 5 = .ok (.iload_n 1, 1) := by decide +kernel
theorem dX10_isSquare_6 : decode cX10_isSquare 6 = .ok (.ifCond .lt 20, 3) := by decide +kernel
theorem dX10_isSquare_9 : decode cX10_isSquare 9 = .ok (.iload_n 1, 1) := by decide +kernel
theorem dX10_isSquare_10 : decode cX10_isSquare 10 = .ok (.aload_n 2, 1) := by decide +kernel
theorem dX10_isSquare_11 : decode cX10_isSquare 11 = .ok (.getfield 158, 3) := by decide +kernel
theorem dX10_isSquare_14 : decode cX10_isSquare 14 = .ok (.aload_n 2, 1) := by decide +kernel
theorem dX10_isSquare_15 : decode cX10_isSquare 15 = .ok (.getfield 158, 3) := by decide +kernel
theorem dX10_isSquare_18 : decode cX10_isSquare 18 = .ok (.imul, 1) := by decide +kernel
theorem dX10_isSquare_19 : decode cX10_isSquare 19 = .ok (.if_icmp .ge 7, 3) := by decide +kernel
theorem dX10_isSquare_22 : decode cX10_isSquare 22 = .ok (.iconst 1, 1) := by decide +kernel
theorem dX10_isSquare_23 : decode cX10_isSquare 23 = .ok (.goto 4, 3) := by decide +kernel
theorem dX10_isSquare_26 : decode cX10_isSquare 26 = .ok (.iconst 0, 1) := by decide +kernel
theorem dX10_isSquare_27 : decode cX10_isSquare 27 = .ok (.ireturn, 1) := by decide +kernel
theorem dX10_ground_0 : decode cX10_ground 0 = .ok (.aload_n 0, 1) := by decide +kernel
theorem dX10_ground_1 : decode cX10_ground 1 = .ok (.getfield 12, 3) := by decide +kernel
theorem dX10_ground_4 : decode cX10_ground 4 = .ok (.getfield 151, 3) := by decide +kernel
theorem dX10_ground_7 : decode cX10_ground 7 = .ok (.ifCond .lt 33, 3) := by decide +kernel
theorem dX10_ground_10 : decode cX10_ground 10 = .ok (.aload_n 0, 1) := by decide +kernel
theorem dX10_ground_11 : decode cX10_ground 11 = .ok (.getfield 12, 3) := by decide +kernel
theorem dX10_ground_14 : decode cX10_ground 14 = .ok (.getfield 151, 3) := by decide +kernel
theorem dX10_ground_17 : decode cX10_ground 17 = .ok (.aload_n 0, 1) := by decide +kernel
theorem dX10_ground_18 : decode cX10_ground 18 = .ok (.getfield 34, 3) := by decide +kernel
theorem dX10_ground_21 : decode cX10_ground 21 = .ok (.arraylength, 1) := by decide +kernel
theorem dX10_ground_22 : decode cX10_ground 22 = .ok (.if_icmp .ge 18, 3) := by decide +kernel
theorem dX10_ground_25 : decode cX10_ground 25 = .ok (.aload_n 0, 1) := by decide +kernel
theorem dX10_ground_26 : decode cX10_ground 26 = .ok (.getfield 34, 3) := by decide +kernel
theorem dX10_ground_29 : decode cX10_ground 29 = .ok (.aload_n 0, 1) := by decide +kernel
theorem dX10_ground_30 : decode cX10_ground 30 = .ok (.getfield 12, 3) := by decide +kernel
theorem dX10_ground_33 : decode cX10_ground 33 = .ok (.getfield 151, 3) := by decide +kernel
theorem dX10_ground_36 : decode cX10_ground 36 = .ok (.aaload, 1) := by decide +kernel
theorem dX10_ground_37 : decode cX10_ground 37 = .ok (.ifnonnull 8, 3) := by decide +kernel
theorem dX10_ground_40 : decode cX10_ground 40 = .ok (.aload_n 0, 1) := by decide +kernel
theorem dX10_ground_41 : decode cX10_ground 41 = .ok (.getfield 39, 3) := by decide +kernel
theorem dX10_ground_44 : decode cX10_ground 44 = .ok (.areturn, 1) := by decide +kernel
theorem dX10_ground_45 : decode cX10_ground 45 = .ok (.aload_n 0, 1) := by decide +kernel
theorem dX10_ground_46 : decode cX10_ground 46 = .ok (.getfield 34, 3) := by decide +kernel
theorem dX10_ground_49 : decode cX10_ground 49 = .ok (.aload_n 0, 1) := by decide +kernel
theorem dX10_ground_50 : decode cX10_ground 50 = .ok (.getfield 12, 3) := by decide +kernel
theorem dX10_ground_53 : decode cX10_ground 53 = .ok (.getfield 151, 3) := by decide +kernel
theorem dX10_ground_56 : decode cX10_ground 56 = .ok (.aaload, 1) := by decide +kernel
theorem dX10_ground_57 : decode cX10_ground 57 = .ok (.areturn, 1) := by decide +kernel
theorem dX10_openSquares_0 : decode cX10_openSquares 0 = .ok (.aload_n 0, 1) := by decide +kernel
theorem dX10_openSquares_1 : decode cX10_openSquares 1 = .ok (.invokevirtual 154, 3) := by decide +kernel
theorem dX10_openSquares_4 : decode cX10_openSquares 4 = .ok (.invokevirtual 233, 3) := by decide +kernel
theorem dX10_openSquares_7 : decode cX10_openSquares 7 = .ok (.aload_n 0, 1) := by decide +kernel
theorem dX10_openSquares_8 : decode cX10_openSquares 8 = .ok (.getfield 12, 3) := by decide +kernel
theorem dX10_openSquares_11 : decode cX10_openSquares 11 = .ok (.invokevirtual 162, 3) := by decide +kernel
theorem dX10_openSquares_14 : decode cX10_openSquares 14 = .ok (.iconst (-1), 1) := by decide +kernel
theorem dX10_openSquares_15 : decode cX10_openSquares 15 = .ok (.ixor, 1) := by decide +kernel
theorem dX10_openSquares_16 : decode cX10_openSquares 16 = .ok (.iand, 1) := by decide +kernel
theorem dX10_openSquares_17 : decode cX10_openSquares 17 = .ok (.ireturn, 1) := by decide +kernel
theorem dX10_viewOf_0 : decode cX10_viewOf 0 = .ok (.aload_n 0, 1) := by decide +kernel
theorem dX10_viewOf_1 : decode cX10_viewOf 1 = .ok (.invokevirtual 154, 3) := by decide +kernel
theorem dX10_viewOf_4 : decode cX10_viewOf 4 = .ok (.aload_n 0, 1) := by decide +kernel
theorem dX10_viewOf_5 : decode cX10_viewOf 5 = .ok (.getfield 12, 3) := by decide +kernel
theorem dX10_viewOf_8 : decode cX10_viewOf 8 = .ok (.getfield 96, 3) := by decide +kernel
theorem dX10_viewOf_11 : decode cX10_viewOf 11 = .ok (.iload_n 1, 1) := by decide +kernel
theorem dX10_viewOf_12 : decode cX10_viewOf 12 = .ok (.invokevirtual 122, 3) := by decide +kernel
theorem dX10_viewOf_15 : decode cX10_viewOf 15 = .ok (.aload_n 0, 1) := by decide +kernel
theorem dX10_viewOf_16 : decode cX10_viewOf 16 = .ok (.getfield 12, 3) := by decide +kernel
theorem dX10_viewOf_19 : decode cX10_viewOf 19 = .ok (.getfield 110, 3) := by decide +kernel
theorem dX10_viewOf_22 : decode cX10_viewOf 22 = .ok (.iload_n 1, 1) := by decide +kernel
theorem dX10_viewOf_23 : decode cX10_viewOf 23 = .ok (.invokevirtual 122, 3) := by decide +kernel
theorem dX10_viewOf_26 : decode cX10_viewOf 26 = .ok (.aload_n 0, 1) := by decide +kernel
theorem dX10_viewOf_27 : decode cX10_viewOf 27 = .ok (.getfield 12, 3) := by decide +kernel
theorem dX10_viewOf_30 : decode cX10_viewOf 30 = .ok (.getfield 113, 3) := by decide +kernel
theorem dX10_viewOf_33 : decode cX10_viewOf 33 = .ok (.iload_n 1, 1) := by decide +kernel
theorem dX10_viewOf_34 : decode cX10_viewOf 34 = .ok (.invokevirtual 122, 3) := by decide +kernel
theorem dX10_viewOf_37 : decode cX10_viewOf 37 = .ok (.iload_n 2, 1) := by decide +kernel
theorem dX10_viewOf_38 : decode cX10_viewOf 38 = .ok (.invokevirtual 372, 3) := by decide +kernel
theorem dX10_viewOf_41 : decode cX10_viewOf 41 = .ok (.ireturn, 1) := by decide +kernel
theorem dX10_lookByMen_0 : decode cX10_lookByMen 0 = .ok (.iconst 0, 1) := by decide +kernel
theorem dX10_lookByMen_1 : decode cX10_lookByMen 1 = .ok (.istore_n 1, 1) := by decide +kernel
theorem dX10_lookByMen_2 : decode cX10_lookByMen 2 = .ok (.iload_n 1, 1) := by decide +kernel
theorem dX10_lookByMen_3 : decode cX10_lookByMen 3 = .ok (.bipush 25, 2) := by decide +kernel
theorem dX10_lookByMen_5 : decode cX10_lookByMen 5 = .ok (.if_icmp .ge 40, 3) := by decide +kernel
theorem dX10_lookByMen_8 : decode cX10_lookByMen 8 = .ok (.aload_n 0, 1) := by decide +kernel
theorem dX10_lookByMen_9 : decode cX10_lookByMen 9 = .ok (.getfield 12, 3) := by decide +kernel
theorem dX10_lookByMen_12 : decode cX10_lookByMen 12 = .ok (.iload_n 1, 1) := by decide +kernel
theorem dX10_lookByMen_13 : decode cX10_lookByMen 13 = .ok (.invokevirtual 199, 3) := by decide +kernel
theorem dX10_lookByMen_16 : decode cX10_lookByMen 16 = .ok (.istore_n 2, 1) := by decide +kernel
theorem dX10_lookByMen_17 : decode cX10_lookByMen 17 = .ok (.aload_n 0, 1) := by decide +kernel
theorem dX10_lookByMen_18 : decode cX10_lookByMen 18 = .ok (.getfield 50, 3) := by decide +kernel
theorem dX10_lookByMen_21 : decode cX10_lookByMen 21 = .ok (.iload_n 1, 1) := by decide +kernel
theorem dX10_lookByMen_22 : decode cX10_lookByMen 22 = .ok (.iload_n 2, 1) := by decide +kernel
theorem dX10_lookByMen_23 : decode cX10_lookByMen 23 = .ok (.ifCond .ge 7, 3) := by decide +kernel
theorem dX10_lookByMen_26 : decode cX10_lookByMen 26 = .ok (.iconst 0, 1) := by decide +kernel
theorem dX10_lookByMen_27 : decode cX10_lookByMen 27 = .ok (.goto 9, 3) := by decide +kernel
theorem dX10_lookByMen_30 : decode cX10_lookByMen 30 = .ok (.aload_n 0, 1) := by decide +kernel
theorem dX10_lookByMen_31 : decode cX10_lookByMen 31 = .ok (.iload_n 2, 1) := by decide +kernel
theorem dX10_lookByMen_32 : decode cX10_lookByMen 32 = .ok (.iload_n 1, 1) := by decide +kernel
theorem dX10_lookByMen_33 : decode cX10_lookByMen 33 = .ok (.invokevirtual 208, 3) := by decide +kernel
theorem dX10_lookByMen_36 : decode cX10_lookByMen 36 = .ok (.invokevirtual 376, 3) := by decide +kernel
theorem dX10_lookByMen_39 : decode cX10_lookByMen 39 = .ok (.iinc 1 1, 3) := by decide +kernel
theorem dX10_lookByMen_42 : decode cX10_lookByMen 42 = .ok (.goto (-40), 3) := by decide +kernel
theorem dX10_lookByMen_45 : decode cX10_lookByMen 45 = .ok (.return_, 1) := by decide +kernel
theorem dX10_lookByPlan_0 : decode cX10_lookByPlan 0 = .ok (.aload_n 0, 1) := by decide +kernel
theorem dX10_lookByPlan_1 : decode cX10_lookByPlan 1 = .ok (.invokevirtual 154, 3) := by decide +kernel
theorem dX10_lookByPlan_4 : decode cX10_lookByPlan 4 = .ok (.invokevirtual 253, 3) := by decide +kernel
theorem dX10_lookByPlan_7 : decode cX10_lookByPlan 7 = .ok (.istore_n 2, 1) := by decide +kernel
theorem dX10_lookByPlan_8 : decode cX10_lookByPlan 8 = .ok (.iconst 0, 1) := by decide +kernel
theorem dX10_lookByPlan_9 : decode cX10_lookByPlan 9 = .ok (.istore_n 3, 1) := by decide +kernel
theorem dX10_lookByPlan_10 : decode cX10_lookByPlan 10 = .ok (.iload_n 3, 1) := by decide +kernel
theorem dX10_lookByPlan_11 : decode cX10_lookByPlan 11 = .ok (.bipush 25, 2) := by decide +kernel
theorem dX10_lookByPlan_13 : decode cX10_lookByPlan 13 = .ok (.if_icmp .ge 35, 3) := by decide +kernel
theorem dX10_lookByPlan_16 : decode cX10_lookByPlan 16 = .ok (.aload_n 0, 1) := by decide +kernel
theorem dX10_lookByPlan_17 : decode cX10_lookByPlan 17 = .ok (.getfield 54, 3) := by decide +kernel
theorem dX10_lookByPlan_20 : decode cX10_lookByPlan 20 = .ok (.iload_n 3, 1) := by decide +kernel
theorem dX10_lookByPlan_21 : decode cX10_lookByPlan 21 = .ok (.iload_n 2, 1) := by decide +kernel
theorem dX10_lookByPlan_22 : decode cX10_lookByPlan 22 = .ok (.iload_n 3, 1) := by decide +kernel
theorem dX10_lookByPlan_23 : decode cX10_lookByPlan 23 = .ok (.invokestatic 189, 3) := by decide +kernel
theorem dX10_lookByPlan_26 : decode cX10_lookByPlan 26 = .ok (.ifCond .eq 12, 3) := by decide +kernel
theorem dX10_lookByPlan_29 : decode cX10_lookByPlan 29 = .ok (.aload_n 0, 1) := by decide +kernel
theorem dX10_lookByPlan_30 : decode cX10_lookByPlan 30 = .ok (.iload_n 1, 1) := by decide +kernel
theorem dX10_lookByPlan_31 : decode cX10_lookByPlan 31 = .ok (.iload_n 3, 1) := by decide +kernel
theorem dX10_lookByPlan_32 : decode cX10_lookByPlan 32 = .ok (.invokevirtual 208, 3) := by decide +kernel
theorem dX10_lookByPlan_35 : decode cX10_lookByPlan 35 = .ok (.goto 4, 3) := by decide +kernel
theorem dX10_lookByPlan_38 : decode cX10_lookByPlan 38 = .ok (.iconst 0, 1) := by decide +kernel
theorem dX10_lookByPlan_39 : decode cX10_lookByPlan 39 = .ok (.invokevirtual 376, 3) := by decide +kernel
theorem dX10_lookByPlan_42 : decode cX10_lookByPlan 42 = .ok (.iinc 3 1, 3) := by decide +kernel
theorem dX10_lookByPlan_45 : decode cX10_lookByPlan 45 = .ok (.goto (-35), 3) := by decide +kernel
theorem dX10_lookByPlan_48 : decode cX10_lookByPlan 48 = .ok (.return_, 1) := by decide +kernel
theorem dX10_joinMen_0 : decode cX10_joinMen 0 = .ok (.aload_n 0, 1) := by decide +kernel
theorem dX10_joinMen_1 : decode cX10_joinMen 1 = .ok (.invokevirtual 202, 3) := by decide +kernel
theorem dX10_joinMen_4 : decode cX10_joinMen 4 = .ok (.aload_n 0, 1) := by decide +kernel
theorem dX10_joinMen_5 : decode cX10_joinMen 5 = .ok (.getfield 50, 3) := by decide +kernel
theorem dX10_joinMen_8 : decode cX10_joinMen 8 = .ok (.aload_n 0, 1) := by decide +kernel
theorem dX10_joinMen_9 : decode cX10_joinMen 9 = .ok (.getfield 12, 3) := by decide +kernel
theorem dX10_joinMen_12 : decode cX10_joinMen 12 = .ok (.invokevirtual 162, 3) := by decide +kernel
theorem dX10_joinMen_15 : decode cX10_joinMen 15 = .ok (.invokevirtual 239, 3) := by decide +kernel
theorem dX10_joinMen_18 : decode cX10_joinMen 18 = .ok (.return_, 1) := by decide +kernel
theorem dX10_fitting_0 : decode cX10_fitting 0 = .ok (.aload_n 0, 1) := by decide +kernel
theorem dX10_fitting_1 : decode cX10_fitting 1 = .ok (.invokevirtual 202, 3) := by decide +kernel
theorem dX10_fitting_4 : decode cX10_fitting 4 = .ok (.aload_n 0, 1) := by decide +kernel
theorem dX10_fitting_5 : decode cX10_fitting 5 = .ok (.iload_n 1, 1) := by decide +kernel
theorem dX10_fitting_6 : decode cX10_fitting 6 = .ok (.invokevirtual 236, 3) := by decide +kernel
theorem dX10_fitting_9 : decode cX10_fitting 9 = .ok (.aload_n 0, 1) := by decide +kernel
theorem dX10_fitting_10 : decode cX10_fitting 10 = .ok (.getfield 12, 3) := by decide +kernel
theorem dX10_fitting_13 : decode cX10_fitting 13 = .ok (.invokevirtual 162, 3) := by decide +kernel
theorem dX10_fitting_16 : decode cX10_fitting 16 = .ok (.istore_n 2, 1) := by decide +kernel
theorem dX10_fitting_17 : decode cX10_fitting 17 = .ok (.aload_n 0, 1) := by decide +kernel
theorem dX10_fitting_18 : decode cX10_fitting 18 = .ok (.invokevirtual 186, 3) := by decide +kernel
theorem dX10_fitting_21 : decode cX10_fitting 21 = .ok (.aload_n 0, 1) := by decide +kernel
theorem dX10_fitting_22 : decode cX10_fitting 22 = .ok (.getfield 50, 3) := by decide +kernel
theorem dX10_fitting_25 : decode cX10_fitting 25 = .ok (.invokevirtual 377, 3) := by decide +kernel
theorem dX10_fitting_28 : decode cX10_fitting 28 = .ok (.iconst (-1), 1) := by decide +kernel
theorem dX10_fitting_29 : decode cX10_fitting 29 = .ok (.ixor, 1) := by decide +kernel
theorem dX10_fitting_30 : decode cX10_fitting 30 = .ok (.iand, 1) := by decide +kernel
theorem dX10_fitting_31 : decode cX10_fitting 31 = .ok (.istore_n 3, 1) := by decide +kernel
theorem dX10_fitting_32 : decode cX10_fitting 32 = .ok (.iconst 0, 1) := by decide +kernel
theorem dX10_fitting_33 : decode cX10_fitting 33 = .ok (.istore 4, 2) := by decide +kernel
theorem dX10_fitting_35 : decode cX10_fitting 35 = .ok (.iconst 0, 1) := by decide +kernel
theorem dX10_fitting_36 : decode cX10_fitting 36 = .ok (.istore 5, 2) := by decide +kernel
theorem dX10_fitting_38 : decode cX10_fitting 38 = .ok (.iload 5, 2) := by decide +kernel
theorem dX10_fitting_40 : decode cX10_fitting 40 = .ok (.bipush 25, 2) := by decide +kernel
theorem dX10_fitting_42 : decode cX10_fitting 42 = .ok (.if_icmp .ge 41, 3) := by decide +kernel
theorem dX10_fitting_45 : decode cX10_fitting 45 = .ok (.iload_n 3, 1) := by decide +kernel
theorem dX10_fitting_46 : decode cX10_fitting 46 = .ok (.iload 5, 2) := by decide +kernel
theorem dX10_fitting_48 : decode cX10_fitting 48 = .ok (.invokestatic 189, 3) := by decide +kernel
theorem dX10_fitting_51 : decode cX10_fitting 51 = .ok (.ifCond .eq 26, 3) := by decide +kernel
theorem dX10_fitting_54 : decode cX10_fitting 54 = .ok (.aload_n 0, 1) := by decide +kernel
theorem dX10_fitting_55 : decode cX10_fitting 55 = .ok (.getfield 54, 3) := by decide +kernel
theorem dX10_fitting_58 : decode cX10_fitting 58 = .ok (.iload 5, 2) := by decide +kernel
theorem dX10_fitting_60 : decode cX10_fitting 60 = .ok (.invokevirtual 298, 3) := by decide +kernel
theorem dX10_fitting_63 : decode cX10_fitting 63 = .ok (.iload_n 2, 1) := by decide +kernel
theorem dX10_fitting_64 : decode cX10_fitting 64 = .ok (.iand, 1) := by decide +kernel
theorem dX10_fitting_65 : decode cX10_fitting 65 = .ok (.ifCond .ne 12, 3) := by decide +kernel
theorem dX10_fitting_68 : decode cX10_fitting 68 = .ok (.iload 4, 2) := by decide +kernel
theorem dX10_fitting_70 : decode cX10_fitting 70 = .ok (.iconst 1, 1) := by decide +kernel
theorem dX10_fitting_71 : decode cX10_fitting 71 = .ok (.iload 5, 2) := by decide +kernel
theorem dX10_fitting_73 : decode cX10_fitting 73 = .ok (.ishl, 1) := by decide +kernel
theorem dX10_fitting_74 : decode cX10_fitting 74 = .ok (.ior, 1) := by decide +kernel
theorem dX10_fitting_75 : decode cX10_fitting 75 = .ok (.istore 4, 2) := by decide +kernel
theorem dX10_fitting_77 : decode cX10_fitting 77 = .ok (.iinc 5 1, 3) := by decide +kernel
theorem dX10_fitting_80 : decode cX10_fitting 80 = .ok (.goto (-42), 3) := by decide +kernel
theorem dX10_fitting_83 : decode cX10_fitting 83 = .ok (.iload 4, 2) := by decide +kernel
theorem dX10_fitting_85 : decode cX10_fitting 85 = .ok (.ireturn, 1) := by decide +kernel
theorem dX10_prepareRowSearch_0 : decode cX10_prepareRowSearch 0 = .ok (.aload_n 0, 1) := by decide +kernel
theorem dX10_prepareRowSearch_1 : decode cX10_prepareRowSearch 1 = .ok (.invokevirtual 154, 3) := by decide +kernel
theorem dX10_prepareRowSearch_4 : decode cX10_prepareRowSearch 4 = .ok (.astore_n 2, 1) := by decide +kernel
theorem dX10_prepareRowSearch_5 : decode cX10_prepareRowSearch 5 = .ok (.aload_n 0, 1) := by decide +kernel
theorem dX10_prepareRowSearch_6 : decode cX10_prepareRowSearch 6 = .ok (.iload_n 1, 1) := by decide +kernel
theorem dX10_prepareRowSearch_7 : decode cX10_prepareRowSearch 7 = .ok (.invokevirtual 236, 3) := by decide +kernel
theorem dX10_prepareRowSearch_10 : decode cX10_prepareRowSearch 10 = .ok (.aload_n 0, 1) := by decide +kernel
theorem dX10_prepareRowSearch_11 : decode cX10_prepareRowSearch 11 = .ok (.getfield 54, 3) := by decide +kernel
theorem dX10_prepareRowSearch_14 : decode cX10_prepareRowSearch 14 = .ok (.aload_n 2, 1) := by decide +kernel
theorem dX10_prepareRowSearch_15 : decode cX10_prepareRowSearch 15 = .ok (.invokevirtual 233, 3) := by decide +kernel
theorem dX10_prepareRowSearch_18 : decode cX10_prepareRowSearch 18 = .ok (.invokevirtual 239, 3) := by decide +kernel
theorem dX10_prepareRowSearch_21 : decode cX10_prepareRowSearch 21 = .ok (.aload_n 0, 1) := by decide +kernel
theorem dX10_prepareRowSearch_22 : decode cX10_prepareRowSearch 22 = .ok (.getfield 60, 3) := by decide +kernel
theorem dX10_prepareRowSearch_25 : decode cX10_prepareRowSearch 25 = .ok (.aload_n 2, 1) := by decide +kernel
theorem dX10_prepareRowSearch_26 : decode cX10_prepareRowSearch 26 = .ok (.getfield 158, 3) := by decide +kernel
theorem dX10_prepareRowSearch_29 : decode cX10_prepareRowSearch 29 = .ok (.aload_n 2, 1) := by decide +kernel
theorem dX10_prepareRowSearch_30 : decode cX10_prepareRowSearch 30 = .ok (.invokevirtual 233, 3) := by decide +kernel
theorem dX10_prepareRowSearch_33 : decode cX10_prepareRowSearch 33 = .ok (.aload_n 0, 1) := by decide +kernel
theorem dX10_prepareRowSearch_34 : decode cX10_prepareRowSearch 34 = .ok (.getfield 54, 3) := by decide +kernel
theorem dX10_prepareRowSearch_37 : decode cX10_prepareRowSearch 37 = .ok (.getfield 242, 3) := by decide +kernel
theorem dX10_prepareRowSearch_40 : decode cX10_prepareRowSearch 40 = .ok (.invokevirtual 380, 3) := by decide +kernel
theorem dX10_prepareRowSearch_43 : decode cX10_prepareRowSearch 43 = .ok (.return_, 1) := by decide +kernel
theorem dX10_looksSame_0 : decode cX10_looksSame 0 = .ok (.aload_n 0, 1) := by decide +kernel
theorem dX10_looksSame_1 : decode cX10_looksSame 1 = .ok (.getfield 12, 3) := by decide +kernel
theorem dX10_looksSame_4 : decode cX10_looksSame 4 = .ok (.invokevirtual 162, 3) := by decide +kernel
theorem dX10_looksSame_7 : decode cX10_looksSame 7 = .ok (.istore_n 2, 1) := by decide +kernel
theorem dX10_looksSame_8 : decode cX10_looksSame 8 = .ok (.aload_n 0, 1) := by decide +kernel
theorem dX10_looksSame_9 : decode cX10_looksSame 9 = .ok (.invokevirtual 154, 3) := by decide +kernel
theorem dX10_looksSame_12 : decode cX10_looksSame 12 = .ok (.iload_n 2, 1) := by decide +kernel
theorem dX10_looksSame_13 : decode cX10_looksSame 13 = .ok (.iload_n 1, 1) := by decide +kernel
theorem dX10_looksSame_14 : decode cX10_looksSame 14 = .ok (.invokevirtual 384, 3) := by decide +kernel
theorem dX10_looksSame_17 : decode cX10_looksSame 17 = .ok (.iload_n 2, 1) := by decide +kernel
theorem dX10_looksSame_18 : decode cX10_looksSame 18 = .ok (.if_icmp .ne 7, 3) := by decide +kernel
theorem dX10_looksSame_21 : decode cX10_looksSame 21 = .ok (.iconst 1, 1) := by decide +kernel
theorem dX10_looksSame_22 : decode cX10_looksSame 22 = .ok (.goto 4, 3) := by decide +kernel
theorem dX10_looksSame_25 : decode cX10_looksSame 25 = .ok (.iconst 0, 1) := by decide +kernel
theorem dX10_looksSame_26 : decode cX10_looksSame 26 = .ok (.ireturn, 1) := by decide +kernel
theorem dX10_makesSeenSo_0 : decode cX10_makesSeenSo 0 = .ok (.iconst 0, 1) := by decide +kernel
theorem dX10_makesSeenSo_1 : decode cX10_makesSeenSo 1 = .ok (.istore_n 2, 1) := by decide +kernel
theorem dX10_makesSeenSo_2 : decode cX10_makesSeenSo 2 = .ok (.iload_n 2, 1) := by decide +kernel
theorem dX10_makesSeenSo_3 : decode cX10_makesSeenSo 3 = .ok (.aload_n 0, 1) := by decide +kernel
theorem dX10_makesSeenSo_4 : decode cX10_makesSeenSo 4 = .ok (.getfield 12, 3) := by decide +kernel
theorem dX10_makesSeenSo_7 : decode cX10_makesSeenSo 7 = .ok (.getfield 292, 3) := by decide +kernel
theorem dX10_makesSeenSo_10 : decode cX10_makesSeenSo 10 = .ok (.getfield 116, 3) := by decide +kernel
theorem dX10_makesSeenSo_13 : decode cX10_makesSeenSo 13 = .ok (.if_icmp .ge 63, 3) := by decide +kernel
theorem dX10_makesSeenSo_16 : decode cX10_makesSeenSo 16 = .ok (.aload_n 0, 1) := by decide +kernel
theorem dX10_makesSeenSo_17 : decode cX10_makesSeenSo 17 = .ok (.getfield 12, 3) := by decide +kernel
theorem dX10_makesSeenSo_20 : decode cX10_makesSeenSo 20 = .ok (.getfield 292, 3) := by decide +kernel
theorem dX10_makesSeenSo_23 : decode cX10_makesSeenSo 23 = .ok (.iload_n 2, 1) := by decide +kernel
theorem dX10_makesSeenSo_24 : decode cX10_makesSeenSo 24 = .ok (.invokevirtual 122, 3) := by decide +kernel
theorem dX10_makesSeenSo_27 : decode cX10_makesSeenSo 27 = .ok (.istore_n 3, 1) := by decide +kernel
theorem dX10_makesSeenSo_28 : decode cX10_makesSeenSo 28 = .ok (.aload_n 0, 1) := by decide +kernel
theorem dX10_makesSeenSo_29 : decode cX10_makesSeenSo 29 = .ok (.getfield 50, 3) := by decide +kernel
theorem dX10_makesSeenSo_32 : decode cX10_makesSeenSo 32 = .ok (.iload_n 3, 1) := by decide +kernel
theorem dX10_makesSeenSo_33 : decode cX10_makesSeenSo 33 = .ok (.invokevirtual 205, 3) := by decide +kernel
theorem dX10_makesSeenSo_36 : decode cX10_makesSeenSo 36 = .ok (.iload_n 1, 1) := by decide +kernel
theorem dX10_makesSeenSo_37 : decode cX10_makesSeenSo 37 = .ok (.iload_n 3, 1) := by decide +kernel
theorem dX10_makesSeenSo_38 : decode cX10_makesSeenSo 38 = .ok (.invokestatic 189, 3) := by decide +kernel
theorem dX10_makesSeenSo_41 : decode cX10_makesSeenSo 41 = .ok (.ifCond .eq 7, 3) := by decide +kernel
theorem dX10_makesSeenSo_44 : decode cX10_makesSeenSo 44 = .ok (.iconst 1, 1) := by decide +kernel
theorem dX10_makesSeenSo_45 : decode cX10_makesSeenSo 45 = .ok (.goto 4, 3) := by decide +kernel
theorem dX10_makesSeenSo_48 : decode cX10_makesSeenSo 48 = .ok (.iconst 0, 1) := by decide +kernel
theorem dX10_makesSeenSo_49 : decode cX10_makesSeenSo 49 = .ok (.iadd, 1) := by decide +kernel
theorem dX10_makesSeenSo_50 : decode cX10_makesSeenSo 50 = .ok (.istore 4, 2) := by decide +kernel
theorem dX10_makesSeenSo_52 : decode cX10_makesSeenSo 52 = .ok (.iload 4, 2) := by decide +kernel
theorem dX10_makesSeenSo_54 : decode cX10_makesSeenSo 54 = .ok (.aload_n 0, 1) := by decide +kernel
theorem dX10_makesSeenSo_55 : decode cX10_makesSeenSo 55 = .ok (.getfield 12, 3) := by decide +kernel
theorem dX10_makesSeenSo_58 : decode cX10_makesSeenSo 58 = .ok (.getfield 295, 3) := by decide +kernel
theorem dX10_makesSeenSo_61 : decode cX10_makesSeenSo 61 = .ok (.iload_n 2, 1) := by decide +kernel
theorem dX10_makesSeenSo_62 : decode cX10_makesSeenSo 62 = .ok (.invokevirtual 122, 3) := by decide +kernel
theorem dX10_makesSeenSo_65 : decode cX10_makesSeenSo 65 = .ok (.if_icmp .eq 5, 3) := by decide +kernel
theorem dX10_makesSeenSo_68 : decode cX10_makesSeenSo 68 = .ok (.iconst 0, 1) := by decide +kernel
theorem dX10_makesSeenSo_69 : decode cX10_makesSeenSo 69 = .ok (.ireturn, 1) := by decide +kernel
theorem dX10_makesSeenSo_70 : decode cX10_makesSeenSo 70 = .ok (.iinc 2 1, 3) := by decide +kernel
theorem dX10_makesSeenSo_73 : decode cX10_makesSeenSo 73 = .ok (.goto (-71), 3) := by decide +kernel
theorem dX10_makesSeenSo_76 : decode cX10_makesSeenSo 76 = .ok (.iconst 1, 1) := by decide +kernel
theorem dX10_makesSeenSo_77 : decode cX10_makesSeenSo 77 = .ok (.ireturn, 1) := by decide +kernel
theorem dX10_judged_0 : decode cX10_judged 0 = .ok (.aload_n 0, 1) := by decide +kernel
theorem dX10_judged_1 : decode cX10_judged 1 = .ok (.invokevirtual 154, 3) := by decide +kernel
theorem dX10_judged_4 : decode cX10_judged 4 = .ok (.getfield 158, 3) := by decide +kernel
theorem dX10_judged_7 : decode cX10_judged 7 = .ok (.aload_n 0, 1) := by decide +kernel
theorem dX10_judged_8 : decode cX10_judged 8 = .ok (.invokevirtual 154, 3) := by decide +kernel
theorem dX10_judged_11 : decode cX10_judged 11 = .ok (.getfield 158, 3) := by decide +kernel
theorem dX10_judged_14 : decode cX10_judged 14 = .ok (.imul, 1) := by decide +kernel
theorem dX10_judged_15 : decode cX10_judged 15 = .ok (.istore_n 3, 1) := by decide +kernel
theorem dX10_judged_16 : decode cX10_judged 16 = .ok (.iconst 0, 1) := by decide +kernel
theorem dX10_judged_17 : decode cX10_judged 17 = .ok (.istore 4, 2) := by decide +kernel
theorem dX10_judged_19 : decode cX10_judged 19 = .ok (.iload 4, 2) := by decide +kernel
theorem dX10_judged_21 : decode cX10_judged 21 = .ok (.iload_n 3, 1) := by decide +kernel
theorem dX10_judged_22 : decode cX10_judged 22 = .ok (.if_icmp .ge 89, 3) := by decide +kernel
theorem dX10_judged_25 : decode cX10_judged 25 = .ok (.iload_n 2, 1) := by decide +kernel
theorem dX10_judged_26 : decode cX10_judged 26 = .ok (.ifCond .lt 24, 3) := by decide +kernel
theorem dX10_judged_29 : decode cX10_judged 29 = .ok (.iload_n 2, 1) := by decide +kernel
theorem dX10_judged_30 : decode cX10_judged 30 = .ok (.bipush 60, 2) := by decide +kernel
theorem dX10_judged_32 : decode cX10_judged 32 = .ok (.if_icmp .ge 18, 3) := by decide +kernel
theorem dX10_judged_35 : decode cX10_judged 35 = .ok (.aload_n 0, 1) := by decide +kernel
theorem dX10_judged_36 : decode cX10_judged 36 = .ok (.getfield 88, 3) := by decide +kernel
theorem dX10_judged_39 : decode cX10_judged 39 = .ok (.iload_n 1, 1) := by decide +kernel
theorem dX10_judged_40 : decode cX10_judged 40 = .ok (.iload_n 2, 1) := by decide +kernel
theorem dX10_judged_41 : decode cX10_judged 41 = .ok (.iload 4, 2) := by decide +kernel
theorem dX10_judged_43 : decode cX10_judged 43 = .ok (.iadd, 1) := by decide +kernel
theorem dX10_judged_44 : decode cX10_judged 44 = .ok (.invokevirtual 352, 3) := by decide +kernel
theorem dX10_judged_47 : decode cX10_judged 47 = .ok (.ifCond .ne 9, 3) := by decide +kernel
theorem dX10_judged_50 : decode cX10_judged 50 = .ok (.bipush 100, 2) := by decide +kernel
theorem dX10_judged_52 : decode cX10_judged 52 = .ok (.iload 4, 2) := by decide +kernel
theorem dX10_judged_54 : decode cX10_judged 54 = .ok (.iadd, 1) := by decide +kernel
theorem dX10_judged_55 : decode cX10_judged 55 = .ok (.ireturn, 1) := by decide +kernel
theorem dX10_judged_56 : decode cX10_judged 56 = .ok (.aload_n 0, 1) := by decide +kernel
theorem dX10_judged_57 : decode cX10_judged 57 = .ok (.getfield 12, 3) := by decide +kernel
theorem dX10_judged_60 : decode cX10_judged 60 = .ok (.iload 4, 2) := by decide +kernel
theorem dX10_judged_62 : decode cX10_judged 62 = .ok (.invokevirtual 199, 3) := by decide +kernel
theorem dX10_judged_65 : decode cX10_judged 65 = .ok (.ifCond .lt 7, 3) := by decide +kernel
theorem dX10_judged_68 : decode cX10_judged 68 = .ok (.iconst 1, 1) := by decide +kernel
theorem dX10_judged_69 : decode cX10_judged 69 = .ok (.goto 4, 3) := by decide +kernel
theorem dX10_judged_72 : decode cX10_judged 72 = .ok (.iconst 0, 1) := by decide +kernel
theorem dX10_judged_73 : decode cX10_judged 73 = .ok (.istore 5, 2) := by decide +kernel
theorem dX10_judged_75 : decode cX10_judged 75 = .ok (.iload 5, 2) := by decide +kernel
theorem dX10_judged_77 : decode cX10_judged 77 = .ok (.aload_n 0, 1) := by decide +kernel
theorem dX10_judged_78 : decode cX10_judged 78 = .ok (.getfield 88, 3) := by decide +kernel
theorem dX10_judged_81 : decode cX10_judged 81 = .ok (.iload_n 1, 1) := by decide +kernel
theorem dX10_judged_82 : decode cX10_judged 82 = .ok (.iload_n 2, 1) := by decide +kernel
theorem dX10_judged_83 : decode cX10_judged 83 = .ok (.iload 4, 2) := by decide +kernel
theorem dX10_judged_85 : decode cX10_judged 85 = .ok (.iadd, 1) := by decide +kernel
theorem dX10_judged_86 : decode cX10_judged 86 = .ok (.invokevirtual 358, 3) := by decide +kernel
theorem dX10_judged_89 : decode cX10_judged 89 = .ok (.lconst 0, 1) := by decide +kernel
theorem dX10_judged_90 : decode cX10_judged 90 = .ok (.lcmp, 1) := by decide +kernel
theorem dX10_judged_91 : decode cX10_judged 91 = .ok (.ifCond .eq 7, 3) := by decide +kernel
theorem dX10_judged_94 : decode cX10_judged 94 = .ok (.iconst 1, 1) := by decide +kernel
theorem dX10_judged_95 : decode cX10_judged 95 = .ok (.goto 4, 3) := by decide +kernel
theorem dX10_judged_98 : decode cX10_judged 98 = .ok (.iconst 0, 1) := by decide +kernel
theorem dX10_judged_99 : decode cX10_judged 99 = .ok (.if_icmp .eq 6, 3) := by decide +kernel
theorem dX10_judged_102 : decode cX10_judged 102 = .ok (.iload 4, 2) := by decide +kernel
theorem dX10_judged_104 : decode cX10_judged 104 = .ok (.ireturn, 1) := by decide +kernel
theorem dX10_judged_105 : decode cX10_judged 105 = .ok (.iinc 4 1, 3) := by decide +kernel
theorem dX10_judged_108 : decode cX10_judged 108 = .ok (.goto (-89), 3) := by decide +kernel
theorem dX10_judged_111 : decode cX10_judged 111 = .ok (.bipush (-5), 2) := by decide +kernel
theorem dX10_judged_113 : decode cX10_judged 113 = .ok (.ireturn, 1) := by decide +kernel
theorem dX10_fraction_0 : decode cX10_fraction 0 = .ok (.iload_n 1, 1) := by decide +kernel
theorem dX10_fraction_1 : decode cX10_fraction 1 = .ok (.iconst 1, 1) := by decide +kernel
theorem dX10_fraction_2 : decode cX10_fraction 2 = .ok (.if_icmp .lt 12, 3) := by decide +kernel
theorem dX10_fraction_5 : decode cX10_fraction 5 = .ok (.iload_n 2, 1) := by decide +kernel
theorem dX10_fraction_6 : decode cX10_fraction 6 = .ok (.ifCond .lt 8, 3) := by decide +kernel
theorem dX10_fraction_9 : decode cX10_fraction 9 = .ok (.iload_n 2, 1) := by decide +kernel
theorem dX10_fraction_10 : decode cX10_fraction 10 = .ok (.iconst 1, 1) := by decide +kernel
theorem dX10_fraction_11 : decode cX10_fraction 11 = .ok (.if_icmp .le 7, 3) := by decide +kernel
theorem dX10_fraction_14 : decode cX10_fraction 14 = .ok (.ldc2_w 304, 3) := by decide +kernel
theorem dX10_fraction_17 : decode cX10_fraction 17 = .ok (.lreturn, 1) := by decide +kernel
theorem dX10_fraction_18 : decode cX10_fraction 18 = .ok (.iload_n 1, 1) := by decide +kernel
theorem dX10_fraction_19 : decode cX10_fraction 19 = .ok (.istore_n 3, 1) := by decide +kernel
theorem dX10_fraction_20 : decode cX10_fraction 20 = .ok (.iload_n 0, 1) := by decide +kernel
theorem dX10_fraction_21 : decode cX10_fraction 21 = .ok (.istore 4, 2) := by decide +kernel
theorem dX10_fraction_23 : decode cX10_fraction 23 = .ok (.iconst 0, 1) := by decide +kernel
theorem dX10_fraction_24 : decode cX10_fraction 24 = .ok (.istore 5, 2) := by decide +kernel
theorem dX10_fraction_26 : decode cX10_fraction 26 = .ok (.iload 5, 2) := by decide +kernel
theorem dX10_fraction_28 : decode cX10_fraction 28 = .ok (.bipush 64, 2) := by decide +kernel
theorem dX10_fraction_30 : decode cX10_fraction 30 = .ok (.if_icmp .ge 27, 3) := by decide +kernel
theorem dX10_fraction_33 : decode cX10_fraction 33 = .ok (.iload 4, 2) := by decide +kernel
theorem dX10_fraction_35 : decode cX10_fraction 35 = .ok (.ifCond .eq 22, 3) := by decide +kernel
theorem dX10_fraction_38 : decode cX10_fraction 38 = .ok (.iload_n 3, 1) := by decide +kernel
theorem dX10_fraction_39 : decode cX10_fraction 39 = .ok (.iload 4, 2) := by decide +kernel
theorem dX10_fraction_41 : decode cX10_fraction 41 = .ok (.irem, 1) := by decide +kernel
theorem dX10_fraction_42 : decode cX10_fraction 42 = .ok (.istore 6, 2) := by decide +kernel
theorem dX10_fraction_44 : decode cX10_fraction 44 = .ok (.iload 4, 2) := by decide +kernel
theorem dX10_fraction_46 : decode cX10_fraction 46 = .ok (.istore_n 3, 1) := by decide +kernel
theorem dX10_fraction_47 : decode cX10_fraction 47 = .ok (.iload 6, 2) := by decide +kernel
theorem dX10_fraction_49 : decode cX10_fraction 49 = .ok (.istore 4, 2) := by decide +kernel
theorem dX10_fraction_51 : decode cX10_fraction 51 = .ok (.iinc 5 1, 3) := by decide +kernel
theorem dX10_fraction_54 : decode cX10_fraction 54 = .ok (.goto (-28), 3) := by decide +kernel
theorem dX10_fraction_57 : decode cX10_fraction 57 = .ok (.iload_n 3, 1) := by decide +kernel
theorem dX10_fraction_58 : decode cX10_fraction 58 = .ok (.iconst 1, 1) := by decide +kernel
theorem dX10_fraction_59 : decode cX10_fraction 59 = .ok (.if_icmp .ge 7, 3) := by decide +kernel
theorem dX10_fraction_62 : decode cX10_fraction 62 = .ok (.ldc2_w 304, 3) := by decide +kernel
theorem dX10_fraction_65 : decode cX10_fraction 65 = .ok (.lreturn, 1) := by decide +kernel
theorem dX10_fraction_66 : decode cX10_fraction 66 = .ok (.iload_n 2, 1) := by decide +kernel
theorem dX10_fraction_67 : decode cX10_fraction 67 = .ok (.ifCond .ne 10, 3) := by decide +kernel
theorem dX10_fraction_70 : decode cX10_fraction 70 = .ok (.iload_n 0, 1) := by decide +kernel
theorem dX10_fraction_71 : decode cX10_fraction 71 = .ok (.iload_n 3, 1) := by decide +kernel
theorem dX10_fraction_72 : decode cX10_fraction 72 = .ok (.idiv, 1) := by decide +kernel
theorem dX10_fraction_73 : decode cX10_fraction 73 = .ok (.i2l, 1) := by decide +kernel
theorem dX10_fraction_74 : decode cX10_fraction 74 = .ok (.goto 7, 3) := by decide +kernel
theorem dX10_fraction_77 : decode cX10_fraction 77 = .ok (.iload_n 1, 1) := by decide +kernel
theorem dX10_fraction_78 : decode cX10_fraction 78 = .ok (.iload_n 3, 1) := by decide +kernel
theorem dX10_fraction_79 : decode cX10_fraction 79 = .ok (.idiv, 1) := by decide +kernel
theorem dX10_fraction_80 : decode cX10_fraction 80 = .ok (.i2l, 1) := by decide +kernel
theorem dX10_fraction_81 : decode cX10_fraction 81 = .ok (.lreturn, 1) := by decide +kernel
theorem dX10_mostApart_0 : decode cX10_mostApart 0 = .ok (.iload_n 1, 1) := by decide +kernel
theorem dX10_mostApart_1 : decode cX10_mostApart 1 = .ok (.istore_n 3, 1) := by decide +kernel
theorem dX10_mostApart_2 : decode cX10_mostApart 2 = .ok (.iconst 0, 1) := by decide +kernel
theorem dX10_mostApart_3 : decode cX10_mostApart 3 = .ok (.istore 4, 2) := by decide +kernel
theorem dX10_mostApart_5 : decode cX10_mostApart 5 = .ok (.iconst 0, 1) := by decide +kernel
theorem dX10_mostApart_6 : decode cX10_mostApart 6 = .ok (.istore 5, 2) := by decide +kernel
theorem dX10_mostApart_8 : decode cX10_mostApart 8 = .ok (.iload 5, 2) := by decide +kernel
theorem dX10_mostApart_10 : decode cX10_mostApart 10 = .ok (.bipush 25, 2) := by decide +kernel
theorem dX10_mostApart_12 : decode cX10_mostApart 12 = .ok (.if_icmp .ge 62, 3) := by decide +kernel
theorem dX10_mostApart_15 : decode cX10_mostApart 15 = .ok (.iload_n 3, 1) := by decide +kernel
theorem dX10_mostApart_16 : decode cX10_mostApart 16 = .ok (.ifCond .eq 58, 3) := by decide +kernel
theorem dX10_mostApart_19 : decode cX10_mostApart 19 = .ok (.aload_n 0, 1) := by decide +kernel
theorem dX10_mostApart_20 : decode cX10_mostApart 20 = .ok (.iload_n 3, 1) := by decide +kernel
theorem dX10_mostApart_21 : decode cX10_mostApart 21 = .ok (.invokestatic 387, 3) := by decide +kernel
theorem dX10_mostApart_24 : decode cX10_mostApart 24 = .ok (.istore 6, 2) := by decide +kernel
theorem dX10_mostApart_26 : decode cX10_mostApart 26 = .ok (.iload_n 3, 1) := by decide +kernel
theorem dX10_mostApart_27 : decode cX10_mostApart 27 = .ok (.iload 6, 2) := by decide +kernel
theorem dX10_mostApart_29 : decode cX10_mostApart 29 = .ok (.invokestatic 189, 3) := by decide +kernel
theorem dX10_mostApart_32 : decode cX10_mostApart 32 = .ok (.ifCond .eq 42, 3) := by decide +kernel
theorem dX10_mostApart_35 : decode cX10_mostApart 35 = .ok (.aload_n 0, 1) := by decide +kernel
theorem dX10_mostApart_36 : decode cX10_mostApart 36 = .ok (.iload 6, 2) := by decide +kernel
theorem dX10_mostApart_38 : decode cX10_mostApart 38 = .ok (.iaload, 1) := by decide +kernel
theorem dX10_mostApart_39 : decode cX10_mostApart 39 = .ok (.iload_n 3, 1) := by decide +kernel
theorem dX10_mostApart_40 : decode cX10_mostApart 40 = .ok (.iand, 1) := by decide +kernel
theorem dX10_mostApart_41 : decode cX10_mostApart 41 = .ok (.invokestatic 166, 3) := by decide +kernel
theorem dX10_mostApart_44 : decode cX10_mostApart 44 = .ok (.iconst 1, 1) := by decide +kernel
theorem dX10_mostApart_45 : decode cX10_mostApart 45 = .ok (.if_icmp .le 6, 3) := by decide +kernel
theorem dX10_mostApart_48 : decode cX10_mostApart 48 = .ok (.goto 26, 3) := by decide +kernel
theorem dX10_mostApart_51 : decode cX10_mostApart 51 = .ok (.iinc 4 1, 3) := by decide +kernel
theorem dX10_mostApart_54 : decode cX10_mostApart 54 = .ok (.iload_n 3, 1) := by decide +kernel
theorem dX10_mostApart_55 : decode cX10_mostApart 55 = .ok (.aload_n 0, 1) := by decide +kernel
theorem dX10_mostApart_56 : decode cX10_mostApart 56 = .ok (.iload 6, 2) := by decide +kernel
theorem dX10_mostApart_58 : decode cX10_mostApart 58 = .ok (.iaload, 1) := by decide +kernel
theorem dX10_mostApart_59 : decode cX10_mostApart 59 = .ok (.iconst 1, 1) := by decide +kernel
theorem dX10_mostApart_60 : decode cX10_mostApart 60 = .ok (.iload 6, 2) := by decide +kernel
theorem dX10_mostApart_62 : decode cX10_mostApart 62 = .ok (.ishl, 1) := by decide +kernel
theorem dX10_mostApart_63 : decode cX10_mostApart 63 = .ok (.ior, 1) := by decide +kernel
theorem dX10_mostApart_64 : decode cX10_mostApart 64 = .ok (.iconst (-1), 1) := by decide +kernel
theorem dX10_mostApart_65 : decode cX10_mostApart 65 = .ok (.ixor, 1) := by decide +kernel
theorem dX10_mostApart_66 : decode cX10_mostApart 66 = .ok (.iand, 1) := by decide +kernel
theorem dX10_mostApart_67 : decode cX10_mostApart 67 = .ok (.istore_n 3, 1) := by decide +kernel
theorem dX10_mostApart_68 : decode cX10_mostApart 68 = .ok (.iinc 5 1, 3) := by decide +kernel
theorem dX10_mostApart_71 : decode cX10_mostApart 71 = .ok (.goto (-63), 3) := by decide +kernel
theorem dX10_mostApart_74 : decode cX10_mostApart 74 = .ok (.aload_n 0, 1) := by decide +kernel
theorem dX10_mostApart_75 : decode cX10_mostApart 75 = .ok (.iload_n 3, 1) := by decide +kernel
theorem dX10_mostApart_76 : decode cX10_mostApart 76 = .ok (.invokestatic 391, 3) := by decide +kernel
theorem dX10_mostApart_79 : decode cX10_mostApart 79 = .ok (.istore 5, 2) := by decide +kernel
theorem dX10_mostApart_81 : decode cX10_mostApart 81 = .ok (.iload_n 3, 1) := by decide +kernel
theorem dX10_mostApart_82 : decode cX10_mostApart 82 = .ok (.iload 5, 2) := by decide +kernel
theorem dX10_mostApart_84 : decode cX10_mostApart 84 = .ok (.invokestatic 189, 3) := by decide +kernel
theorem dX10_mostApart_87 : decode cX10_mostApart 87 = .ok (.ifCond .eq 9, 3) := by decide +kernel
theorem dX10_mostApart_90 : decode cX10_mostApart 90 = .ok (.iload_n 2, 1) := by decide +kernel
theorem dX10_mostApart_91 : decode cX10_mostApart 91 = .ok (.bipush 25, 2) := by decide +kernel
theorem dX10_mostApart_93 : decode cX10_mostApart 93 = .ok (.if_icmp .le 6, 3) := by decide +kernel
theorem dX10_mostApart_96 : decode cX10_mostApart 96 = .ok (.iload 4, 2) := by decide +kernel
theorem dX10_mostApart_98 : decode cX10_mostApart 98 = .ok (.ireturn, 1) := by decide +kernel
theorem dX10_mostApart_99 : decode cX10_mostApart 99 = .ok (.iconst 1, 1) := by decide +kernel
theorem dX10_mostApart_100 : decode cX10_mostApart 100 = .ok (.aload_n 0, 1) := by decide +kernel
theorem dX10_mostApart_101 : decode cX10_mostApart 101 = .ok (.iload_n 3, 1) := by decide +kernel
theorem dX10_mostApart_102 : decode cX10_mostApart 102 = .ok (.aload_n 0, 1) := by decide +kernel
theorem dX10_mostApart_103 : decode cX10_mostApart 103 = .ok (.iload 5, 2) := by decide +kernel
theorem dX10_mostApart_105 : decode cX10_mostApart 105 = .ok (.iaload, 1) := by decide +kernel
theorem dX10_mostApart_106 : decode cX10_mostApart 106 = .ok (.iconst 1, 1) := by decide +kernel
theorem dX10_mostApart_107 : decode cX10_mostApart 107 = .ok (.iload 5, 2) := by decide +kernel
theorem dX10_mostApart_109 : decode cX10_mostApart 109 = .ok (.ishl, 1) := by decide +kernel
theorem dX10_mostApart_110 : decode cX10_mostApart 110 = .ok (.ior, 1) := by decide +kernel
theorem dX10_mostApart_111 : decode cX10_mostApart 111 = .ok (.iconst (-1), 1) := by decide +kernel
theorem dX10_mostApart_112 : decode cX10_mostApart 112 = .ok (.ixor, 1) := by decide +kernel
theorem dX10_mostApart_113 : decode cX10_mostApart 113 = .ok (.iand, 1) := by decide +kernel
theorem dX10_mostApart_114 : decode cX10_mostApart 114 = .ok (.iload_n 2, 1) := by decide +kernel
theorem dX10_mostApart_115 : decode cX10_mostApart 115 = .ok (.iconst 1, 1) := by decide +kernel
theorem dX10_mostApart_116 : decode cX10_mostApart 116 = .ok (.iadd, 1) := by decide +kernel
theorem dX10_mostApart_117 : decode cX10_mostApart 117 = .ok (.invokestatic 246, 3) := by decide +kernel
theorem dX10_mostApart_120 : decode cX10_mostApart 120 = .ok (.iadd, 1) := by decide +kernel
theorem dX10_mostApart_121 : decode cX10_mostApart 121 = .ok (.istore 6, 2) := by decide +kernel
theorem dX10_mostApart_123 : decode cX10_mostApart 123 = .ok (.aload_n 0, 1) := by decide +kernel
theorem dX10_mostApart_124 : decode cX10_mostApart 124 = .ok (.iload_n 3, 1) := by decide +kernel
theorem dX10_mostApart_125 : decode cX10_mostApart 125 = .ok (.iconst 1, 1) := by decide +kernel
theorem dX10_mostApart_126 : decode cX10_mostApart 126 = .ok (.iload 5, 2) := by decide +kernel
theorem dX10_mostApart_128 : decode cX10_mostApart 128 = .ok (.ishl, 1) := by decide +kernel
theorem dX10_mostApart_129 : decode cX10_mostApart 129 = .ok (.iconst (-1), 1) := by decide +kernel
theorem dX10_mostApart_130 : decode cX10_mostApart 130 = .ok (.ixor, 1) := by decide +kernel
theorem dX10_mostApart_131 : decode cX10_mostApart 131 = .ok (.iand, 1) := by decide +kernel
theorem dX10_mostApart_132 : decode cX10_mostApart 132 = .ok (.iload_n 2, 1) := by decide +kernel
theorem dX10_mostApart_133 : decode cX10_mostApart 133 = .ok (.iconst 1, 1) := by decide +kernel
theorem dX10_mostApart_134 : decode cX10_mostApart 134 = .ok (.iadd, 1) := by decide +kernel
theorem dX10_mostApart_135 : decode cX10_mostApart 135 = .ok (.invokestatic 246, 3) := by decide +kernel
theorem dX10_mostApart_138 : decode cX10_mostApart 138 = .ok (.istore 7, 2) := by decide +kernel
theorem dX10_mostApart_140 : decode cX10_mostApart 140 = .ok (.iload 4, 2) := by decide +kernel
theorem dX10_mostApart_142 : decode cX10_mostApart 142 = .ok (.iload 6, 2) := by decide +kernel
theorem dX10_mostApart_144 : decode cX10_mostApart 144 = .ok (.iload 7, 2) := by decide +kernel
theorem dX10_mostApart_146 : decode cX10_mostApart 146 = .ok (.invokestatic 394, 3) := by decide +kernel
theorem dX10_mostApart_149 : decode cX10_mostApart 149 = .ok (.iadd, 1) := by decide +kernel
theorem dX10_mostApart_150 : decode cX10_mostApart 150 = .ok (.ireturn, 1) := by decide +kernel
theorem dX10_leastLinked_0 : decode cX10_leastLinked 0 = .ok (.iconst (-1), 1) := by decide +kernel
theorem dX10_leastLinked_1 : decode cX10_leastLinked 1 = .ok (.istore_n 2, 1) := by decide +kernel
theorem dX10_leastLinked_2 : decode cX10_leastLinked 2 = .ok (.bipush 26, 2) := by decide +kernel
theorem dX10_leastLinked_4 : decode cX10_leastLinked 4 = .ok (.istore_n 3, 1) := by decide +kernel
theorem dX10_leastLinked_5 : decode cX10_leastLinked 5 = .ok (.iconst 0, 1) := by decide +kernel
theorem dX10_leastLinked_6 : decode cX10_leastLinked 6 = .ok (.istore 4, 2) := by decide +kernel
theorem dX10_leastLinked_8 : decode cX10_leastLinked 8 = .ok (.iload 4, 2) := by decide +kernel
theorem dX10_leastLinked_10 : decode cX10_leastLinked 10 = .ok (.aload_n 0, 1) := by decide +kernel
theorem dX10_leastLinked_11 : decode cX10_leastLinked 11 = .ok (.arraylength, 1) := by decide +kernel
theorem dX10_leastLinked_12 : decode cX10_leastLinked 12 = .ok (.if_icmp .ge 44, 3) := by decide +kernel
theorem dX10_leastLinked_15 : decode cX10_leastLinked 15 = .ok (.iload_n 1, 1) := by decide +kernel
theorem dX10_leastLinked_16 : decode cX10_leastLinked 16 = .ok (.iload 4, 2) := by decide +kernel
theorem dX10_leastLinked_18 : decode cX10_leastLinked 18 = .ok (.invokestatic 189, 3) := by decide +kernel
theorem dX10_leastLinked_21 : decode cX10_leastLinked 21 = .ok (.ifCond .eq 29, 3) := by decide +kernel
theorem dX10_leastLinked_24 : decode cX10_leastLinked 24 = .ok (.aload_n 0, 1) := by decide +kernel
theorem dX10_leastLinked_25 : decode cX10_leastLinked 25 = .ok (.iload 4, 2) := by decide +kernel
theorem dX10_leastLinked_27 : decode cX10_leastLinked 27 = .ok (.iaload, 1) := by decide +kernel
theorem dX10_leastLinked_28 : decode cX10_leastLinked 28 = .ok (.iload_n 1, 1) := by decide +kernel
theorem dX10_leastLinked_29 : decode cX10_leastLinked 29 = .ok (.iand, 1) := by decide +kernel
theorem dX10_leastLinked_30 : decode cX10_leastLinked 30 = .ok (.invokestatic 166, 3) := by decide +kernel
theorem dX10_leastLinked_33 : decode cX10_leastLinked 33 = .ok (.iload_n 3, 1) := by decide +kernel
theorem dX10_leastLinked_34 : decode cX10_leastLinked 34 = .ok (.if_icmp .ge 16, 3) := by decide +kernel
theorem dX10_leastLinked_37 : decode cX10_leastLinked 37 = .ok (.aload_n 0, 1) := by decide +kernel
theorem dX10_leastLinked_38 : decode cX10_leastLinked 38 = .ok (.iload 4, 2) := by decide +kernel
theorem dX10_leastLinked_40 : decode cX10_leastLinked 40 = .ok (.iaload, 1) := by decide +kernel
theorem dX10_leastLinked_41 : decode cX10_leastLinked 41 = .ok (.iload_n 1, 1) := by decide +kernel
theorem dX10_leastLinked_42 : decode cX10_leastLinked 42 = .ok (.iand, 1) := by decide +kernel
theorem dX10_leastLinked_43 : decode cX10_leastLinked 43 = .ok (.invokestatic 166, 3) := by decide +kernel
theorem dX10_leastLinked_46 : decode cX10_leastLinked 46 = .ok (.istore_n 3, 1) := by decide +kernel
theorem dX10_leastLinked_47 : decode cX10_leastLinked 47 = .ok (.iload 4, 2) := by decide +kernel
theorem dX10_leastLinked_49 : decode cX10_leastLinked 49 = .ok (.istore_n 2, 1) := by decide +kernel
theorem dX10_leastLinked_50 : decode cX10_leastLinked 50 = .ok (.iinc 4 1, 3) := by decide +kernel
theorem dX10_leastLinked_53 : decode cX10_leastLinked 53 = .ok (.goto (-45), 3) := by decide +kernel
theorem dX10_leastLinked_56 : decode cX10_leastLinked 56 = .ok (.iload_n 2, 1) := by decide +kernel
theorem dX10_leastLinked_57 : decode cX10_leastLinked 57 = .ok (.ireturn, 1) := by decide +kernel
theorem dX10_mostLinked_0 : decode cX10_mostLinked 0 = .ok (.iconst (-1), 1) := by decide +kernel
theorem dX10_mostLinked_1 : decode cX10_mostLinked 1 = .ok (.istore_n 2, 1) := by decide +kernel
theorem dX10_mostLinked_2 : decode cX10_mostLinked 2 = .ok (.iconst (-1), 1) := by decide +kernel
theorem dX10_mostLinked_3 : decode cX10_mostLinked 3 = .ok (.istore_n 3, 1) := by decide +kernel
theorem dX10_mostLinked_4 : decode cX10_mostLinked 4 = .ok (.iconst 0, 1) := by decide +kernel
theorem dX10_mostLinked_5 : decode cX10_mostLinked 5 = .ok (.istore 4, 2) := by decide +kernel
theorem dX10_mostLinked_7 : decode cX10_mostLinked 7 = .ok (.iload 4, 2) := by decide +kernel
theorem dX10_mostLinked_9 : decode cX10_mostLinked 9 = .ok (.aload_n 0, 1) := by decide +kernel
theorem dX10_mostLinked_10 : decode cX10_mostLinked 10 = .ok (.arraylength, 1) := by decide +kernel
theorem dX10_mostLinked_11 : decode cX10_mostLinked 11 = .ok (.if_icmp .ge 44, 3) := by decide +kernel
theorem dX10_mostLinked_14 : decode cX10_mostLinked 14 = .ok (.iload_n 1, 1) := by decide +kernel
theorem dX10_mostLinked_15 : decode cX10_mostLinked 15 = .ok (.iload 4, 2) := by decide +kernel
theorem dX10_mostLinked_17 : decode cX10_mostLinked 17 = .ok (.invokestatic 189, 3) := by decide +kernel
theorem dX10_mostLinked_20 : decode cX10_mostLinked 20 = .ok (.ifCond .eq 29, 3) := by decide +kernel
theorem dX10_mostLinked_23 : decode cX10_mostLinked 23 = .ok (.aload_n 0, 1) := by decide +kernel
theorem dX10_mostLinked_24 : decode cX10_mostLinked 24 = .ok (.iload 4, 2) := by decide +kernel
theorem dX10_mostLinked_26 : decode cX10_mostLinked 26 = .ok (.iaload, 1) := by decide +kernel
theorem dX10_mostLinked_27 : decode cX10_mostLinked 27 = .ok (.iload_n 1, 1) := by decide +kernel
theorem dX10_mostLinked_28 : decode cX10_mostLinked 28 = .ok (.iand, 1) := by decide +kernel
theorem dX10_mostLinked_29 : decode cX10_mostLinked 29 = .ok (.invokestatic 166, 3) := by decide +kernel
theorem dX10_mostLinked_32 : decode cX10_mostLinked 32 = .ok (.iload_n 3, 1) := by decide +kernel
theorem dX10_mostLinked_33 : decode cX10_mostLinked 33 = .ok (.if_icmp .le 16, 3) := by decide +kernel
theorem dX10_mostLinked_36 : decode cX10_mostLinked 36 = .ok (.aload_n 0, 1) := by decide +kernel
theorem dX10_mostLinked_37 : decode cX10_mostLinked 37 = .ok (.iload 4, 2) := by decide +kernel
theorem dX10_mostLinked_39 : decode cX10_mostLinked 39 = .ok (.iaload, 1) := by decide +kernel
theorem dX10_mostLinked_40 : decode cX10_mostLinked 40 = .ok (.iload_n 1, 1) := by decide +kernel
theorem dX10_mostLinked_41 : decode cX10_mostLinked 41 = .ok (.iand, 1) := by decide +kernel
theorem dX10_mostLinked_42 : decode cX10_mostLinked 42 = .ok (.invokestatic 166, 3) := by decide +kernel
theorem dX10_mostLinked_45 : decode cX10_mostLinked 45 = .ok (.istore_n 3, 1) := by decide +kernel
theorem dX10_mostLinked_46 : decode cX10_mostLinked 46 = .ok (.iload 4, 2) := by decide +kernel
theorem dX10_mostLinked_48 : decode cX10_mostLinked 48 = .ok (.istore_n 2, 1) := by decide +kernel
theorem dX10_mostLinked_49 : decode cX10_mostLinked 49 = .ok (.iinc 4 1, 3) := by decide +kernel
theorem dX10_mostLinked_52 : decode cX10_mostLinked 52 = .ok (.goto (-45), 3) := by decide +kernel
theorem dX10_mostLinked_55 : decode cX10_mostLinked 55 = .ok (.iload_n 2, 1) := by decide +kernel
theorem dX10_mostLinked_56 : decode cX10_mostLinked 56 = .ok (.ireturn, 1) := by decide +kernel
theorem dX10_leastHolders_0 : decode cX10_leastHolders 0 = .ok (.iload 5, 2) := by decide +kernel
theorem dX10_leastHolders_2 : decode cX10_leastHolders 2 = .ok (.ifCond .le 14, 3) := by decide +kernel
theorem dX10_leastHolders_5 : decode cX10_leastHolders 5 = .ok (.iload_n 2, 1) := by decide +kernel
theorem dX10_leastHolders_6 : decode cX10_leastHolders 6 = .ok (.invokestatic 166, 3) := by decide +kernel
theorem dX10_leastHolders_9 : decode cX10_leastHolders 9 = .ok (.iload 5, 2) := by decide +kernel
theorem dX10_leastHolders_11 : decode cX10_leastHolders 11 = .ok (.iload_n 3, 1) := by decide +kernel
theorem dX10_leastHolders_12 : decode cX10_leastHolders 12 = .ok (.imul, 1) := by decide +kernel
theorem dX10_leastHolders_13 : decode cX10_leastHolders 13 = .ok (.if_icmp .le 18, 3) := by decide +kernel
theorem dX10_leastHolders_16 : decode cX10_leastHolders 16 = .ok (.iload 5, 2) := by decide +kernel
theorem dX10_leastHolders_18 : decode cX10_leastHolders 18 = .ok (.ifCond .ne 11, 3) := by decide +kernel
theorem dX10_leastHolders_21 : decode cX10_leastHolders 21 = .ok (.iload_n 2, 1) := by decide +kernel
theorem dX10_leastHolders_22 : decode cX10_leastHolders 22 = .ok (.ifCond .ne 7, 3) := by decide +kernel
theorem dX10_leastHolders_25 : decode cX10_leastHolders 25 = .ok (.iconst 0, 1) := by decide +kernel
theorem dX10_leastHolders_26 : decode cX10_leastHolders 26 = .ok (.goto 4, 3) := by decide +kernel
theorem dX10_leastHolders_29 : decode cX10_leastHolders 29 = .ok (.iconst (-1), 1) := by decide +kernel
theorem dX10_leastHolders_30 : decode cX10_leastHolders 30 = .ok (.ireturn, 1) := by decide +kernel
theorem dX10_leastHolders_31 : decode cX10_leastHolders 31 = .ok (.iconst 0, 1) := by decide +kernel
theorem dX10_leastHolders_32 : decode cX10_leastHolders 32 = .ok (.istore 6, 2) := by decide +kernel
theorem dX10_leastHolders_34 : decode cX10_leastHolders 34 = .ok (.iload 6, 2) := by decide +kernel
theorem dX10_leastHolders_36 : decode cX10_leastHolders 36 = .ok (.iload 4, 2) := by decide +kernel
theorem dX10_leastHolders_38 : decode cX10_leastHolders 38 = .ok (.if_icmp .ge 60, 3) := by decide +kernel
theorem dX10_leastHolders_41 : decode cX10_leastHolders 41 = .ok (.iload 6, 2) := by decide +kernel
theorem dX10_leastHolders_43 : decode cX10_leastHolders 43 = .ok (.aload_n 0, 1) := by decide +kernel
theorem dX10_leastHolders_44 : decode cX10_leastHolders 44 = .ok (.arraylength, 1) := by decide +kernel
theorem dX10_leastHolders_45 : decode cX10_leastHolders 45 = .ok (.if_icmp .ge 53, 3) := by decide +kernel
theorem dX10_leastHolders_48 : decode cX10_leastHolders 48 = .ok (.iload_n 1, 1) := by decide +kernel
theorem dX10_leastHolders_49 : decode cX10_leastHolders 49 = .ok (.iload 6, 2) := by decide +kernel
theorem dX10_leastHolders_51 : decode cX10_leastHolders 51 = .ok (.invokestatic 189, 3) := by decide +kernel
theorem dX10_leastHolders_54 : decode cX10_leastHolders 54 = .ok (.ifCond .eq 38, 3) := by decide +kernel
theorem dX10_leastHolders_57 : decode cX10_leastHolders 57 = .ok (.aload_n 0, 1) := by decide +kernel
theorem dX10_leastHolders_58 : decode cX10_leastHolders 58 = .ok (.iload_n 1, 1) := by decide +kernel
theorem dX10_leastHolders_59 : decode cX10_leastHolders 59 = .ok (.iload_n 2, 1) := by decide +kernel
theorem dX10_leastHolders_60 : decode cX10_leastHolders 60 = .ok (.aload_n 0, 1) := by decide +kernel
theorem dX10_leastHolders_61 : decode cX10_leastHolders 61 = .ok (.iload 6, 2) := by decide +kernel
theorem dX10_leastHolders_63 : decode cX10_leastHolders 63 = .ok (.iaload, 1) := by decide +kernel
theorem dX10_leastHolders_64 : decode cX10_leastHolders 64 = .ok (.iconst (-1), 1) := by decide +kernel
theorem dX10_leastHolders_65 : decode cX10_leastHolders 65 = .ok (.ixor, 1) := by decide +kernel
theorem dX10_leastHolders_66 : decode cX10_leastHolders 66 = .ok (.iand, 1) := by decide +kernel
theorem dX10_leastHolders_67 : decode cX10_leastHolders 67 = .ok (.iload_n 3, 1) := by decide +kernel
theorem dX10_leastHolders_68 : decode cX10_leastHolders 68 = .ok (.iload 6, 2) := by decide +kernel
theorem dX10_leastHolders_70 : decode cX10_leastHolders 70 = .ok (.iload 5, 2) := by decide +kernel
theorem dX10_leastHolders_72 : decode cX10_leastHolders 72 = .ok (.iconst 1, 1) := by decide +kernel
theorem dX10_leastHolders_73 : decode cX10_leastHolders 73 = .ok (.isub, 1) := by decide +kernel
theorem dX10_leastHolders_74 : decode cX10_leastHolders 74 = .ok (.invokestatic 262, 3) := by decide +kernel
theorem dX10_leastHolders_77 : decode cX10_leastHolders 77 = .ok (.istore 7, 2) := by decide +kernel
theorem dX10_leastHolders_79 : decode cX10_leastHolders 79 = .ok (.iload 7, 2) := by decide +kernel
theorem dX10_leastHolders_81 : decode cX10_leastHolders 81 = .ok (.ifCond .lt 11, 3) := by decide +kernel
theorem dX10_leastHolders_84 : decode cX10_leastHolders 84 = .ok (.iload 7, 2) := by decide +kernel
theorem dX10_leastHolders_86 : decode cX10_leastHolders 86 = .ok (.iconst 1, 1) := by decide +kernel
theorem dX10_leastHolders_87 : decode cX10_leastHolders 87 = .ok (.iload 6, 2) := by decide +kernel
theorem dX10_leastHolders_89 : decode cX10_leastHolders 89 = .ok (.ishl, 1) := by decide +kernel
theorem dX10_leastHolders_90 : decode cX10_leastHolders 90 = .ok (.ior, 1) := by decide +kernel
theorem dX10_leastHolders_91 : decode cX10_leastHolders 91 = .ok (.ireturn, 1) := by decide +kernel
theorem dX10_leastHolders_92 : decode cX10_leastHolders 92 = .ok (.iinc 6 1, 3) := by decide +kernel
theorem dX10_leastHolders_95 : decode cX10_leastHolders 95 = .ok (.goto (-61), 3) := by decide +kernel
theorem dX10_leastHolders_98 : decode cX10_leastHolders 98 = .ok (.iconst (-1), 1) := by decide +kernel
theorem dX10_leastHolders_99 : decode cX10_leastHolders 99 = .ok (.ireturn, 1) := by decide +kernel
theorem dX10_leastRemoved_0 : decode cX10_leastRemoved 0 = .ok (.aload_n 0, 1) := by decide +kernel
theorem dX10_leastRemoved_1 : decode cX10_leastRemoved 1 = .ok (.iload_n 1, 1) := by decide +kernel
theorem dX10_leastRemoved_2 : decode cX10_leastRemoved 2 = .ok (.invokestatic 391, 3) := by decide +kernel
theorem dX10_leastRemoved_5 : decode cX10_leastRemoved 5 = .ok (.istore_n 3, 1) := by decide +kernel
theorem dX10_leastRemoved_6 : decode cX10_leastRemoved 6 = .ok (.iload_n 1, 1) := by decide +kernel
theorem dX10_leastRemoved_7 : decode cX10_leastRemoved 7 = .ok (.iload_n 3, 1) := by decide +kernel
theorem dX10_leastRemoved_8 : decode cX10_leastRemoved 8 = .ok (.invokestatic 189, 3) := by decide +kernel
theorem dX10_leastRemoved_11 : decode cX10_leastRemoved 11 = .ok (.ifCond .eq 11, 3) := by decide +kernel
theorem dX10_leastRemoved_14 : decode cX10_leastRemoved 14 = .ok (.aload_n 0, 1) := by decide +kernel
theorem dX10_leastRemoved_15 : decode cX10_leastRemoved 15 = .ok (.iload_n 3, 1) := by decide +kernel
theorem dX10_leastRemoved_16 : decode cX10_leastRemoved 16 = .ok (.iaload, 1) := by decide +kernel
theorem dX10_leastRemoved_17 : decode cX10_leastRemoved 17 = .ok (.iload_n 1, 1) := by decide +kernel
theorem dX10_leastRemoved_18 : decode cX10_leastRemoved 18 = .ok (.iand, 1) := by decide +kernel
theorem dX10_leastRemoved_19 : decode cX10_leastRemoved 19 = .ok (.ifCond .ne 5, 3) := by decide +kernel
theorem dX10_leastRemoved_22 : decode cX10_leastRemoved 22 = .ok (.iconst 0, 1) := by decide +kernel
theorem dX10_leastRemoved_23 : decode cX10_leastRemoved 23 = .ok (.ireturn, 1) := by decide +kernel
theorem dX10_leastRemoved_24 : decode cX10_leastRemoved 24 = .ok (.iload_n 2, 1) := by decide +kernel
theorem dX10_leastRemoved_25 : decode cX10_leastRemoved 25 = .ok (.ifCond .gt 5, 3) := by decide +kernel
theorem dX10_leastRemoved_28 : decode cX10_leastRemoved 28 = .ok (.iconst (-1), 1) := by decide +kernel
theorem dX10_leastRemoved_29 : decode cX10_leastRemoved 29 = .ok (.ireturn, 1) := by decide +kernel
theorem dX10_leastRemoved_30 : decode cX10_leastRemoved 30 = .ok (.aload_n 0, 1) := by decide +kernel
theorem dX10_leastRemoved_31 : decode cX10_leastRemoved 31 = .ok (.aload_n 0, 1) := by decide +kernel
theorem dX10_leastRemoved_32 : decode cX10_leastRemoved 32 = .ok (.iload_n 3, 1) := by decide +kernel
theorem dX10_leastRemoved_33 : decode cX10_leastRemoved 33 = .ok (.iaload, 1) := by decide +kernel
theorem dX10_leastRemoved_34 : decode cX10_leastRemoved 34 = .ok (.iload_n 1, 1) := by decide +kernel
theorem dX10_leastRemoved_35 : decode cX10_leastRemoved 35 = .ok (.iand, 1) := by decide +kernel
theorem dX10_leastRemoved_36 : decode cX10_leastRemoved 36 = .ok (.invokestatic 391, 3) := by decide +kernel
theorem dX10_leastRemoved_39 : decode cX10_leastRemoved 39 = .ok (.istore 4, 2) := by decide +kernel
theorem dX10_leastRemoved_41 : decode cX10_leastRemoved 41 = .ok (.aload_n 0, 1) := by decide +kernel
theorem dX10_leastRemoved_42 : decode cX10_leastRemoved 42 = .ok (.iload_n 1, 1) := by decide +kernel
theorem dX10_leastRemoved_43 : decode cX10_leastRemoved 43 = .ok (.iconst 1, 1) := by decide +kernel
theorem dX10_leastRemoved_44 : decode cX10_leastRemoved 44 = .ok (.iload_n 3, 1) := by decide +kernel
theorem dX10_leastRemoved_45 : decode cX10_leastRemoved 45 = .ok (.ishl, 1) := by decide +kernel
theorem dX10_leastRemoved_46 : decode cX10_leastRemoved 46 = .ok (.iconst (-1), 1) := by decide +kernel
theorem dX10_leastRemoved_47 : decode cX10_leastRemoved 47 = .ok (.ixor, 1) := by decide +kernel
theorem dX10_leastRemoved_48 : decode cX10_leastRemoved 48 = .ok (.iand, 1) := by decide +kernel
theorem dX10_leastRemoved_49 : decode cX10_leastRemoved 49 = .ok (.iload_n 2, 1) := by decide +kernel
theorem dX10_leastRemoved_50 : decode cX10_leastRemoved 50 = .ok (.iconst 1, 1) := by decide +kernel
theorem dX10_leastRemoved_51 : decode cX10_leastRemoved 51 = .ok (.isub, 1) := by decide +kernel
theorem dX10_leastRemoved_52 : decode cX10_leastRemoved 52 = .ok (.invokestatic 266, 3) := by decide +kernel
theorem dX10_leastRemoved_55 : decode cX10_leastRemoved 55 = .ok (.istore 5, 2) := by decide +kernel
theorem dX10_leastRemoved_57 : decode cX10_leastRemoved 57 = .ok (.aload_n 0, 1) := by decide +kernel
theorem dX10_leastRemoved_58 : decode cX10_leastRemoved 58 = .ok (.iload_n 1, 1) := by decide +kernel
theorem dX10_leastRemoved_59 : decode cX10_leastRemoved 59 = .ok (.iconst 1, 1) := by decide +kernel
theorem dX10_leastRemoved_60 : decode cX10_leastRemoved 60 = .ok (.iload 4, 2) := by decide +kernel
theorem dX10_leastRemoved_62 : decode cX10_leastRemoved 62 = .ok (.ishl, 1) := by decide +kernel
theorem dX10_leastRemoved_63 : decode cX10_leastRemoved 63 = .ok (.iconst (-1), 1) := by decide +kernel
theorem dX10_leastRemoved_64 : decode cX10_leastRemoved 64 = .ok (.ixor, 1) := by decide +kernel
theorem dX10_leastRemoved_65 : decode cX10_leastRemoved 65 = .ok (.iand, 1) := by decide +kernel
theorem dX10_leastRemoved_66 : decode cX10_leastRemoved 66 = .ok (.iload_n 2, 1) := by decide +kernel
theorem dX10_leastRemoved_67 : decode cX10_leastRemoved 67 = .ok (.iconst 1, 1) := by decide +kernel
theorem dX10_leastRemoved_68 : decode cX10_leastRemoved 68 = .ok (.isub, 1) := by decide +kernel
theorem dX10_leastRemoved_69 : decode cX10_leastRemoved 69 = .ok (.invokestatic 266, 3) := by decide +kernel
theorem dX10_leastRemoved_72 : decode cX10_leastRemoved 72 = .ok (.istore 6, 2) := by decide +kernel
theorem dX10_leastRemoved_74 : decode cX10_leastRemoved 74 = .ok (.iload 5, 2) := by decide +kernel
theorem dX10_leastRemoved_76 : decode cX10_leastRemoved 76 = .ok (.ifCond .ge 7, 3) := by decide +kernel
theorem dX10_leastRemoved_79 : decode cX10_leastRemoved 79 = .ok (.iconst (-1), 1) := by decide +kernel
theorem dX10_leastRemoved_80 : decode cX10_leastRemoved 80 = .ok (.goto 9, 3) := by decide +kernel
theorem dX10_leastRemoved_83 : decode cX10_leastRemoved 83 = .ok (.iload 5, 2) := by decide +kernel
theorem dX10_leastRemoved_85 : decode cX10_leastRemoved 85 = .ok (.iconst 1, 1) := by decide +kernel
theorem dX10_leastRemoved_86 : decode cX10_leastRemoved 86 = .ok (.iload_n 3, 1) := by decide +kernel
theorem dX10_leastRemoved_87 : decode cX10_leastRemoved 87 = .ok (.ishl, 1) := by decide +kernel
theorem dX10_leastRemoved_88 : decode cX10_leastRemoved 88 = .ok (.ior, 1) := by decide +kernel
theorem dX10_leastRemoved_89 : decode cX10_leastRemoved 89 = .ok (.istore 7, 2) := by decide +kernel
theorem dX10_leastRemoved_91 : decode cX10_leastRemoved 91 = .ok (.iload 6, 2) := by decide +kernel
theorem dX10_leastRemoved_93 : decode cX10_leastRemoved 93 = .ok (.ifCond .ge 7, 3) := by decide +kernel
theorem dX10_leastRemoved_96 : decode cX10_leastRemoved 96 = .ok (.iconst (-1), 1) := by decide +kernel
theorem dX10_leastRemoved_97 : decode cX10_leastRemoved 97 = .ok (.goto 10, 3) := by decide +kernel
theorem dX10_leastRemoved_100 : decode cX10_leastRemoved 100 = .ok (.iload 6, 2) := by decide +kernel
theorem dX10_leastRemoved_102 : decode cX10_leastRemoved 102 = .ok (.iconst 1, 1) := by decide +kernel
theorem dX10_leastRemoved_103 : decode cX10_leastRemoved 103 = .ok (.iload 4, 2) := by decide +kernel
theorem dX10_leastRemoved_105 : decode cX10_leastRemoved 105 = .ok (.ishl, 1) := by decide +kernel
theorem dX10_leastRemoved_106 : decode cX10_leastRemoved 106 = .ok (.ior, 1) := by decide +kernel
theorem dX10_leastRemoved_107 : decode cX10_leastRemoved 107 = .ok (.istore 8, 2) := by decide +kernel
theorem dX10_leastRemoved_109 : decode cX10_leastRemoved 109 = .ok (.iload 7, 2) := by decide +kernel
theorem dX10_leastRemoved_111 : decode cX10_leastRemoved 111 = .ok (.ifCond .lt 8, 3) := by decide +kernel
theorem dX10_leastRemoved_114 : decode cX10_leastRemoved 114 = .ok (.iload 8, 2) := by decide +kernel
theorem dX10_leastRemoved_116 : decode cX10_leastRemoved 116 = .ok (.ifCond .ge 11, 3) := by decide +kernel
theorem dX10_leastRemoved_119 : decode cX10_leastRemoved 119 = .ok (.iload 7, 2) := by decide +kernel
theorem dX10_leastRemoved_121 : decode cX10_leastRemoved 121 = .ok (.iload 8, 2) := by decide +kernel
theorem dX10_leastRemoved_123 : decode cX10_leastRemoved 123 = .ok (.invokestatic 394, 3) := by decide +kernel
theorem dX10_leastRemoved_126 : decode cX10_leastRemoved 126 = .ok (.ireturn, 1) := by decide +kernel
theorem dX10_leastRemoved_127 : decode cX10_leastRemoved 127 = .ok (.iload 7, 2) := by decide +kernel
theorem dX10_leastRemoved_129 : decode cX10_leastRemoved 129 = .ok (.iload 8, 2) := by decide +kernel
theorem dX10_leastRemoved_131 : decode cX10_leastRemoved 131 = .ok (.invokestatic 399, 3) := by decide +kernel
theorem dX10_leastRemoved_134 : decode cX10_leastRemoved 134 = .ok (.ireturn, 1) := by decide +kernel
