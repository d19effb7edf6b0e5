theorem dX10_closes_45 : decode cX10_closes 45 = .ok (.iconst 1, 1) := by decide +kernel
theorem dX10_closes_46 : decode cX10_closes 46 = .ok (.isub, 1) := by decide +kernel
theorem dX10_closes_47 : decode cX10_closes 47 = .ok (.iastore, 1) := by decide +kernel
theorem dX10_closes_48 : decode cX10_closes 48 = .ok (.return_, 1) := by decide +kernel
theorem dX10_laysRead_0 : decode cX10_laysRead 0 = .ok (.iconst 0, 1) := by decide +kernel
theorem dX10_laysRead_1 : decode cX10_laysRead 1 = .ok (.istore_n 3, 1) := by decide +kernel
theorem dX10_laysRead_2 : decode cX10_laysRead 2 = .ok (.iload_n 3, 1) := by decide +kernel
theorem dX10_laysRead_3 : decode cX10_laysRead 3 = .ok (.bipush 9, 2) := by decide +kernel
theorem dX10_laysRead_5 : decode cX10_laysRead 5 = .ok (.if_icmp .ge 29, 3) := by decide +kernel
theorem dX10_laysRead_8 : decode cX10_laysRead 8 = .ok (.aload_n 0, 1) := by decide +kernel
theorem dX10_laysRead_9 : decode cX10_laysRead 9 = .ok (.getfield 24, 3) := by decide +kernel
theorem dX10_laysRead_12 : decode cX10_laysRead 12 = .ok (.iload_n 1, 1) := by decide +kernel
theorem dX10_laysRead_13 : decode cX10_laysRead 13 = .ok (.iload_n 2, 1) := by decide +kernel
theorem dX10_laysRead_14 : decode cX10_laysRead 14 = .ok (.invokestatic 95, 3) := by decide +kernel
theorem dX10_laysRead_17 : decode cX10_laysRead 17 = .ok (.iload_n 3, 1) := by decide +kernel
theorem dX10_laysRead_18 : decode cX10_laysRead 18 = .ok (.iadd, 1) := by decide +kernel
theorem dX10_laysRead_19 : decode cX10_laysRead 19 = .ok (.aload_n 0, 1) := by decide +kernel
theorem dX10_laysRead_20 : decode cX10_laysRead 20 = .ok (.getfield 27, 3) := by decide +kernel
theorem dX10_laysRead_23 : decode cX10_laysRead 23 = .ok (.iconst 1, 1) := by decide +kernel
theorem dX10_laysRead_24 : decode cX10_laysRead 24 = .ok (.iload_n 3, 1) := by decide +kernel
theorem dX10_laysRead_25 : decode cX10_laysRead 25 = .ok (.iadd, 1) := by decide +kernel
theorem dX10_laysRead_26 : decode cX10_laysRead 26 = .ok (.iaload, 1) := by decide +kernel
theorem dX10_laysRead_27 : decode cX10_laysRead 27 = .ok (.iastore, 1) := by decide +kernel
theorem dX10_laysRead_28 : decode cX10_laysRead 28 = .ok (.iinc 3 1, 3) := by decide +kernel
theorem dX10_laysRead_31 : decode cX10_laysRead 31 = .ok (.goto (-29), 3) := by decide +kernel
theorem dX10_laysRead_34 : decode cX10_laysRead 34 = .ok (.return_, 1) := by decide +kernel
theorem dX10_put_0 : decode cX10_put 0 = .ok (.aload_n 0, 1) := by decide +kernel
theorem dX10_put_1 : decode cX10_put 1 = .ok (.iconst 0, 1) := by decide +kernel
theorem dX10_put_2 : decode cX10_put 2 = .ok (.putfield 1, 3) := by decide +kernel
theorem dX10_put_5 : decode cX10_put 5 = .ok (.iload_n 1, 1) := by decide +kernel
theorem dX10_put_6 : decode cX10_put 6 = .ok (.invokestatic 58, 3) := by decide +kernel
theorem dX10_put_9 : decode cX10_put 9 = .ok (.ifCond .eq 16, 3) := by decide +kernel
theorem dX10_put_12 : decode cX10_put 12 = .ok (.iload_n 2, 1) := by decide +kernel
theorem dX10_put_13 : decode cX10_put 13 = .ok (.iconst 0, 1) := by decide +kernel
theorem dX10_put_14 : decode cX10_put 14 = .ok (.aload_n 0, 1) := by decide +kernel
theorem dX10_put_15 : decode cX10_put 15 = .ok (.iload_n 1, 1) := by decide +kernel
theorem dX10_put_16 : decode cX10_put 16 = .ok (.invokevirtual 62, 3) := by decide +kernel
theorem dX10_put_19 : decode cX10_put 19 = .ok (.invokestatic 54, 3) := by decide +kernel
theorem dX10_put_22 : decode cX10_put 22 = .ok (.ifCond .ne 5, 3) := by decide +kernel
theorem dX10_put_25 : decode cX10_put 25 = .ok (.iconst (-1), 1) := by decide +kernel
theorem dX10_put_26 : decode cX10_put 26 = .ok (.ireturn, 1) := by decide +kernel
theorem dX10_put_27 : decode cX10_put 27 = .ok (.aload_n 0, 1) := by decide +kernel
theorem dX10_put_28 : decode cX10_put 28 = .ok (.iload_n 1, 1) := by decide +kernel
theorem dX10_put_29 : decode cX10_put 29 = .ok (.invokevirtual 62, 3) := by decide +kernel
theorem dX10_put_32 : decode cX10_put 32 = .ok (.bipush 14, 2) := by decide +kernel
theorem dX10_put_34 : decode cX10_put 34 = .ok (.if_icmp .ne 7, 3) := by decide +kernel
theorem dX10_put_37 : decode cX10_put 37 = .ok (.sipush (-1000), 3) := by decide +kernel
theorem dX10_put_40 : decode cX10_put 40 = .ok (.ireturn, 1) := by decide +kernel
theorem dX10_put_41 : decode cX10_put 41 = .ok (.aload_n 0, 1) := by decide +kernel
theorem dX10_put_42 : decode cX10_put 42 = .ok (.bipush 80, 2) := by decide +kernel
theorem dX10_put_44 : decode cX10_put 44 = .ok (.iconst 1, 1) := by decide +kernel
theorem dX10_put_45 : decode cX10_put 45 = .ok (.invokevirtual 88, 3) := by decide +kernel
theorem dX10_put_48 : decode cX10_put 48 = .ok (.ifCond .ne 11, 3) := by decide +kernel
theorem dX10_put_51 : decode cX10_put 51 = .ok (.bipush (-2), 2) := by decide +kernel
theorem dX10_put_53 : decode cX10_put 53 = .ok (.aload_n 0, 1) := by decide +kernel
theorem dX10_put_54 : decode cX10_put 54 = .ok (.getfield 69, 3) := by decide +kernel
theorem dX10_put_57 : decode cX10_put 57 = .ok (.isub, 1) := by decide +kernel
theorem dX10_put_58 : decode cX10_put 58 = .ok (.ireturn, 1) := by decide +kernel
theorem dX10_put_59 : decode cX10_put 59 = .ok (.aload_n 0, 1) := by decide +kernel
theorem dX10_put_60 : decode cX10_put 60 = .ok (.invokevirtual 171, 3) := by decide +kernel
theorem dX10_put_63 : decode cX10_put 63 = .ok (.aload_n 0, 1) := by decide +kernel
theorem dX10_put_64 : decode cX10_put 64 = .ok (.iload_n 1, 1) := by decide +kernel
theorem dX10_put_65 : decode cX10_put 65 = .ok (.iload_n 2, 1) := by decide +kernel
theorem dX10_put_66 : decode cX10_put 66 = .ok (.invokevirtual 174, 3) := by decide +kernel
theorem dX10_put_69 : decode cX10_put 69 = .ok (.aload_n 0, 1) := by decide +kernel
theorem dX10_put_70 : decode cX10_put 70 = .ok (.iload_n 1, 1) := by decide +kernel
theorem dX10_put_71 : decode cX10_put 71 = .ok (.iload_n 2, 1) := by decide +kernel
theorem dX10_put_72 : decode cX10_put 72 = .ok (.invokevirtual 177, 3) := by decide +kernel
theorem dX10_put_75 : decode cX10_put 75 = .ok (.aload_n 0, 1) := by decide +kernel
theorem dX10_put_76 : decode cX10_put 76 = .ok (.iload_n 1, 1) := by decide +kernel
theorem dX10_put_77 : decode cX10_put 77 = .ok (.invokevirtual 62, 3) := by decide +kernel
theorem dX10_put_80 : decode cX10_put 80 = .ok (.ireturn, 1) := by decide +kernel
theorem dX10_change_0 : decode cX10_change 0 = .ok (.aload_n 0, 1) := by decide +kernel
theorem dX10_change_1 : decode cX10_change 1 = .ok (.iconst 0, 1) := by decide +kernel
theorem dX10_change_2 : decode cX10_change 2 = .ok (.putfield 1, 3) := by decide +kernel
theorem dX10_change_5 : decode cX10_change 5 = .ok (.aload_n 0, 1) := by decide +kernel
theorem dX10_change_6 : decode cX10_change 6 = .ok (.iload_n 1, 1) := by decide +kernel
theorem dX10_change_7 : decode cX10_change 7 = .ok (.iload_n 2, 1) := by decide +kernel
theorem dX10_change_8 : decode cX10_change 8 = .ok (.invokevirtual 154, 3) := by decide +kernel
theorem dX10_change_11 : decode cX10_change 11 = .ok (.ifCond .ne 5, 3) := by decide +kernel
theorem dX10_change_14 : decode cX10_change 14 = .ok (.iconst (-1), 1) := by decide +kernel
theorem dX10_change_15 : decode cX10_change 15 = .ok (.ireturn, 1) := by decide +kernel
theorem dX10_change_16 : decode cX10_change 16 = .ok (.aload_n 0, 1) := by decide +kernel
theorem dX10_change_17 : decode cX10_change 17 = .ok (.bipush 80, 2) := by decide +kernel
theorem dX10_change_19 : decode cX10_change 19 = .ok (.iconst 1, 1) := by decide +kernel
theorem dX10_change_20 : decode cX10_change 20 = .ok (.invokevirtual 88, 3) := by decide +kernel
theorem dX10_change_23 : decode cX10_change 23 = .ok (.ifCond .ne 11, 3) := by decide +kernel
theorem dX10_change_26 : decode cX10_change 26 = .ok (.bipush (-2), 2) := by decide +kernel
theorem dX10_change_28 : decode cX10_change 28 = .ok (.aload_n 0, 1) := by decide +kernel
theorem dX10_change_29 : decode cX10_change 29 = .ok (.getfield 69, 3) := by decide +kernel
theorem dX10_change_32 : decode cX10_change 32 = .ok (.isub, 1) := by decide +kernel
theorem dX10_change_33 : decode cX10_change 33 = .ok (.ireturn, 1) := by decide +kernel
theorem dX10_change_34 : decode cX10_change 34 = .ok (.aload_n 0, 1) := by decide +kernel
theorem dX10_change_35 : decode cX10_change 35 = .ok (.invokevirtual 171, 3) := by decide +kernel
theorem dX10_change_38 : decode cX10_change 38 = .ok (.aload_n 0, 1) := by decide +kernel
theorem dX10_change_39 : decode cX10_change 39 = .ok (.iload_n 1, 1) := by decide +kernel
theorem dX10_change_40 : decode cX10_change 40 = .ok (.iload_n 2, 1) := by decide +kernel
theorem dX10_change_41 : decode cX10_change 41 = .ok (.invokevirtual 177, 3) := by decide +kernel
theorem dX10_change_44 : decode cX10_change 44 = .ok (.aload_n 0, 1) := by decide +kernel
theorem dX10_change_45 : decode cX10_change 45 = .ok (.iload_n 1, 1) := by decide +kernel
theorem dX10_change_46 : decode cX10_change 46 = .ok (.iload_n 2, 1) := by decide +kernel
theorem dX10_change_47 : decode cX10_change 47 = .ok (.invokevirtual 99, 3) := by decide +kernel
theorem dX10_change_50 : decode cX10_change 50 = .ok (.ireturn, 1) := by decide +kernel
theorem dX10_cut_0 : decode cX10_cut 0 = .ok (.aload_n 0, 1) := by decide +kernel
theorem dX10_cut_1 : decode cX10_cut 1 = .ok (.iconst 0, 1) := by decide +kernel
theorem dX10_cut_2 : decode cX10_cut 2 = .ok (.putfield 1, 3) := by decide +kernel
theorem dX10_cut_5 : decode cX10_cut 5 = .ok (.aload_n 0, 1) := by decide +kernel
theorem dX10_cut_6 : decode cX10_cut 6 = .ok (.iload_n 1, 1) := by decide +kernel
theorem dX10_cut_7 : decode cX10_cut 7 = .ok (.iload_n 2, 1) := by decide +kernel
theorem dX10_cut_8 : decode cX10_cut 8 = .ok (.invokevirtual 154, 3) := by decide +kernel
theorem dX10_cut_11 : decode cX10_cut 11 = .ok (.ifCond .ne 5, 3) := by decide +kernel
theorem dX10_cut_14 : decode cX10_cut 14 = .ok (.iconst (-1), 1) := by decide +kernel
theorem dX10_cut_15 : decode cX10_cut 15 = .ok (.ireturn, 1) := by decide +kernel
theorem dX10_cut_16 : decode cX10_cut 16 = .ok (.aload_n 0, 1) := by decide +kernel
theorem dX10_cut_17 : decode cX10_cut 17 = .ok (.invokevirtual 171, 3) := by decide +kernel
theorem dX10_cut_20 : decode cX10_cut 20 = .ok (.aload_n 0, 1) := by decide +kernel
theorem dX10_cut_21 : decode cX10_cut 21 = .ok (.iload_n 1, 1) := by decide +kernel
theorem dX10_cut_22 : decode cX10_cut 22 = .ok (.iload_n 2, 1) := by decide +kernel
theorem dX10_cut_23 : decode cX10_cut 23 = .ok (.invokevirtual 180, 3) := by decide +kernel
theorem dX10_cut_26 : decode cX10_cut 26 = .ok (.aload_n 0, 1) := by decide +kernel
theorem dX10_cut_27 : decode cX10_cut 27 = .ok (.iload_n 1, 1) := by decide +kernel
theorem dX10_cut_28 : decode cX10_cut 28 = .ok (.invokevirtual 62, 3) := by decide +kernel
theorem dX10_cut_31 : decode cX10_cut 31 = .ok (.ireturn, 1) := by decide +kernel
theorem dX10_move_0 : decode cX10_move 0 = .ok (.aload_n 0, 1) := by decide +kernel
theorem dX10_move_1 : decode cX10_move 1 = .ok (.iconst 0, 1) := by decide +kernel
theorem dX10_move_2 : decode cX10_move 2 = .ok (.putfield 1, 3) := by decide +kernel
theorem dX10_move_5 : decode cX10_move 5 = .ok (.aload_n 0, 1) := by decide +kernel
theorem dX10_move_6 : decode cX10_move 6 = .ok (.iload_n 1, 1) := by decide +kernel
theorem dX10_move_7 : decode cX10_move 7 = .ok (.iload_n 2, 1) := by decide +kernel
theorem dX10_move_8 : decode cX10_move 8 = .ok (.invokevirtual 154, 3) := by decide +kernel
theorem dX10_move_11 : decode cX10_move 11 = .ok (.ifCond .eq 35, 3) := by decide +kernel
theorem dX10_move_14 : decode cX10_move 14 = .ok (.iload_n 3, 1) := by decide +kernel
theorem dX10_move_15 : decode cX10_move 15 = .ok (.iconst 1, 1) := by decide +kernel
theorem dX10_move_16 : decode cX10_move 16 = .ok (.if_icmp .lt 30, 3) := by decide +kernel
theorem dX10_move_19 : decode cX10_move 19 = .ok (.iload_n 3, 1) := by decide +kernel
theorem dX10_move_20 : decode cX10_move 20 = .ok (.aload_n 0, 1) := by decide +kernel
theorem dX10_move_21 : decode cX10_move 21 = .ok (.iload_n 1, 1) := by decide +kernel
theorem dX10_move_22 : decode cX10_move 22 = .ok (.invokevirtual 62, 3) := by decide +kernel
theorem dX10_move_25 : decode cX10_move 25 = .ok (.iload_n 2, 1) := by decide +kernel
theorem dX10_move_26 : decode cX10_move 26 = .ok (.isub, 1) := by decide +kernel
theorem dX10_move_27 : decode cX10_move 27 = .ok (.if_icmp .gt 19, 3) := by decide +kernel
theorem dX10_move_30 : decode cX10_move 30 = .ok (.iload 4, 2) := by decide +kernel
theorem dX10_move_32 : decode cX10_move 32 = .ok (.iconst 0, 1) := by decide +kernel
theorem dX10_move_33 : decode cX10_move 33 = .ok (.aload_n 0, 1) := by decide +kernel
theorem dX10_move_34 : decode cX10_move 34 = .ok (.iload_n 1, 1) := by decide +kernel
theorem dX10_move_35 : decode cX10_move 35 = .ok (.invokevirtual 62, 3) := by decide +kernel
theorem dX10_move_38 : decode cX10_move 38 = .ok (.iload_n 3, 1) := by decide +kernel
theorem dX10_move_39 : decode cX10_move 39 = .ok (.isub, 1) := by decide +kernel
theorem dX10_move_40 : decode cX10_move 40 = .ok (.invokestatic 54, 3) := by decide +kernel
theorem dX10_move_43 : decode cX10_move 43 = .ok (.ifCond .ne 5, 3) := by decide +kernel
theorem dX10_move_46 : decode cX10_move 46 = .ok (.iconst 0, 1) := by decide +kernel
theorem dX10_move_47 : decode cX10_move 47 = .ok (.ireturn, 1) := by decide +kernel
theorem dX10_move_48 : decode cX10_move 48 = .ok (.aload_n 0, 1) := by decide +kernel
theorem dX10_move_49 : decode cX10_move 49 = .ok (.invokevirtual 171, 3) := by decide +kernel
theorem dX10_move_52 : decode cX10_move 52 = .ok (.bipush 126, 2) := by decide +kernel
theorem dX10_move_54 : decode cX10_move 54 = .ok (.newarray .int, 2) := by decide +kernel
theorem dX10_move_56 : decode cX10_move 56 = .ok (.astore 5, 2) := by decide +kernel
theorem dX10_move_58 : decode cX10_move 58 = .ok (.iconst 0, 1) := by decide +kernel
theorem dX10_move_59 : decode cX10_move 59 = .ok (.istore 6, 2) := by decide +kernel
theorem dX10_move_61 : decode cX10_move 61 = .ok (.iload 6, 2) := by decide +kernel
theorem dX10_move_63 : decode cX10_move 63 = .ok (.bipush 9, 2) := by decide +kernel
theorem dX10_move_65 : decode cX10_move 65 = .ok (.iload_n 3, 1) := by decide +kernel
theorem dX10_move_66 : decode cX10_move 66 = .ok (.imul, 1) := by decide +kernel
theorem dX10_move_67 : decode cX10_move 67 = .ok (.if_icmp .ge 27, 3) := by decide +kernel
theorem dX10_move_70 : decode cX10_move 70 = .ok (.aload 5, 2) := by decide +kernel
theorem dX10_move_72 : decode cX10_move 72 = .ok (.iload 6, 2) := by decide +kernel
theorem dX10_move_74 : decode cX10_move 74 = .ok (.aload_n 0, 1) := by decide +kernel
theorem dX10_move_75 : decode cX10_move 75 = .ok (.getfield 24, 3) := by decide +kernel
theorem dX10_move_78 : decode cX10_move 78 = .ok (.iload_n 1, 1) := by decide +kernel
theorem dX10_move_79 : decode cX10_move 79 = .ok (.iload_n 2, 1) := by decide +kernel
theorem dX10_move_80 : decode cX10_move 80 = .ok (.invokestatic 95, 3) := by decide +kernel
theorem dX10_move_83 : decode cX10_move 83 = .ok (.iload 6, 2) := by decide +kernel
theorem dX10_move_85 : decode cX10_move 85 = .ok (.iadd, 1) := by decide +kernel
theorem dX10_move_86 : decode cX10_move 86 = .ok (.iaload, 1) := by decide +kernel
theorem dX10_move_87 : decode cX10_move 87 = .ok (.iastore, 1) := by decide +kernel
theorem dX10_move_88 : decode cX10_move 88 = .ok (.iinc 6 1, 3) := by decide +kernel
theorem dX10_move_91 : decode cX10_move 91 = .ok (.goto (-30), 3) := by decide +kernel
theorem dX10_move_94 : decode cX10_move 94 = .ok (.iconst 0, 1) := by decide +kernel
theorem dX10_move_95 : decode cX10_move 95 = .ok (.istore 6, 2) := by decide +kernel
theorem dX10_move_97 : decode cX10_move 97 = .ok (.iload 6, 2) := by decide +kernel
theorem dX10_move_99 : decode cX10_move 99 = .ok (.iload_n 3, 1) := by decide +kernel
theorem dX10_move_100 : decode cX10_move 100 = .ok (.if_icmp .ge 15, 3) := by decide +kernel
theorem dX10_move_103 : decode cX10_move 103 = .ok (.aload_n 0, 1) := by decide +kernel
theorem dX10_move_104 : decode cX10_move 104 = .ok (.iload_n 1, 1) := by decide +kernel
theorem dX10_move_105 : decode cX10_move 105 = .ok (.iload_n 2, 1) := by decide +kernel
theorem dX10_move_106 : decode cX10_move 106 = .ok (.invokevirtual 180, 3) := by decide +kernel
theorem dX10_move_109 : decode cX10_move 109 = .ok (.iinc 6 1, 3) := by decide +kernel
theorem dX10_move_112 : decode cX10_move 112 = .ok (.goto (-15), 3) := by decide +kernel
theorem dX10_move_115 : decode cX10_move 115 = .ok (.iconst 0, 1) := by decide +kernel
theorem dX10_move_116 : decode cX10_move 116 = .ok (.istore 6, 2) := by decide +kernel
theorem dX10_move_118 : decode cX10_move 118 = .ok (.iload 6, 2) := by decide +kernel
theorem dX10_move_120 : decode cX10_move 120 = .ok (.iload_n 3, 1) := by decide +kernel
theorem dX10_move_121 : decode cX10_move 121 = .ok (.if_icmp .ge 63, 3) := by decide +kernel
theorem dX10_move_124 : decode cX10_move 124 = .ok (.aload_n 0, 1) := by decide +kernel
theorem dX10_move_125 : decode cX10_move 125 = .ok (.iload_n 1, 1) := by decide +kernel
theorem dX10_move_126 : decode cX10_move 126 = .ok (.iload 4, 2) := by decide +kernel
theorem dX10_move_128 : decode cX10_move 128 = .ok (.iload 6, 2) := by decide +kernel
theorem dX10_move_130 : decode cX10_move 130 = .ok (.iadd, 1) := by decide +kernel
theorem dX10_move_131 : decode cX10_move 131 = .ok (.invokevirtual 174, 3) := by decide +kernel
theorem dX10_move_134 : decode cX10_move 134 = .ok (.iconst 0, 1) := by decide +kernel
theorem dX10_move_135 : decode cX10_move 135 = .ok (.istore 7, 2) := by decide +kernel
theorem dX10_move_137 : decode cX10_move 137 = .ok (.iload 7, 2) := by decide +kernel
theorem dX10_move_139 : decode cX10_move 139 = .ok (.bipush 9, 2) := by decide +kernel
theorem dX10_move_141 : decode cX10_move 141 = .ok (.if_icmp .ge 37, 3) := by decide +kernel
theorem dX10_move_144 : decode cX10_move 144 = .ok (.aload_n 0, 1) := by decide +kernel
theorem dX10_move_145 : decode cX10_move 145 = .ok (.getfield 24, 3) := by decide +kernel
theorem dX10_move_148 : decode cX10_move 148 = .ok (.iload_n 1, 1) := by decide +kernel
theorem dX10_move_149 : decode cX10_move 149 = .ok (.iload 4, 2) := by decide +kernel
theorem dX10_move_151 : decode cX10_move 151 = .ok (.iload 6, 2) := by decide +kernel
theorem dX10_move_153 : decode cX10_move 153 = .ok (.iadd, 1) := by decide +kernel
theorem dX10_move_154 : decode cX10_move 154 = .ok (.invokestatic 95, 3) := by decide +kernel
theorem dX10_move_157 : decode cX10_move 157 = .ok (.iload 7, 2) := by decide +kernel
theorem dX10_move_159 : decode cX10_move 159 = .ok (.iadd, 1) := by decide +kernel
theorem dX10_move_160 : decode cX10_move 160 = .ok (.aload 5, 2) := by decide +kernel
theorem dX10_move_162 : decode cX10_move 162 = .ok (.bipush 9, 2) := by decide +kernel
theorem dX10_move_164 : decode cX10_move 164 = .ok (.iload 6, 2) := by decide +kernel
theorem dX10_move_166 : decode cX10_move 166 = .ok (.imul, 1) := by decide +kernel
theorem dX10_move_167 : decode cX10_move 167 = .ok (.iload 7, 2) := by decide +kernel
theorem dX10_move_169 : decode cX10_move 169 = .ok (.iadd, 1) := by decide +kernel
theorem dX10_move_170 : decode cX10_move 170 = .ok (.iaload, 1) := by decide +kernel
theorem dX10_move_171 : decode cX10_move 171 = .ok (.iastore, 1) := by decide +kernel
theorem dX10_move_172 : decode cX10_move 172 = .ok (.iinc 7 1, 3) := by decide +kernel
theorem dX10_move_175 : decode cX10_move 175 = .ok (.goto (-38), 3) := by decide +kernel
theorem dX10_move_178 : decode cX10_move 178 = .ok (.iinc 6 1, 3) := by decide +kernel
theorem dX10_move_181 : decode cX10_move 181 = .ok (.goto (-63), 3) := by decide +kernel
theorem dX10_move_184 : decode cX10_move 184 = .ok (.iconst 1, 1) := by decide +kernel
theorem dX10_move_185 : decode cX10_move 185 = .ok (.ireturn, 1) := by decide +kernel
theorem dX10_take_0 : decode cX10_take 0 = .ok (.aload_n 0, 1) := by decide +kernel
theorem dX10_take_1 : decode cX10_take 1 = .ok (.iconst 0, 1) := by decide +kernel
theorem dX10_take_2 : decode cX10_take 2 = .ok (.putfield 1, 3) := by decide +kernel
theorem dX10_take_5 : decode cX10_take 5 = .ok (.aload_n 0, 1) := by decide +kernel
theorem dX10_take_6 : decode cX10_take 6 = .ok (.invokevirtual 171, 3) := by decide +kernel
theorem dX10_take_9 : decode cX10_take 9 = .ok (.iconst 0, 1) := by decide +kernel
theorem dX10_take_10 : decode cX10_take 10 = .ok (.istore_n 1, 1) := by decide +kernel
theorem dX10_take_11 : decode cX10_take 11 = .ok (.iload_n 1, 1) := by decide +kernel
theorem dX10_take_12 : decode cX10_take 12 = .ok (.bipush 127, 2) := by decide +kernel
theorem dX10_take_14 : decode cX10_take 14 = .ok (.if_icmp .ge 24, 3) := by decide +kernel
theorem dX10_take_17 : decode cX10_take 17 = .ok (.aload_n 0, 1) := by decide +kernel
theorem dX10_take_18 : decode cX10_take 18 = .ok (.getfield 24, 3) := by decide +kernel
theorem dX10_take_21 : decode cX10_take 21 = .ok (.iload_n 1, 1) := by decide +kernel
theorem dX10_take_22 : decode cX10_take 22 = .ok (.aload_n 0, 1) := by decide +kernel
theorem dX10_take_23 : decode cX10_take 23 = .ok (.getfield 24, 3) := by decide +kernel
theorem dX10_take_26 : decode cX10_take 26 = .ok (.bipush 127, 2) := by decide +kernel
theorem dX10_take_28 : decode cX10_take 28 = .ok (.iload_n 1, 1) := by decide +kernel
theorem dX10_take_29 : decode cX10_take 29 = .ok (.iadd, 1) := by decide +kernel
theorem dX10_take_30 : decode cX10_take 30 = .ok (.iaload, 1) := by decide +kernel
theorem dX10_take_31 : decode cX10_take 31 = .ok (.iastore, 1) := by decide +kernel
theorem dX10_take_32 : decode cX10_take 32 = .ok (.iinc 1 1, 3) := by decide +kernel
theorem dX10_take_35 : decode cX10_take 35 = .ok (.goto (-24), 3) := by decide +kernel
theorem dX10_take_38 : decode cX10_take 38 = .ok (.aload_n 0, 1) := by decide +kernel
theorem dX10_take_39 : decode cX10_take 39 = .ok (.iconst 0, 1) := by decide +kernel
theorem dX10_take_40 : decode cX10_take 40 = .ok (.invokevirtual 62, 3) := by decide +kernel
theorem dX10_take_43 : decode cX10_take 43 = .ok (.ireturn, 1) := by decide +kernel
theorem dX10_undo_0 : decode cX10_undo 0 = .ok (.aload_n 0, 1) := by decide +kernel
theorem dX10_undo_1 : decode cX10_undo 1 = .ok (.iconst 0, 1) := by decide +kernel
theorem dX10_undo_2 : decode cX10_undo 2 = .ok (.putfield 1, 3) := by decide +kernel
theorem dX10_undo_5 : decode cX10_undo 5 = .ok (.aload_n 0, 1) := by decide +kernel
theorem dX10_undo_6 : decode cX10_undo 6 = .ok (.getfield 92, 3) := by decide +kernel
theorem dX10_undo_9 : decode cX10_undo 9 = .ok (.ifCond .ne 5, 3) := by decide +kernel
theorem dX10_undo_12 : decode cX10_undo 12 = .ok (.iconst (-1), 1) := by decide +kernel
theorem dX10_undo_13 : decode cX10_undo 13 = .ok (.ireturn, 1) := by decide +kernel
theorem dX10_undo_14 : decode cX10_undo 14 = .ok (.aload_n 0, 1) := by decide +kernel
theorem dX10_undo_15 : decode cX10_undo 15 = .ok (.dup, 1) := by decide +kernel
theorem dX10_undo_16 : decode cX10_undo 16 = .ok (.getfield 92, 3) := by decide +kernel
theorem dX10_undo_19 : decode cX10_undo 19 = .ok (.iconst 1, 1) := by decide +kernel
theorem dX10_undo_20 : decode cX10_undo 20 = .ok (.isub, 1) := by decide +kernel
theorem dX10_undo_21 : decode cX10_undo 21 = .ok (.putfield 92, 3) := by decide +kernel
theorem dX10_undo_24 : decode cX10_undo 24 = .ok (.iconst 0, 1) := by decide +kernel
theorem dX10_undo_25 : decode cX10_undo 25 = .ok (.istore_n 1, 1) := by decide +kernel
theorem dX10_undo_26 : decode cX10_undo 26 = .ok (.iload_n 1, 1) := by decide +kernel
theorem dX10_undo_27 : decode cX10_undo 27 = .ok (.sipush 254, 3) := by decide +kernel
theorem dX10_undo_30 : decode cX10_undo 30 = .ok (.if_icmp .ge 30, 3) := by decide +kernel
theorem dX10_undo_33 : decode cX10_undo 33 = .ok (.aload_n 0, 1) := by decide +kernel
theorem dX10_undo_34 : decode cX10_undo 34 = .ok (.getfield 24, 3) := by decide +kernel
theorem dX10_undo_37 : decode cX10_undo 37 = .ok (.iload_n 1, 1) := by decide +kernel
theorem dX10_undo_38 : decode cX10_undo 38 = .ok (.aload_n 0, 1) := by decide +kernel
theorem dX10_undo_39 : decode cX10_undo 39 = .ok (.getfield 30, 3) := by decide +kernel
theorem dX10_undo_42 : decode cX10_undo 42 = .ok (.sipush 254, 3) := by decide +kernel
theorem dX10_undo_45 : decode cX10_undo 45 = .ok (.aload_n 0, 1) := by decide +kernel
theorem dX10_undo_46 : decode cX10_undo 46 = .ok (.getfield 92, 3) := by decide +kernel
theorem dX10_undo_49 : decode cX10_undo 49 = .ok (.imul, 1) := by decide +kernel
theorem dX10_undo_50 : decode cX10_undo 50 = .ok (.iload_n 1, 1) := by decide +kernel
theorem dX10_undo_51 : decode cX10_undo 51 = .ok (.iadd, 1) := by decide +kernel
theorem dX10_undo_52 : decode cX10_undo 52 = .ok (.iaload, 1) := by decide +kernel
theorem dX10_undo_53 : decode cX10_undo 53 = .ok (.iastore, 1) := by decide +kernel
theorem dX10_undo_54 : decode cX10_undo 54 = .ok (.iinc 1 1, 3) := by decide +kernel
theorem dX10_undo_57 : decode cX10_undo 57 = .ok (.goto (-31), 3) := by decide +kernel
theorem dX10_undo_60 : decode cX10_undo 60 = .ok (.aload_n 0, 1) := by decide +kernel
theorem dX10_undo_61 : decode cX10_undo 61 = .ok (.getfield 92, 3) := by decide +kernel
theorem dX10_undo_64 : decode cX10_undo 64 = .ok (.ireturn, 1) := by decide +kernel
theorem dL_line_0 : decode cL_line 0 = .ok (.aload 4, 2) := by decide +kernel
theorem dL_line_2 : decode cL_line 2 = .ok (.iconst 0, 1) := by decide +kernel
theorem dL_line_3 : decode cL_line 3 = .ok (.aload_n 0, 1) := by decide +kernel
theorem dL_line_4 : decode cL_line 4 = .ok (.iload_n 1, 1) := by decide +kernel
theorem dL_line_5 : decode cL_line 5 = .ok (.iload_n 2, 1) := by decide +kernel
theorem dL_line_6 : decode cL_line 6 = .ok (.iload_n 3, 1) := by decide +kernel
theorem dL_line_7 : decode cL_line 7 = .ok (.invokevirtual 7, 3) := by decide +kernel
theorem dL_line_10 : decode cL_line 10 = .ok (.i2l, 1) := by decide +kernel
theorem dL_line_11 : decode cL_line 11 = .ok (.lastore, 1) := by decide +kernel
theorem dL_line_12 : decode cL_line 12 = .ok (.goto 7, 3) := by decide +kernel
theorem dL_line_15 : decode cL_line 15 = .ok (.astore 5, 2) := by decide +kernel
theorem dL_line_17 : decode cL_line 17 = .ok (.iconst 1, 1) := by decide +kernel
theorem dL_line_18 : decode cL_line 18 = .ok (.ireturn, 1) := by decide +kernel
theorem dL_line_19 : decode cL_line 19 = .ok (.iconst 0, 1) := by decide +kernel
theorem dL_line_20 : decode cL_line 20 = .ok (.ireturn, 1) := by decide +kernel
theorem dL_law_0 : decode cL_law 0 = .ok (.new 8, 3) := by decide +kernel
theorem dL_law_3 : decode cL_law 3 = .ok (.dup, 1) := by decide +kernel
theorem dL_law_4 : decode cL_law 4 = .ok (.invokespecial 15, 3) := by decide +kernel
theorem dL_law_7 : decode cL_law 7 = .ok (.astore_n 1, 1) := by decide +kernel
theorem dL_law_8 : decode cL_law 8 = .ok (.new 16, 3) := by decide +kernel
theorem dL_law_11 : decode cL_law 11 = .ok (.dup, 1) := by decide +kernel
theorem dL_law_12 : decode cL_law 12 = .ok (.invokespecial 18, 3) := by decide +kernel
theorem dL_law_15 : decode cL_law 15 = .ok (.astore_n 2, 1) := by decide +kernel
theorem dL_law_16 : decode cL_law 16 = .ok (.iconst 1, 1) := by decide +kernel
theorem dL_law_17 : decode cL_law 17 = .ok (.newarray .long, 2) := by decide +kernel
theorem dL_law_19 : decode cL_law 19 = .ok (.astore_n 3, 1) := by decide +kernel
theorem dL_law_20 : decode cL_law 20 = .ok (.iconst 0, 1) := by decide +kernel
theorem dL_law_21 : decode cL_law 21 = .ok (.istore 4, 2) := by decide +kernel
theorem dL_law_23 : decode cL_law 23 = .ok (.iload 4, 2) := by decide +kernel
theorem dL_law_25 : decode cL_law 25 = .ok (.aload_n 0, 1) := by decide +kernel
theorem dL_law_26 : decode cL_law 26 = .ok (.arraylength, 1) := by decide +kernel
theorem dL_law_27 : decode cL_law 27 = .ok (.bipush 6, 2) := by decide +kernel
theorem dL_law_29 : decode cL_law 29 = .ok (.isub, 1) := by decide +kernel
theorem dL_law_30 : decode cL_law 30 = .ok (.if_icmp .gt 835, 3) := by decide +kernel
theorem dL_law_33 : decode cL_law 33 = .ok (.aload_n 0, 1) := by decide +kernel
theorem dL_law_34 : decode cL_law 34 = .ok (.iload 4, 2) := by decide +kernel
theorem dL_law_36 : decode cL_law 36 = .ok (.iaload, 1) := by decide +kernel
theorem dL_law_37 : decode cL_law 37 = .ok (.bipush 31, 2) := by decide +kernel
theorem dL_law_39 : decode cL_law 39 = .ok (.iand, 1) := by decide +kernel
theorem dL_law_40 : decode cL_law 40 = .ok (.tableswitch 819 0 19 #[96, 169, 194, 219, 232, 257, 337, 398, 435, 472, 521, 534, 547, 572, 621, 658, 695, 732, 793, 806], 96) := by decide +kernel
theorem dL_law_136 : decode cL_law 136 = .ok (.aload_n 1, 1) := by decide +kernel
theorem dL_law_137 : decode cL_law 137 = .ok (.aload_n 0, 1) := by decide +kernel
theorem dL_law_138 : decode cL_law 138 = .ok (.iload 4, 2) := by decide +kernel
theorem dL_law_140 : decode cL_law 140 = .ok (.iconst 1, 1) := by decide +kernel
theorem dL_law_141 : decode cL_law 141 = .ok (.iadd, 1) := by decide +kernel
theorem dL_law_142 : decode cL_law 142 = .ok (.iaload, 1) := by decide +kernel
theorem dL_law_143 : decode cL_law 143 = .ok (.aload_n 0, 1) := by decide +kernel
theorem dL_law_144 : decode cL_law 144 = .ok (.iload 4, 2) := by decide +kernel
theorem dL_law_146 : decode cL_law 146 = .ok (.iconst 2, 1) := by decide +kernel
theorem dL_law_147 : decode cL_law 147 = .ok (.iadd, 1) := by decide +kernel
theorem dL_law_148 : decode cL_law 148 = .ok (.iaload, 1) := by decide +kernel
theorem dL_law_149 : decode cL_law 149 = .ok (.aload_n 0, 1) := by decide +kernel
theorem dL_law_150 : decode cL_law 150 = .ok (.iload 4, 2) := by decide +kernel
theorem dL_law_152 : decode cL_law 152 = .ok (.iconst 3, 1) := by decide +kernel
theorem dL_law_153 : decode cL_law 153 = .ok (.iadd, 1) := by decide +kernel
theorem dL_law_154 : decode cL_law 154 = .ok (.iaload, 1) := by decide +kernel
theorem dL_law_155 : decode cL_law 155 = .ok (.aload_n 0, 1) := by decide +kernel
theorem dL_law_156 : decode cL_law 156 = .ok (.iload 4, 2) := by decide +kernel
theorem dL_law_158 : decode cL_law 158 = .ok (.iconst 4, 1) := by decide +kernel
theorem dL_law_159 : decode cL_law 159 = .ok (.iadd, 1) := by decide +kernel
theorem dL_law_160 : decode cL_law 160 = .ok (.iaload, 1) := by decide +kernel
theorem dL_law_161 : decode cL_law 161 = .ok (.aload_n 0, 1) := by decide +kernel
theorem dL_law_162 : decode cL_law 162 = .ok (.iload 4, 2) := by decide +kernel
theorem dL_law_164 : decode cL_law 164 = .ok (.iconst 5, 1) := by decide +kernel
theorem dL_law_165 : decode cL_law 165 = .ok (.iadd, 1) := by decide +kernel
theorem dL_law_166 : decode cL_law 166 = .ok (.iaload, 1) := by decide +kernel
theorem dL_law_167 : decode cL_law 167 = .ok (.invokevirtual 19, 3) := by decide +kernel
theorem dL_law_170 : decode cL_law 170 = .ok (.aload_n 2, 1) := by decide +kernel
theorem dL_law_171 : decode cL_law 171 = .ok (.aload_n 0, 1) := by decide +kernel
theorem dL_law_172 : decode cL_law 172 = .ok (.iload 4, 2) := by decide +kernel
theorem dL_law_174 : decode cL_law 174 = .ok (.iconst 1, 1) := by decide +kernel
theorem dL_law_175 : decode cL_law 175 = .ok (.iadd, 1) := by decide +kernel
theorem dL_law_176 : decode cL_law 176 = .ok (.iaload, 1) := by decide +kernel
theorem dL_law_177 : decode cL_law 177 = .ok (.aload_n 0, 1) := by decide +kernel
theorem dL_law_178 : decode cL_law 178 = .ok (.iload 4, 2) := by decide +kernel
theorem dL_law_180 : decode cL_law 180 = .ok (.iconst 2, 1) := by decide +kernel
theorem dL_law_181 : decode cL_law 181 = .ok (.iadd, 1) := by decide +kernel
theorem dL_law_182 : decode cL_law 182 = .ok (.iaload, 1) := by decide +kernel
theorem dL_law_183 : decode cL_law 183 = .ok (.aload_n 0, 1) := by decide +kernel
theorem dL_law_184 : decode cL_law 184 = .ok (.iload 4, 2) := by decide +kernel
theorem dL_law_186 : decode cL_law 186 = .ok (.iconst 3, 1) := by decide +kernel
theorem dL_law_187 : decode cL_law 187 = .ok (.iadd, 1) := by decide +kernel
theorem dL_law_188 : decode cL_law 188 = .ok (.iaload, 1) := by decide +kernel
theorem dL_law_189 : decode cL_law 189 = .ok (.aload_n 0, 1) := by decide +kernel
theorem dL_law_190 : decode cL_law 190 = .ok (.iload 4, 2) := by decide +kernel
theorem dL_law_192 : decode cL_law 192 = .ok (.iconst 4, 1) := by decide +kernel
theorem dL_law_193 : decode cL_law 193 = .ok (.iadd, 1) := by decide +kernel
theorem dL_law_194 : decode cL_law 194 = .ok (.iaload, 1) := by decide +kernel
theorem dL_law_195 : decode cL_law 195 = .ok (.aload_n 0, 1) := by decide +kernel
theorem dL_law_196 : decode cL_law 196 = .ok (.iload 4, 2) := by decide +kernel
theorem dL_law_198 : decode cL_law 198 = .ok (.iconst 5, 1) := by decide +kernel
theorem dL_law_199 : decode cL_law 199 = .ok (.iadd, 1) := by decide +kernel
theorem dL_law_200 : decode cL_law 200 = .ok (.iaload, 1) := by decide +kernel
theorem dL_law_201 : decode cL_law 201 = .ok (.invokevirtual 23, 3) := by decide +kernel
theorem dL_law_204 : decode cL_law 204 = .ok (.if_icmp .eq 655, 3) := by decide +kernel
theorem dL_law_207 : decode cL_law 207 = .ok (.iconst 0, 1) := by decide +kernel
theorem dL_law_208 : decode cL_law 208 = .ok (.ireturn, 1) := by decide +kernel
theorem dL_law_209 : decode cL_law 209 = .ok (.aload_n 1, 1) := by decide +kernel
theorem dL_law_210 : decode cL_law 210 = .ok (.aload_n 0, 1) := by decide +kernel
theorem dL_law_211 : decode cL_law 211 = .ok (.iload 4, 2) := by decide +kernel
theorem dL_law_213 : decode cL_law 213 = .ok (.iconst 1, 1) := by decide +kernel
theorem dL_law_214 : decode cL_law 214 = .ok (.iadd, 1) := by decide +kernel
theorem dL_law_215 : decode cL_law 215 = .ok (.iaload, 1) := by decide +kernel
theorem dL_law_216 : decode cL_law 216 = .ok (.invokevirtual 24, 3) := by decide +kernel
theorem dL_law_219 : decode cL_law 219 = .ok (.aload_n 2, 1) := by decide +kernel
theorem dL_law_220 : decode cL_law 220 = .ok (.aload_n 0, 1) := by decide +kernel
theorem dL_law_221 : decode cL_law 221 = .ok (.iload 4, 2) := by decide +kernel
theorem dL_law_223 : decode cL_law 223 = .ok (.iconst 1, 1) := by decide +kernel
theorem dL_law_224 : decode cL_law 224 = .ok (.iadd, 1) := by decide +kernel
theorem dL_law_225 : decode cL_law 225 = .ok (.iaload, 1) := by decide +kernel
theorem dL_law_226 : decode cL_law 226 = .ok (.invokevirtual 28, 3) := by decide +kernel
theorem dL_law_229 : decode cL_law 229 = .ok (.if_icmp .eq 630, 3) := by decide +kernel
theorem dL_law_232 : decode cL_law 232 = .ok (.iconst 0, 1) := by decide +kernel
theorem dL_law_233 : decode cL_law 233 = .ok (.ireturn, 1) := by decide +kernel
theorem dL_law_234 : decode cL_law 234 = .ok (.aload_n 1, 1) := by decide +kernel
theorem dL_law_235 : decode cL_law 235 = .ok (.aload_n 0, 1) := by decide +kernel
theorem dL_law_236 : decode cL_law 236 = .ok (.iload 4, 2) := by decide +kernel
theorem dL_law_238 : decode cL_law 238 = .ok (.iconst 1, 1) := by decide +kernel
theorem dL_law_239 : decode cL_law 239 = .ok (.iadd, 1) := by decide +kernel
theorem dL_law_240 : decode cL_law 240 = .ok (.iaload, 1) := by decide +kernel
theorem dL_law_241 : decode cL_law 241 = .ok (.invokevirtual 29, 3) := by decide +kernel
theorem dL_law_244 : decode cL_law 244 = .ok (.aload_n 2, 1) := by decide +kernel
theorem dL_law_245 : decode cL_law 245 = .ok (.aload_n 0, 1) := by decide +kernel
theorem dL_law_246 : decode cL_law 246 = .ok (.iload 4, 2) := by decide +kernel
theorem dL_law_248 : decode cL_law 248 = .ok (.iconst 1, 1) := by decide +kernel
theorem dL_law_249 : decode cL_law 249 = .ok (.iadd, 1) := by decide +kernel
theorem dL_law_250 : decode cL_law 250 = .ok (.iaload, 1) := by decide +kernel
theorem dL_law_251 : decode cL_law 251 = .ok (.invokevirtual 33, 3) := by decide +kernel
theorem dL_law_254 : decode cL_law 254 = .ok (.if_icmp .eq 605, 3) := by decide +kernel
theorem dL_law_257 : decode cL_law 257 = .ok (.iconst 0, 1) := by decide +kernel
theorem dL_law_258 : decode cL_law 258 = .ok (.ireturn, 1) := by decide +kernel
theorem dL_law_259 : decode cL_law 259 = .ok (.aload_n 1, 1) := by decide +kernel
theorem dL_law_260 : decode cL_law 260 = .ok (.invokevirtual 34, 3) := by decide +kernel
theorem dL_law_263 : decode cL_law 263 = .ok (.aload_n 2, 1) := by decide +kernel
theorem dL_law_264 : decode cL_law 264 = .ok (.invokevirtual 38, 3) := by decide +kernel
theorem dL_law_267 : decode cL_law 267 = .ok (.if_icmp .eq 592, 3) := by decide +kernel
theorem dL_law_270 : decode cL_law 270 = .ok (.iconst 0, 1) := by decide +kernel
theorem dL_law_271 : decode cL_law 271 = .ok (.ireturn, 1) := by decide +kernel
theorem dL_law_272 : decode cL_law 272 = .ok (.aload_n 1, 1) := by decide +kernel
theorem dL_law_273 : decode cL_law 273 = .ok (.aload_n 0, 1) := by decide +kernel
theorem dL_law_274 : decode cL_law 274 = .ok (.iload 4, 2) := by decide +kernel
theorem dL_law_276 : decode cL_law 276 = .ok (.iconst 1, 1) := by decide +kernel
theorem dL_law_277 : decode cL_law 277 = .ok (.iadd, 1) := by decide +kernel
theorem dL_law_278 : decode cL_law 278 = .ok (.iaload, 1) := by decide +kernel
theorem dL_law_279 : decode cL_law 279 = .ok (.invokevirtual 39, 3) := by decide +kernel
theorem dL_law_282 : decode cL_law 282 = .ok (.aload_n 2, 1) := by decide +kernel
theorem dL_law_283 : decode cL_law 283 = .ok (.aload_n 0, 1) := by decide +kernel
theorem dL_law_284 : decode cL_law 284 = .ok (.iload 4, 2) := by decide +kernel
theorem dL_law_286 : decode cL_law 286 = .ok (.iconst 1, 1) := by decide +kernel
theorem dL_law_287 : decode cL_law 287 = .ok (.iadd, 1) := by decide +kernel
theorem dL_law_288 : decode cL_law 288 = .ok (.iaload, 1) := by decide +kernel
theorem dL_law_289 : decode cL_law 289 = .ok (.invokevirtual 42, 3) := by decide +kernel
theorem dL_law_292 : decode cL_law 292 = .ok (.if_icmp .eq 567, 3) := by decide +kernel
theorem dL_law_295 : decode cL_law 295 = .ok (.iconst 0, 1) := by decide +kernel
theorem dL_law_296 : decode cL_law 296 = .ok (.ireturn, 1) := by decide +kernel
theorem dL_law_297 : decode cL_law 297 = .ok (.aload_n 1, 1) := by decide +kernel
theorem dL_law_298 : decode cL_law 298 = .ok (.aload_n 0, 1) := by decide +kernel
theorem dL_law_299 : decode cL_law 299 = .ok (.iload 4, 2) := by decide +kernel
theorem dL_law_301 : decode cL_law 301 = .ok (.iconst 1, 1) := by decide +kernel
theorem dL_law_302 : decode cL_law 302 = .ok (.iadd, 1) := by decide +kernel
theorem dL_law_303 : decode cL_law 303 = .ok (.iaload, 1) := by decide +kernel
theorem dL_law_304 : decode cL_law 304 = .ok (.aload_n 0, 1) := by decide +kernel
theorem dL_law_305 : decode cL_law 305 = .ok (.iload 4, 2) := by decide +kernel
theorem dL_law_307 : decode cL_law 307 = .ok (.iconst 2, 1) := by decide +kernel
theorem dL_law_308 : decode cL_law 308 = .ok (.iadd, 1) := by decide +kernel
theorem dL_law_309 : decode cL_law 309 = .ok (.iaload, 1) := by decide +kernel
theorem dL_law_310 : decode cL_law 310 = .ok (.aload_n 0, 1) := by decide +kernel
theorem dL_law_311 : decode cL_law 311 = .ok (.iload 4, 2) := by decide +kernel
theorem dL_law_313 : decode cL_law 313 = .ok (.iconst 3, 1) := by decide +kernel
theorem dL_law_314 : decode cL_law 314 = .ok (.iadd, 1) := by decide +kernel
theorem dL_law_315 : decode cL_law 315 = .ok (.iaload, 1) := by decide +kernel
theorem dL_law_316 : decode cL_law 316 = .ok (.aload_n 3, 1) := by decide +kernel
theorem dL_law_317 : decode cL_law 317 = .ok (.invokestatic 43, 3) := by decide +kernel
theorem dL_law_320 : decode cL_law 320 = .ok (.istore 5, 2) := by decide +kernel
theorem dL_law_322 : decode cL_law 322 = .ok (.aload_n 2, 1) := by decide +kernel
theorem dL_law_323 : decode cL_law 323 = .ok (.aload_n 0, 1) := by decide +kernel
theorem dL_law_324 : decode cL_law 324 = .ok (.iload 4, 2) := by decide +kernel
theorem dL_law_326 : decode cL_law 326 = .ok (.iconst 1, 1) := by decide +kernel
theorem dL_law_327 : decode cL_law 327 = .ok (.iadd, 1) := by decide +kernel
theorem dL_law_328 : decode cL_law 328 = .ok (.iaload, 1) := by decide +kernel
theorem dL_law_329 : decode cL_law 329 = .ok (.aload_n 0, 1) := by decide +kernel
theorem dL_law_330 : decode cL_law 330 = .ok (.iload 4, 2) := by decide +kernel
theorem dL_law_332 : decode cL_law 332 = .ok (.iconst 2, 1) := by decide +kernel
theorem dL_law_333 : decode cL_law 333 = .ok (.iadd, 1) := by decide +kernel
theorem dL_law_334 : decode cL_law 334 = .ok (.iaload, 1) := by decide +kernel
theorem dL_law_335 : decode cL_law 335 = .ok (.aload_n 0, 1) := by decide +kernel
theorem dL_law_336 : decode cL_law 336 = .ok (.iload 4, 2) := by decide +kernel
theorem dL_law_338 : decode cL_law 338 = .ok (.iconst 3, 1) := by decide +kernel
theorem dL_law_339 : decode cL_law 339 = .ok (.iadd, 1) := by decide +kernel
theorem dL_law_340 : decode cL_law 340 = .ok (.iaload, 1) := by decide +kernel
theorem dL_law_341 : decode cL_law 341 = .ok (.invokevirtual 48, 3) := by decide +kernel
theorem dL_law_344 : decode cL_law 344 = .ok (.istore 6, 2) := by decide +kernel
theorem dL_law_346 : decode cL_law 346 = .ok (.aload_n 2, 1) := by decide +kernel
theorem dL_law_347 : decode cL_law 347 = .ok (.invokevirtual 49, 3) := by decide +kernel
theorem dL_law_350 : decode cL_law 350 = .ok (.iload 5, 2) := by decide +kernel
theorem dL_law_352 : decode cL_law 352 = .ok (.if_icmp .eq 5, 3) := by decide +kernel
theorem dL_law_355 : decode cL_law 355 = .ok (.iconst 0, 1) := by decide +kernel
theorem dL_law_356 : decode cL_law 356 = .ok (.ireturn, 1) := by decide +kernel
theorem dL_law_357 : decode cL_law 357 = .ok (.iload 5, 2) := by decide +kernel
theorem dL_law_359 : decode cL_law 359 = .ok (.ifCond .ne 15, 3) := by decide +kernel
theorem dL_law_362 : decode cL_law 362 = .ok (.aload_n 3, 1) := by decide +kernel
theorem dL_law_363 : decode cL_law 363 = .ok (.iconst 0, 1) := by decide +kernel
theorem dL_law_364 : decode cL_law 364 = .ok (.laload, 1) := by decide +kernel
theorem dL_law_365 : decode cL_law 365 = .ok (.iload 6, 2) := by decide +kernel
theorem dL_law_367 : decode cL_law 367 = .ok (.i2l, 1) := by decide +kernel
theorem dL_law_368 : decode cL_law 368 = .ok (.lcmp, 1) := by decide +kernel
theorem dL_law_369 : decode cL_law 369 = .ok (.ifCond .eq 5, 3) := by decide +kernel
theorem dL_law_372 : decode cL_law 372 = .ok (.iconst 0, 1) := by decide +kernel
theorem dL_law_373 : decode cL_law 373 = .ok (.ireturn, 1) := by decide +kernel
theorem dL_law_374 : decode cL_law 374 = .ok (.goto 485, 3) := by decide +kernel
theorem dL_law_377 : decode cL_law 377 = .ok (.aload_n 1, 1) := by decide +kernel
theorem dL_law_378 : decode cL_law 378 = .ok (.aload_n 0, 1) := by decide +kernel
theorem dL_law_379 : decode cL_law 379 = .ok (.iload 4, 2) := by decide +kernel
theorem dL_law_381 : decode cL_law 381 = .ok (.iconst 1, 1) := by decide +kernel
theorem dL_law_382 : decode cL_law 382 = .ok (.iadd, 1) := by decide +kernel
theorem dL_law_383 : decode cL_law 383 = .ok (.iaload, 1) := by decide +kernel
theorem dL_law_384 : decode cL_law 384 = .ok (.aload_n 0, 1) := by decide +kernel
theorem dL_law_385 : decode cL_law 385 = .ok (.iload 4, 2) := by decide +kernel
theorem dL_law_387 : decode cL_law 387 = .ok (.iconst 2, 1) := by decide +kernel
theorem dL_law_388 : decode cL_law 388 = .ok (.iadd, 1) := by decide +kernel
theorem dL_law_389 : decode cL_law 389 = .ok (.iaload, 1) := by decide +kernel
theorem dL_law_390 : decode cL_law 390 = .ok (.aload_n 0, 1) := by decide +kernel
theorem dL_law_391 : decode cL_law 391 = .ok (.iload 4, 2) := by decide +kernel
theorem dL_law_393 : decode cL_law 393 = .ok (.iconst 3, 1) := by decide +kernel
theorem dL_law_394 : decode cL_law 394 = .ok (.iadd, 1) := by decide +kernel
theorem dL_law_395 : decode cL_law 395 = .ok (.iaload, 1) := by decide +kernel
theorem dL_law_396 : decode cL_law 396 = .ok (.aload_n 0, 1) := by decide +kernel
theorem dL_law_397 : decode cL_law 397 = .ok (.iload 4, 2) := by decide +kernel
theorem dL_law_399 : decode cL_law 399 = .ok (.iconst 4, 1) := by decide +kernel
theorem dL_law_400 : decode cL_law 400 = .ok (.iadd, 1) := by decide +kernel
theorem dL_law_401 : decode cL_law 401 = .ok (.iaload, 1) := by decide +kernel
theorem dL_law_402 : decode cL_law 402 = .ok (.invokevirtual 52, 3) := by decide +kernel
theorem dL_law_405 : decode cL_law 405 = .ok (.aload_n 2, 1) := by decide +kernel
theorem dL_law_406 : decode cL_law 406 = .ok (.aload_n 0, 1) := by decide +kernel
theorem dL_law_407 : decode cL_law 407 = .ok (.iload 4, 2) := by decide +kernel
theorem dL_law_409 : decode cL_law 409 = .ok (.iconst 1, 1) := by decide +kernel
theorem dL_law_410 : decode cL_law 410 = .ok (.iadd, 1) := by decide +kernel
theorem dL_law_411 : decode cL_law 411 = .ok (.iaload, 1) := by decide +kernel
theorem dL_law_412 : decode cL_law 412 = .ok (.aload_n 0, 1) := by decide +kernel
theorem dL_law_413 : decode cL_law 413 = .ok (.iload 4, 2) := by decide +kernel
theorem dL_law_415 : decode cL_law 415 = .ok (.iconst 2, 1) := by decide +kernel
theorem dL_law_416 : decode cL_law 416 = .ok (.iadd, 1) := by decide +kernel
theorem dL_law_417 : decode cL_law 417 = .ok (.iaload, 1) := by decide +kernel
theorem dL_law_418 : decode cL_law 418 = .ok (.aload_n 0, 1) := by decide +kernel
theorem dL_law_419 : decode cL_law 419 = .ok (.iload 4, 2) := by decide +kernel
theorem dL_law_421 : decode cL_law 421 = .ok (.iconst 3, 1) := by decide +kernel
theorem dL_law_422 : decode cL_law 422 = .ok (.iadd, 1) := by decide +kernel
theorem dL_law_423 : decode cL_law 423 = .ok (.iaload, 1) := by decide +kernel
theorem dL_law_424 : decode cL_law 424 = .ok (.aload_n 0, 1) := by decide +kernel
theorem dL_law_425 : decode cL_law 425 = .ok (.iload 4, 2) := by decide +kernel
theorem dL_law_427 : decode cL_law 427 = .ok (.iconst 4, 1) := by decide +kernel
theorem dL_law_428 : decode cL_law 428 = .ok (.iadd, 1) := by decide +kernel
theorem dL_law_429 : decode cL_law 429 = .ok (.iaload, 1) := by decide +kernel
theorem dL_law_430 : decode cL_law 430 = .ok (.invokevirtual 56, 3) := by decide +kernel
theorem dL_law_433 : decode cL_law 433 = .ok (.if_icmp .eq 426, 3) := by decide +kernel
theorem dL_law_436 : decode cL_law 436 = .ok (.iconst 0, 1) := by decide +kernel
theorem dL_law_437 : decode cL_law 437 = .ok (.ireturn, 1) := by decide +kernel
theorem dL_law_438 : decode cL_law 438 = .ok (.aload_n 1, 1) := by decide +kernel
theorem dL_law_439 : decode cL_law 439 = .ok (.aload_n 0, 1) := by decide +kernel
theorem dL_law_440 : decode cL_law 440 = .ok (.iload 4, 2) := by decide +kernel
theorem dL_law_442 : decode cL_law 442 = .ok (.iconst 1, 1) := by decide +kernel
theorem dL_law_443 : decode cL_law 443 = .ok (.iadd, 1) := by decide +kernel
theorem dL_law_444 : decode cL_law 444 = .ok (.iaload, 1) := by decide +kernel
theorem dL_law_445 : decode cL_law 445 = .ok (.aload_n 0, 1) := by decide +kernel
theorem dL_law_446 : decode cL_law 446 = .ok (.iload 4, 2) := by decide +kernel
theorem dL_law_448 : decode cL_law 448 = .ok (.iconst 2, 1) := by decide +kernel
theorem dL_law_449 : decode cL_law 449 = .ok (.iadd, 1) := by decide +kernel
theorem dL_law_450 : decode cL_law 450 = .ok (.iaload, 1) := by decide +kernel
theorem dL_law_451 : decode cL_law 451 = .ok (.invokevirtual 57, 3) := by decide +kernel
theorem dL_law_454 : decode cL_law 454 = .ok (.aload_n 2, 1) := by decide +kernel
theorem dL_law_455 : decode cL_law 455 = .ok (.aload_n 0, 1) := by decide +kernel
theorem dL_law_456 : decode cL_law 456 = .ok (.iload 4, 2) := by decide +kernel
theorem dL_law_458 : decode cL_law 458 = .ok (.iconst 1, 1) := by decide +kernel
theorem dL_law_459 : decode cL_law 459 = .ok (.iadd, 1) := by decide +kernel
theorem dL_law_460 : decode cL_law 460 = .ok (.iaload, 1) := by decide +kernel
theorem dL_law_461 : decode cL_law 461 = .ok (.aload_n 0, 1) := by decide +kernel
theorem dL_law_462 : decode cL_law 462 = .ok (.iload 4, 2) := by decide +kernel
theorem dL_law_464 : decode cL_law 464 = .ok (.iconst 2, 1) := by decide +kernel
theorem dL_law_465 : decode cL_law 465 = .ok (.iadd, 1) := by decide +kernel
theorem dL_law_466 : decode cL_law 466 = .ok (.iaload, 1) := by decide +kernel
theorem dL_law_467 : decode cL_law 467 = .ok (.invokevirtual 61, 3) := by decide +kernel
theorem dL_law_470 : decode cL_law 470 = .ok (.if_icmp .eq 389, 3) := by decide +kernel
theorem dL_law_473 : decode cL_law 473 = .ok (.iconst 0, 1) := by decide +kernel
theorem dL_law_474 : decode cL_law 474 = .ok (.ireturn, 1) := by decide +kernel
theorem dL_law_475 : decode cL_law 475 = .ok (.aload_n 1, 1) := by decide +kernel
theorem dL_law_476 : decode cL_law 476 = .ok (.aload_n 0, 1) := by decide +kernel
theorem dL_law_477 : decode cL_law 477 = .ok (.iload 4, 2) := by decide +kernel
theorem dL_law_479 : decode cL_law 479 = .ok (.iconst 1, 1) := by decide +kernel
theorem dL_law_480 : decode cL_law 480 = .ok (.iadd, 1) := by decide +kernel
theorem dL_law_481 : decode cL_law 481 = .ok (.iaload, 1) := by decide +kernel
theorem dL_law_482 : decode cL_law 482 = .ok (.aload_n 0, 1) := by decide +kernel
theorem dL_law_483 : decode cL_law 483 = .ok (.iload 4, 2) := by decide +kernel
theorem dL_law_485 : decode cL_law 485 = .ok (.iconst 2, 1) := by decide +kernel
theorem dL_law_486 : decode cL_law 486 = .ok (.iadd, 1) := by decide +kernel
theorem dL_law_487 : decode cL_law 487 = .ok (.iaload, 1) := by decide +kernel
theorem dL_law_488 : decode cL_law 488 = .ok (.invokevirtual 62, 3) := by decide +kernel
theorem dL_law_491 : decode cL_law 491 = .ok (.aload_n 2, 1) := by decide +kernel
theorem dL_law_492 : decode cL_law 492 = .ok (.aload_n 0, 1) := by decide +kernel
theorem dL_law_493 : decode cL_law 493 = .ok (.iload 4, 2) := by decide +kernel
theorem dL_law_495 : decode cL_law 495 = .ok (.iconst 1, 1) := by decide +kernel
theorem dL_law_496 : decode cL_law 496 = .ok (.iadd, 1) := by decide +kernel
theorem dL_law_497 : decode cL_law 497 = .ok (.iaload, 1) := by decide +kernel
theorem dL_law_498 : decode cL_law 498 = .ok (.aload_n 0, 1) := by decide +kernel
theorem dL_law_499 : decode cL_law 499 = .ok (.iload 4, 2) := by decide +kernel
theorem dL_law_501 : decode cL_law 501 = .ok (.iconst 2, 1) := by decide +kernel
theorem dL_law_502 : decode cL_law 502 = .ok (.iadd, 1) := by decide +kernel
theorem dL_law_503 : decode cL_law 503 = .ok (.iaload, 1) := by decide +kernel
theorem dL_law_504 : decode cL_law 504 = .ok (.invokevirtual 65, 3) := by decide +kernel
theorem dL_law_507 : decode cL_law 507 = .ok (.if_icmp .eq 352, 3) := by decide +kernel
theorem dL_law_510 : decode cL_law 510 = .ok (.iconst 0, 1) := by decide +kernel
theorem dL_law_511 : decode cL_law 511 = .ok (.ireturn, 1) := by decide +kernel
theorem dL_law_512 : decode cL_law 512 = .ok (.aload_n 1, 1) := by decide +kernel
theorem dL_law_513 : decode cL_law 513 = .ok (.aload_n 0, 1) := by decide +kernel
theorem dL_law_514 : decode cL_law 514 = .ok (.iload 4, 2) := by decide +kernel
theorem dL_law_516 : decode cL_law 516 = .ok (.iconst 1, 1) := by decide +kernel
theorem dL_law_517 : decode cL_law 517 = .ok (.iadd, 1) := by decide +kernel
theorem dL_law_518 : decode cL_law 518 = .ok (.iaload, 1) := by decide +kernel
theorem dL_law_519 : decode cL_law 519 = .ok (.aload_n 0, 1) := by decide +kernel
theorem dL_law_520 : decode cL_law 520 = .ok (.iload 4, 2) := by decide +kernel
theorem dL_law_522 : decode cL_law 522 = .ok (.iconst 2, 1) := by decide +kernel
theorem dL_law_523 : decode cL_law 523 = .ok (.iadd, 1) := by decide +kernel
theorem dL_law_524 : decode cL_law 524 = .ok (.iaload, 1) := by decide +kernel
theorem dL_law_525 : decode cL_law 525 = .ok (.aload_n 0, 1) := by decide +kernel
theorem dL_law_526 : decode cL_law 526 = .ok (.iload 4, 2) := by decide +kernel
theorem dL_law_528 : decode cL_law 528 = .ok (.iconst 3, 1) := by decide +kernel
theorem dL_law_529 : decode cL_law 529 = .ok (.iadd, 1) := by decide +kernel
theorem dL_law_530 : decode cL_law 530 = .ok (.iaload, 1) := by decide +kernel
theorem dL_law_531 : decode cL_law 531 = .ok (.invokevirtual 66, 3) := by decide +kernel
theorem dL_law_534 : decode cL_law 534 = .ok (.aload_n 2, 1) := by decide +kernel
theorem dL_law_535 : decode cL_law 535 = .ok (.aload_n 0, 1) := by decide +kernel
theorem dL_law_536 : decode cL_law 536 = .ok (.iload 4, 2) := by decide +kernel
theorem dL_law_538 : decode cL_law 538 = .ok (.iconst 1, 1) := by decide +kernel
theorem dL_law_539 : decode cL_law 539 = .ok (.iadd, 1) := by decide +kernel
theorem dL_law_540 : decode cL_law 540 = .ok (.iaload, 1) := by decide +kernel
theorem dL_law_541 : decode cL_law 541 = .ok (.aload_n 0, 1) := by decide +kernel
theorem dL_law_542 : decode cL_law 542 = .ok (.iload 4, 2) := by decide +kernel
theorem dL_law_544 : decode cL_law 544 = .ok (.iconst 2, 1) := by decide +kernel
theorem dL_law_545 : decode cL_law 545 = .ok (.iadd, 1) := by decide +kernel
theorem dL_law_546 : decode cL_law 546 = .ok (.iaload, 1) := by decide +kernel
theorem dL_law_547 : decode cL_law 547 = .ok (.aload_n 0, 1) := by decide +kernel
theorem dL_law_548 : decode cL_law 548 = .ok (.iload 4, 2) := by decide +kernel
theorem dL_law_550 : decode cL_law 550 = .ok (.iconst 3, 1) := by decide +kernel
theorem dL_law_551 : decode cL_law 551 = .ok (.iadd, 1) := by decide +kernel
theorem dL_law_552 : decode cL_law 552 = .ok (.iaload, 1) := by decide +kernel
theorem dL_law_553 : decode cL_law 553 = .ok (.invokevirtual 69, 3) := by decide +kernel
theorem dL_law_556 : decode cL_law 556 = .ok (.if_icmp .eq 303, 3) := by decide +kernel
theorem dL_law_559 : decode cL_law 559 = .ok (.iconst 0, 1) := by decide +kernel
theorem dL_law_560 : decode cL_law 560 = .ok (.ireturn, 1) := by decide +kernel
theorem dL_law_561 : decode cL_law 561 = .ok (.aload_n 1, 1) := by decide +kernel
theorem dL_law_562 : decode cL_law 562 = .ok (.invokevirtual 70, 3) := by decide +kernel
theorem dL_law_565 : decode cL_law 565 = .ok (.aload_n 2, 1) := by decide +kernel
theorem dL_law_566 : decode cL_law 566 = .ok (.invokevirtual 73, 3) := by decide +kernel
theorem dL_law_569 : decode cL_law 569 = .ok (.if_icmp .eq 290, 3) := by decide +kernel
theorem dL_law_572 : decode cL_law 572 = .ok (.iconst 0, 1) := by decide +kernel
theorem dL_law_573 : decode cL_law 573 = .ok (.ireturn, 1) := by decide +kernel
theorem dL_law_574 : decode cL_law 574 = .ok (.aload_n 1, 1) := by decide +kernel
theorem dL_law_575 : decode cL_law 575 = .ok (.invokevirtual 74, 3) := by decide +kernel
theorem dL_law_578 : decode cL_law 578 = .ok (.aload_n 2, 1) := by decide +kernel
theorem dL_law_579 : decode cL_law 579 = .ok (.invokevirtual 77, 3) := by decide +kernel
theorem dL_law_582 : decode cL_law 582 = .ok (.if_icmp .eq 277, 3) := by decide +kernel
theorem dL_law_585 : decode cL_law 585 = .ok (.iconst 0, 1) := by decide +kernel
theorem dL_law_586 : decode cL_law 586 = .ok (.ireturn, 1) := by decide +kernel
theorem dL_law_587 : decode cL_law 587 = .ok (.aload_n 1, 1) := by decide +kernel
theorem dL_law_588 : decode cL_law 588 = .ok (.aload_n 0, 1) := by decide +kernel
theorem dL_law_589 : decode cL_law 589 = .ok (.iload 4, 2) := by decide +kernel
theorem dL_law_591 : decode cL_law 591 = .ok (.iconst 1, 1) := by decide +kernel
theorem dL_law_592 : decode cL_law 592 = .ok (.iadd, 1) := by decide +kernel
theorem dL_law_593 : decode cL_law 593 = .ok (.iaload, 1) := by decide +kernel
theorem dL_law_594 : decode cL_law 594 = .ok (.invokevirtual 78, 3) := by decide +kernel
theorem dL_law_597 : decode cL_law 597 = .ok (.aload_n 2, 1) := by decide +kernel
theorem dL_law_598 : decode cL_law 598 = .ok (.aload_n 0, 1) := by decide +kernel
theorem dL_law_599 : decode cL_law 599 = .ok (.iload 4, 2) := by decide +kernel
theorem dL_law_601 : decode cL_law 601 = .ok (.iconst 1, 1) := by decide +kernel
theorem dL_law_602 : decode cL_law 602 = .ok (.iadd, 1) := by decide +kernel
theorem dL_law_603 : decode cL_law 603 = .ok (.iaload, 1) := by decide +kernel
theorem dL_law_604 : decode cL_law 604 = .ok (.invokevirtual 81, 3) := by decide +kernel
theorem dL_law_607 : decode cL_law 607 = .ok (.if_icmp .eq 252, 3) := by decide +kernel
theorem dL_law_610 : decode cL_law 610 = .ok (.iconst 0, 1) := by decide +kernel
theorem dL_law_611 : decode cL_law 611 = .ok (.ireturn, 1) := by decide +kernel
theorem dL_law_612 : decode cL_law 612 = .ok (.aload_n 1, 1) := by decide +kernel
theorem dL_law_613 : decode cL_law 613 = .ok (.aload_n 0, 1) := by decide +kernel
theorem dL_law_614 : decode cL_law 614 = .ok (.iload 4, 2) := by decide +kernel
theorem dL_law_616 : decode cL_law 616 = .ok (.iconst 1, 1) := by decide +kernel
theorem dL_law_617 : decode cL_law 617 = .ok (.iadd, 1) := by decide +kernel
theorem dL_law_618 : decode cL_law 618 = .ok (.iaload, 1) := by decide +kernel
theorem dL_law_619 : decode cL_law 619 = .ok (.aload_n 0, 1) := by decide +kernel
theorem dL_law_620 : decode cL_law 620 = .ok (.iload 4, 2) := by decide +kernel
theorem dL_law_622 : decode cL_law 622 = .ok (.iconst 2, 1) := by decide +kernel
theorem dL_law_623 : decode cL_law 623 = .ok (.iadd, 1) := by decide +kernel
theorem dL_law_624 : decode cL_law 624 = .ok (.iaload, 1) := by decide +kernel
theorem dL_law_625 : decode cL_law 625 = .ok (.aload_n 0, 1) := by decide +kernel
theorem dL_law_626 : decode cL_law 626 = .ok (.iload 4, 2) := by decide +kernel
theorem dL_law_628 : decode cL_law 628 = .ok (.iconst 3, 1) := by decide +kernel
theorem dL_law_629 : decode cL_law 629 = .ok (.iadd, 1) := by decide +kernel
theorem dL_law_630 : decode cL_law 630 = .ok (.iaload, 1) := by decide +kernel
theorem dL_law_631 : decode cL_law 631 = .ok (.invokevirtual 82, 3) := by decide +kernel
theorem dL_law_634 : decode cL_law 634 = .ok (.aload_n 2, 1) := by decide +kernel
theorem dL_law_635 : decode cL_law 635 = .ok (.aload_n 0, 1) := by decide +kernel
theorem dL_law_636 : decode cL_law 636 = .ok (.iload 4, 2) := by decide +kernel
theorem dL_law_638 : decode cL_law 638 = .ok (.iconst 1, 1) := by decide +kernel
theorem dL_law_639 : decode cL_law 639 = .ok (.iadd, 1) := by decide +kernel
theorem dL_law_640 : decode cL_law 640 = .ok (.iaload, 1) := by decide +kernel
theorem dL_law_641 : decode cL_law 641 = .ok (.aload_n 0, 1) := by decide +kernel
theorem dL_law_642 : decode cL_law 642 = .ok (.iload 4, 2) := by decide +kernel
theorem dL_law_644 : decode cL_law 644 = .ok (.iconst 2, 1) := by decide +kernel
theorem dL_law_645 : decode cL_law 645 = .ok (.iadd, 1) := by decide +kernel
theorem dL_law_646 : decode cL_law 646 = .ok (.iaload, 1) := by decide +kernel
theorem dL_law_647 : decode cL_law 647 = .ok (.aload_n 0, 1) := by decide +kernel
theorem dL_law_648 : decode cL_law 648 = .ok (.iload 4, 2) := by decide +kernel
theorem dL_law_650 : decode cL_law 650 = .ok (.iconst 3, 1) := by decide +kernel
theorem dL_law_651 : decode cL_law 651 = .ok (.iadd, 1) := by decide +kernel
theorem dL_law_652 : decode cL_law 652 = .ok (.iaload, 1) := by decide +kernel
theorem dL_law_653 : decode cL_law 653 = .ok (.invokevirtual 85, 3) := by decide +kernel
theorem dL_law_656 : decode cL_law 656 = .ok (.if_icmp .eq 203, 3) := by decide +kernel
theorem dL_law_659 : decode cL_law 659 = .ok (.iconst 0, 1) := by decide +kernel
theorem dL_law_660 : decode cL_law 660 = .ok (.ireturn, 1) := by decide +kernel
theorem dL_law_661 : decode cL_law 661 = .ok (.aload_n 1, 1) := by decide +kernel
theorem dL_law_662 : decode cL_law 662 = .ok (.aload_n 0, 1) := by decide +kernel
theorem dL_law_663 : decode cL_law 663 = .ok (.iload 4, 2) := by decide +kernel
theorem dL_law_665 : decode cL_law 665 = .ok (.iconst 1, 1) := by decide +kernel
theorem dL_law_666 : decode cL_law 666 = .ok (.iadd, 1) := by decide +kernel
theorem dL_law_667 : decode cL_law 667 = .ok (.iaload, 1) := by decide +kernel
theorem dL_law_668 : decode cL_law 668 = .ok (.aload_n 0, 1) := by decide +kernel
theorem dL_law_669 : decode cL_law 669 = .ok (.iload 4, 2) := by decide +kernel
theorem dL_law_671 : decode cL_law 671 = .ok (.iconst 2, 1) := by decide +kernel
theorem dL_law_672 : decode cL_law 672 = .ok (.iadd, 1) := by decide +kernel
theorem dL_law_673 : decode cL_law 673 = .ok (.iaload, 1) := by decide +kernel
theorem dL_law_674 : decode cL_law 674 = .ok (.invokevirtual 86, 3) := by decide +kernel
theorem dL_law_677 : decode cL_law 677 = .ok (.aload_n 2, 1) := by decide +kernel
theorem dL_law_678 : decode cL_law 678 = .ok (.aload_n 0, 1) := by decide +kernel
theorem dL_law_679 : decode cL_law 679 = .ok (.iload 4, 2) := by decide +kernel
theorem dL_law_681 : decode cL_law 681 = .ok (.iconst 1, 1) := by decide +kernel
theorem dL_law_682 : decode cL_law 682 = .ok (.iadd, 1) := by decide +kernel
theorem dL_law_683 : decode cL_law 683 = .ok (.iaload, 1) := by decide +kernel
theorem dL_law_684 : decode cL_law 684 = .ok (.aload_n 0, 1) := by decide +kernel
theorem dL_law_685 : decode cL_law 685 = .ok (.iload 4, 2) := by decide +kernel
theorem dL_law_687 : decode cL_law 687 = .ok (.iconst 2, 1) := by decide +kernel
theorem dL_law_688 : decode cL_law 688 = .ok (.iadd, 1) := by decide +kernel
theorem dL_law_689 : decode cL_law 689 = .ok (.iaload, 1) := by decide +kernel
theorem dL_law_690 : decode cL_law 690 = .ok (.invokevirtual 89, 3) := by decide +kernel
theorem dL_law_693 : decode cL_law 693 = .ok (.if_icmp .eq 166, 3) := by decide +kernel
theorem dL_law_696 : decode cL_law 696 = .ok (.iconst 0, 1) := by decide +kernel
theorem dL_law_697 : decode cL_law 697 = .ok (.ireturn, 1) := by decide +kernel
theorem dL_law_698 : decode cL_law 698 = .ok (.aload_n 1, 1) := by decide +kernel
theorem dL_law_699 : decode cL_law 699 = .ok (.aload_n 0, 1) := by decide +kernel
theorem dL_law_700 : decode cL_law 700 = .ok (.iload 4, 2) := by decide +kernel
theorem dL_law_702 : decode cL_law 702 = .ok (.iconst 1, 1) := by decide +kernel
theorem dL_law_703 : decode cL_law 703 = .ok (.iadd, 1) := by decide +kernel
theorem dL_law_704 : decode cL_law 704 = .ok (.iaload, 1) := by decide +kernel
theorem dL_law_705 : decode cL_law 705 = .ok (.aload_n 0, 1) := by decide +kernel
theorem dL_law_706 : decode cL_law 706 = .ok (.iload 4, 2) := by decide +kernel
theorem dL_law_708 : decode cL_law 708 = .ok (.iconst 2, 1) := by decide +kernel
theorem dL_law_709 : decode cL_law 709 = .ok (.iadd, 1) := by decide +kernel
theorem dL_law_710 : decode cL_law 710 = .ok (.iaload, 1) := by decide +kernel
theorem dL_law_711 : decode cL_law 711 = .ok (.invokevirtual 90, 3) := by decide +kernel
theorem dL_law_714 : decode cL_law 714 = .ok (.aload_n 2, 1) := by decide +kernel
theorem dL_law_715 : decode cL_law 715 = .ok (.aload_n 0, 1) := by decide +kernel
theorem dL_law_716 : decode cL_law 716 = .ok (.iload 4, 2) := by decide +kernel
theorem dL_law_718 : decode cL_law 718 = .ok (.iconst 1, 1) := by decide +kernel
theorem dL_law_719 : decode cL_law 719 = .ok (.iadd, 1) := by decide +kernel
theorem dL_law_720 : decode cL_law 720 = .ok (.iaload, 1) := by decide +kernel
theorem dL_law_721 : decode cL_law 721 = .ok (.aload_n 0, 1) := by decide +kernel
theorem dL_law_722 : decode cL_law 722 = .ok (.iload 4, 2) := by decide +kernel
theorem dL_law_724 : decode cL_law 724 = .ok (.iconst 2, 1) := by decide +kernel
theorem dL_law_725 : decode cL_law 725 = .ok (.iadd, 1) := by decide +kernel
theorem dL_law_726 : decode cL_law 726 = .ok (.iaload, 1) := by decide +kernel
theorem dL_law_727 : decode cL_law 727 = .ok (.invokevirtual 93, 3) := by decide +kernel
theorem dL_law_730 : decode cL_law 730 = .ok (.if_icmp .eq 129, 3) := by decide +kernel
theorem dL_law_733 : decode cL_law 733 = .ok (.iconst 0, 1) := by decide +kernel
theorem dL_law_734 : decode cL_law 734 = .ok (.ireturn, 1) := by decide +kernel
theorem dL_law_735 : decode cL_law 735 = .ok (.aload_n 1, 1) := by decide +kernel
theorem dL_law_736 : decode cL_law 736 = .ok (.aload_n 0, 1) := by decide +kernel
theorem dL_law_737 : decode cL_law 737 = .ok (.iload 4, 2) := by decide +kernel
theorem dL_law_739 : decode cL_law 739 = .ok (.iconst 1, 1) := by decide +kernel
theorem dL_law_740 : decode cL_law 740 = .ok (.iadd, 1) := by decide +kernel
theorem dL_law_741 : decode cL_law 741 = .ok (.iaload, 1) := by decide +kernel
theorem dL_law_742 : decode cL_law 742 = .ok (.aload_n 0, 1) := by decide +kernel
theorem dL_law_743 : decode cL_law 743 = .ok (.iload 4, 2) := by decide +kernel
theorem dL_law_745 : decode cL_law 745 = .ok (.iconst 2, 1) := by decide +kernel
theorem dL_law_746 : decode cL_law 746 = .ok (.iadd, 1) := by decide +kernel
theorem dL_law_747 : decode cL_law 747 = .ok (.iaload, 1) := by decide +kernel
theorem dL_law_748 : decode cL_law 748 = .ok (.invokevirtual 94, 3) := by decide +kernel
theorem dL_law_751 : decode cL_law 751 = .ok (.aload_n 2, 1) := by decide +kernel
theorem dL_law_752 : decode cL_law 752 = .ok (.aload_n 0, 1) := by decide +kernel
theorem dL_law_753 : decode cL_law 753 = .ok (.iload 4, 2) := by decide +kernel
theorem dL_law_755 : decode cL_law 755 = .ok (.iconst 1, 1) := by decide +kernel
theorem dL_law_756 : decode cL_law 756 = .ok (.iadd, 1) := by decide +kernel
theorem dL_law_757 : decode cL_law 757 = .ok (.iaload, 1) := by decide +kernel
theorem dL_law_758 : decode cL_law 758 = .ok (.aload_n 0, 1) := by decide +kernel
theorem dL_law_759 : decode cL_law 759 = .ok (.iload 4, 2) := by decide +kernel
theorem dL_law_761 : decode cL_law 761 = .ok (.iconst 2, 1) := by decide +kernel
theorem dL_law_762 : decode cL_law 762 = .ok (.iadd, 1) := by decide +kernel
theorem dL_law_763 : decode cL_law 763 = .ok (.iaload, 1) := by decide +kernel
theorem dL_law_764 : decode cL_law 764 = .ok (.invokevirtual 97, 3) := by decide +kernel
theorem dL_law_767 : decode cL_law 767 = .ok (.if_icmp .eq 92, 3) := by decide +kernel
theorem dL_law_770 : decode cL_law 770 = .ok (.iconst 0, 1) := by decide +kernel
theorem dL_law_771 : decode cL_law 771 = .ok (.ireturn, 1) := by decide +kernel
theorem dL_law_772 : decode cL_law 772 = .ok (.aload_n 1, 1) := by decide +kernel
theorem dL_law_773 : decode cL_law 773 = .ok (.aload_n 0, 1) := by decide +kernel
theorem dL_law_774 : decode cL_law 774 = .ok (.iload 4, 2) := by decide +kernel
theorem dL_law_776 : decode cL_law 776 = .ok (.iconst 1, 1) := by decide +kernel
theorem dL_law_777 : decode cL_law 777 = .ok (.iadd, 1) := by decide +kernel
theorem dL_law_778 : decode cL_law 778 = .ok (.iaload, 1) := by decide +kernel
theorem dL_law_779 : decode cL_law 779 = .ok (.aload_n 0, 1) := by decide +kernel
theorem dL_law_780 : decode cL_law 780 = .ok (.iload 4, 2) := by decide +kernel
theorem dL_law_782 : decode cL_law 782 = .ok (.iconst 2, 1) := by decide +kernel
theorem dL_law_783 : decode cL_law 783 = .ok (.iadd, 1) := by decide +kernel
theorem dL_law_784 : decode cL_law 784 = .ok (.iaload, 1) := by decide +kernel
theorem dL_law_785 : decode cL_law 785 = .ok (.aload_n 0, 1) := by decide +kernel
theorem dL_law_786 : decode cL_law 786 = .ok (.iload 4, 2) := by decide +kernel
theorem dL_law_788 : decode cL_law 788 = .ok (.iconst 3, 1) := by decide +kernel
theorem dL_law_789 : decode cL_law 789 = .ok (.iadd, 1) := by decide +kernel
theorem dL_law_790 : decode cL_law 790 = .ok (.iaload, 1) := by decide +kernel
theorem dL_law_791 : decode cL_law 791 = .ok (.aload_n 0, 1) := by decide +kernel
theorem dL_law_792 : decode cL_law 792 = .ok (.iload 4, 2) := by decide +kernel
theorem dL_law_794 : decode cL_law 794 = .ok (.iconst 4, 1) := by decide +kernel
theorem dL_law_795 : decode cL_law 795 = .ok (.iadd, 1) := by decide +kernel
theorem dL_law_796 : decode cL_law 796 = .ok (.iaload, 1) := by decide +kernel
theorem dL_law_797 : decode cL_law 797 = .ok (.invokevirtual 98, 3) := by decide +kernel
theorem dL_law_800 : decode cL_law 800 = .ok (.aload_n 2, 1) := by decide +kernel
theorem dL_law_801 : decode cL_law 801 = .ok (.aload_n 0, 1) := by decide +kernel
theorem dL_law_802 : decode cL_law 802 = .ok (.iload 4, 2) := by decide +kernel
theorem dL_law_804 : decode cL_law 804 = .ok (.iconst 1, 1) := by decide +kernel
theorem dL_law_805 : decode cL_law 805 = .ok (.iadd, 1) := by decide +kernel
theorem dL_law_806 : decode cL_law 806 = .ok (.iaload, 1) := by decide +kernel
theorem dL_law_807 : decode cL_law 807 = .ok (.aload_n 0, 1) := by decide +kernel
theorem dL_law_808 : decode cL_law 808 = .ok (.iload 4, 2) := by decide +kernel
theorem dL_law_810 : decode cL_law 810 = .ok (.iconst 2, 1) := by decide +kernel
theorem dL_law_811 : decode cL_law 811 = .ok (.iadd, 1) := by decide +kernel
theorem dL_law_812 : decode cL_law 812 = .ok (.iaload, 1) := by decide +kernel
theorem dL_law_813 : decode cL_law 813 = .ok (.aload_n 0, 1) := by decide +kernel
theorem dL_law_814 : decode cL_law 814 = .ok (.iload 4, 2) := by decide +kernel
theorem dL_law_816 : decode cL_law 816 = .ok (.iconst 3, 1) := by decide +kernel
theorem dL_law_817 : decode cL_law 817 = .ok (.iadd, 1) := by decide +kernel
theorem dL_law_818 : decode cL_law 818 = .ok (.iaload, 1) := by decide +kernel
theorem dL_law_819 : decode cL_law 819 = .ok (.aload_n 0, 1) := by decide +kernel
theorem dL_law_820 : decode cL_law 820 = .ok (.iload 4, 2) := by decide +kernel
theorem dL_law_822 : decode cL_law 822 = .ok (.iconst 4, 1) := by decide +kernel
theorem dL_law_823 : decode cL_law 823 = .ok (.iadd, 1) := by decide +kernel
theorem dL_law_824 : decode cL_law 824 = .ok (.iaload, 1) := by decide +kernel
theorem dL_law_825 : decode cL_law 825 = .ok (.invokevirtual 102, 3) := by decide +kernel
theorem dL_law_828 : decode cL_law 828 = .ok (.if_icmp .eq 31, 3) := by decide +kernel
theorem dL_law_831 : decode cL_law 831 = .ok (.iconst 0, 1) := by decide +kernel
theorem dL_law_832 : decode cL_law 832 = .ok (.ireturn, 1) := by decide +kernel
theorem dL_law_833 : decode cL_law 833 = .ok (.aload_n 1, 1) := by decide +kernel
theorem dL_law_834 : decode cL_law 834 = .ok (.invokevirtual 103, 3) := by decide +kernel
theorem dL_law_837 : decode cL_law 837 = .ok (.aload_n 2, 1) := by decide +kernel
theorem dL_law_838 : decode cL_law 838 = .ok (.invokevirtual 106, 3) := by decide +kernel
theorem dL_law_841 : decode cL_law 841 = .ok (.if_icmp .eq 18, 3) := by decide +kernel
theorem dL_law_844 : decode cL_law 844 = .ok (.iconst 0, 1) := by decide +kernel
theorem dL_law_845 : decode cL_law 845 = .ok (.ireturn, 1) := by decide +kernel
theorem dL_law_846 : decode cL_law 846 = .ok (.aload_n 1, 1) := by decide +kernel
theorem dL_law_847 : decode cL_law 847 = .ok (.invokevirtual 107, 3) := by decide +kernel
theorem dL_law_850 : decode cL_law 850 = .ok (.aload_n 2, 1) := by decide +kernel
theorem dL_law_851 : decode cL_law 851 = .ok (.invokevirtual 110, 3) := by decide +kernel
theorem dL_law_854 : decode cL_law 854 = .ok (.if_icmp .eq 5, 3) := by decide +kernel
theorem dL_law_857 : decode cL_law 857 = .ok (.iconst 0, 1) := by decide +kernel
theorem dL_law_858 : decode cL_law 858 = .ok (.ireturn, 1) := by decide +kernel
theorem dL_law_859 : decode cL_law 859 = .ok (.iinc 4 6, 3) := by decide +kernel
theorem dL_law_862 : decode cL_law 862 = .ok (.goto (-839), 3) := by decide +kernel
theorem dL_law_865 : decode cL_law 865 = .ok (.iconst 1, 1) := by decide +kernel
theorem dL_law_866 : decode cL_law 866 = .ok (.ireturn, 1) := by decide +kernel
