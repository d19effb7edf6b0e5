theorem dX3_keep_52 : decode cX3_keep 52 = .ok (.istore 4, 2) := by decide +kernel
theorem dX3_keep_54 : decode cX3_keep 54 = .ok (.iload_n 3, 1) := by decide +kernel
theorem dX3_keep_55 : decode cX3_keep 55 = .ok (.ifCond .ne 17, 3) := by decide +kernel
theorem dX3_keep_58 : decode cX3_keep 58 = .ok (.aload_n 2, 1) := by decide +kernel
theorem dX3_keep_59 : decode cX3_keep 59 = .ok (.aload_n 0, 1) := by decide +kernel
theorem dX3_keep_60 : decode cX3_keep 60 = .ok (.getfield 37, 3) := by decide +kernel
theorem dX3_keep_63 : decode cX3_keep 63 = .ok (.putfield 64, 3) := by decide +kernel
theorem dX3_keep_66 : decode cX3_keep 66 = .ok (.aload_n 2, 1) := by decide +kernel
theorem dX3_keep_67 : decode cX3_keep 67 = .ok (.iload 4, 2) := by decide +kernel
theorem dX3_keep_69 : decode cX3_keep 69 = .ok (.putfield 69, 3) := by decide +kernel
theorem dX3_keep_72 : decode cX3_keep 72 = .ok (.iload 4, 2) := by decide +kernel
theorem dX3_keep_74 : decode cX3_keep 74 = .ok (.ifCond .le 11, 3) := by decide +kernel
theorem dX3_keep_77 : decode cX3_keep 77 = .ok (.aload_n 0, 1) := by decide +kernel
theorem dX3_keep_78 : decode cX3_keep 78 = .ok (.iload_n 3, 1) := by decide +kernel
theorem dX3_keep_79 : decode cX3_keep 79 = .ok (.iload 4, 2) := by decide +kernel
theorem dX3_keep_81 : decode cX3_keep 81 = .ok (.aload_n 2, 1) := by decide +kernel
theorem dX3_keep_82 : decode cX3_keep 82 = .ok (.invokevirtual 72, 3) := by decide +kernel
theorem dX3_keep_85 : decode cX3_keep 85 = .ok (.iinc 3 1, 3) := by decide +kernel
theorem dX3_keep_88 : decode cX3_keep 88 = .ok (.goto (-67), 3) := by decide +kernel
theorem dX3_keep_91 : decode cX3_keep 91 = .ok (.return_, 1) := by decide +kernel
theorem dX3_addRange_0 : decode cX3_addRange 0 = .ok (.iload_n 1, 1) := by decide +kernel
theorem dX3_addRange_1 : decode cX3_addRange 1 = .ok (.iload_n 2, 1) := by decide +kernel
theorem dX3_addRange_2 : decode cX3_addRange 2 = .ok (.if_icmp .ge 18, 3) := by decide +kernel
theorem dX3_addRange_5 : decode cX3_addRange 5 = .ok (.iload_n 3, 1) := by decide +kernel
theorem dX3_addRange_6 : decode cX3_addRange 6 = .ok (.iload 4, 2) := by decide +kernel
theorem dX3_addRange_8 : decode cX3_addRange 8 = .ok (.if_icmp .ge 12, 3) := by decide +kernel
theorem dX3_addRange_11 : decode cX3_addRange 11 = .ok (.aload_n 0, 1) := by decide +kernel
theorem dX3_addRange_12 : decode cX3_addRange 12 = .ok (.getfield 24, 3) := by decide +kernel
theorem dX3_addRange_15 : decode cX3_addRange 15 = .ok (.bipush 14, 2) := by decide +kernel
theorem dX3_addRange_17 : decode cX3_addRange 17 = .ok (.if_icmp .lt 4, 3) := by decide +kernel
theorem dX3_addRange_20 : decode cX3_addRange 20 = .ok (.return_, 1) := by decide +kernel
theorem dX3_addRange_21 : decode cX3_addRange 21 = .ok (.aload_n 0, 1) := by decide +kernel
theorem dX3_addRange_22 : decode cX3_addRange 22 = .ok (.getfield 9, 3) := by decide +kernel
theorem dX3_addRange_25 : decode cX3_addRange 25 = .ok (.aload_n 0, 1) := by decide +kernel
theorem dX3_addRange_26 : decode cX3_addRange 26 = .ok (.getfield 24, 3) := by decide +kernel
theorem dX3_addRange_29 : decode cX3_addRange 29 = .ok (.iload_n 1, 1) := by decide +kernel
theorem dX3_addRange_30 : decode cX3_addRange 30 = .ok (.iastore, 1) := by decide +kernel
theorem dX3_addRange_31 : decode cX3_addRange 31 = .ok (.aload_n 0, 1) := by decide +kernel
theorem dX3_addRange_32 : decode cX3_addRange 32 = .ok (.getfield 15, 3) := by decide +kernel
theorem dX3_addRange_35 : decode cX3_addRange 35 = .ok (.aload_n 0, 1) := by decide +kernel
theorem dX3_addRange_36 : decode cX3_addRange 36 = .ok (.getfield 24, 3) := by decide +kernel
theorem dX3_addRange_39 : decode cX3_addRange 39 = .ok (.iload_n 2, 1) := by decide +kernel
theorem dX3_addRange_40 : decode cX3_addRange 40 = .ok (.iastore, 1) := by decide +kernel
theorem dX3_addRange_41 : decode cX3_addRange 41 = .ok (.aload_n 0, 1) := by decide +kernel
theorem dX3_addRange_42 : decode cX3_addRange 42 = .ok (.getfield 18, 3) := by decide +kernel
theorem dX3_addRange_45 : decode cX3_addRange 45 = .ok (.aload_n 0, 1) := by decide +kernel
theorem dX3_addRange_46 : decode cX3_addRange 46 = .ok (.getfield 24, 3) := by decide +kernel
theorem dX3_addRange_49 : decode cX3_addRange 49 = .ok (.iload_n 3, 1) := by decide +kernel
theorem dX3_addRange_50 : decode cX3_addRange 50 = .ok (.iastore, 1) := by decide +kernel
theorem dX3_addRange_51 : decode cX3_addRange 51 = .ok (.aload_n 0, 1) := by decide +kernel
theorem dX3_addRange_52 : decode cX3_addRange 52 = .ok (.getfield 21, 3) := by decide +kernel
theorem dX3_addRange_55 : decode cX3_addRange 55 = .ok (.aload_n 0, 1) := by decide +kernel
theorem dX3_addRange_56 : decode cX3_addRange 56 = .ok (.getfield 24, 3) := by decide +kernel
theorem dX3_addRange_59 : decode cX3_addRange 59 = .ok (.iload 4, 2) := by decide +kernel
theorem dX3_addRange_61 : decode cX3_addRange 61 = .ok (.iastore, 1) := by decide +kernel
theorem dX3_addRange_62 : decode cX3_addRange 62 = .ok (.aload_n 0, 1) := by decide +kernel
theorem dX3_addRange_63 : decode cX3_addRange 63 = .ok (.dup, 1) := by decide +kernel
theorem dX3_addRange_64 : decode cX3_addRange 64 = .ok (.getfield 24, 3) := by decide +kernel
theorem dX3_addRange_67 : decode cX3_addRange 67 = .ok (.iconst 1, 1) := by decide +kernel
theorem dX3_addRange_68 : decode cX3_addRange 68 = .ok (.iadd, 1) := by decide +kernel
theorem dX3_addRange_69 : decode cX3_addRange 69 = .ok (.putfield 24, 3) := by decide +kernel
theorem dX3_addRange_72 : decode cX3_addRange 72 = .ok (.return_, 1) := by decide +kernel
theorem dX3_keepEnds_0 : decode cX3_keepEnds 0 = .ok (.aload_n 0, 1) := by decide +kernel
theorem dX3_keepEnds_1 : decode cX3_keepEnds 1 = .ok (.getfield 9, 3) := by decide +kernel
theorem dX3_keepEnds_4 : decode cX3_keepEnds 4 = .ok (.iload_n 1, 1) := by decide +kernel
theorem dX3_keepEnds_5 : decode cX3_keepEnds 5 = .ok (.iaload, 1) := by decide +kernel
theorem dX3_keepEnds_6 : decode cX3_keepEnds 6 = .ok (.aload_n 0, 1) := by decide +kernel
theorem dX3_keepEnds_7 : decode cX3_keepEnds 7 = .ok (.getfield 15, 3) := by decide +kernel
theorem dX3_keepEnds_10 : decode cX3_keepEnds 10 = .ok (.iload_n 1, 1) := by decide +kernel
theorem dX3_keepEnds_11 : decode cX3_keepEnds 11 = .ok (.iaload, 1) := by decide +kernel
theorem dX3_keepEnds_12 : decode cX3_keepEnds 12 = .ok (.if_icmp .ge 78, 3) := by decide +kernel
theorem dX3_keepEnds_15 : decode cX3_keepEnds 15 = .ok (.aload_n 0, 1) := by decide +kernel
theorem dX3_keepEnds_16 : decode cX3_keepEnds 16 = .ok (.getfield 18, 3) := by decide +kernel
theorem dX3_keepEnds_19 : decode cX3_keepEnds 19 = .ok (.iload_n 1, 1) := by decide +kernel
theorem dX3_keepEnds_20 : decode cX3_keepEnds 20 = .ok (.iaload, 1) := by decide +kernel
theorem dX3_keepEnds_21 : decode cX3_keepEnds 21 = .ok (.aload_n 0, 1) := by decide +kernel
theorem dX3_keepEnds_22 : decode cX3_keepEnds 22 = .ok (.getfield 21, 3) := by decide +kernel
theorem dX3_keepEnds_25 : decode cX3_keepEnds 25 = .ok (.iload_n 1, 1) := by decide +kernel
theorem dX3_keepEnds_26 : decode cX3_keepEnds 26 = .ok (.iaload, 1) := by decide +kernel
theorem dX3_keepEnds_27 : decode cX3_keepEnds 27 = .ok (.if_icmp .ge 63, 3) := by decide +kernel
theorem dX3_keepEnds_30 : decode cX3_keepEnds 30 = .ok (.aload_n 2, 1) := by decide +kernel
theorem dX3_keepEnds_31 : decode cX3_keepEnds 31 = .ok (.aload_n 0, 1) := by decide +kernel
theorem dX3_keepEnds_32 : decode cX3_keepEnds 32 = .ok (.getfield 9, 3) := by decide +kernel
theorem dX3_keepEnds_35 : decode cX3_keepEnds 35 = .ok (.iload_n 1, 1) := by decide +kernel
theorem dX3_keepEnds_36 : decode cX3_keepEnds 36 = .ok (.iaload, 1) := by decide +kernel
theorem dX3_keepEnds_37 : decode cX3_keepEnds 37 = .ok (.aload_n 0, 1) := by decide +kernel
theorem dX3_keepEnds_38 : decode cX3_keepEnds 38 = .ok (.getfield 18, 3) := by decide +kernel
theorem dX3_keepEnds_41 : decode cX3_keepEnds 41 = .ok (.iload_n 1, 1) := by decide +kernel
theorem dX3_keepEnds_42 : decode cX3_keepEnds 42 = .ok (.iaload, 1) := by decide +kernel
theorem dX3_keepEnds_43 : decode cX3_keepEnds 43 = .ok (.invokevirtual 76, 3) := by decide +kernel
theorem dX3_keepEnds_46 : decode cX3_keepEnds 46 = .ok (.ifCond .eq 44, 3) := by decide +kernel
theorem dX3_keepEnds_49 : decode cX3_keepEnds 49 = .ok (.aload_n 3, 1) := by decide +kernel
theorem dX3_keepEnds_50 : decode cX3_keepEnds 50 = .ok (.iconst 0, 1) := by decide +kernel
theorem dX3_keepEnds_51 : decode cX3_keepEnds 51 = .ok (.aload_n 0, 1) := by decide +kernel
theorem dX3_keepEnds_52 : decode cX3_keepEnds 52 = .ok (.getfield 9, 3) := by decide +kernel
theorem dX3_keepEnds_55 : decode cX3_keepEnds 55 = .ok (.iload_n 1, 1) := by decide +kernel
theorem dX3_keepEnds_56 : decode cX3_keepEnds 56 = .ok (.iaload, 1) := by decide +kernel
theorem dX3_keepEnds_57 : decode cX3_keepEnds 57 = .ok (.aload_n 0, 1) := by decide +kernel
theorem dX3_keepEnds_58 : decode cX3_keepEnds 58 = .ok (.getfield 18, 3) := by decide +kernel
theorem dX3_keepEnds_61 : decode cX3_keepEnds 61 = .ok (.iload_n 1, 1) := by decide +kernel
theorem dX3_keepEnds_62 : decode cX3_keepEnds 62 = .ok (.iaload, 1) := by decide +kernel
theorem dX3_keepEnds_63 : decode cX3_keepEnds 63 = .ok (.iconst (-1), 1) := by decide +kernel
theorem dX3_keepEnds_64 : decode cX3_keepEnds 64 = .ok (.invokevirtual 80, 3) := by decide +kernel
theorem dX3_keepEnds_67 : decode cX3_keepEnds 67 = .ok (.aload_n 0, 1) := by decide +kernel
theorem dX3_keepEnds_68 : decode cX3_keepEnds 68 = .ok (.getfield 9, 3) := by decide +kernel
theorem dX3_keepEnds_71 : decode cX3_keepEnds 71 = .ok (.iload_n 1, 1) := by decide +kernel
theorem dX3_keepEnds_72 : decode cX3_keepEnds 72 = .ok (.dup2, 1) := by decide +kernel
theorem dX3_keepEnds_73 : decode cX3_keepEnds 73 = .ok (.iaload, 1) := by decide +kernel
theorem dX3_keepEnds_74 : decode cX3_keepEnds 74 = .ok (.iconst 1, 1) := by decide +kernel
theorem dX3_keepEnds_75 : decode cX3_keepEnds 75 = .ok (.iadd, 1) := by decide +kernel
theorem dX3_keepEnds_76 : decode cX3_keepEnds 76 = .ok (.iastore, 1) := by decide +kernel
theorem dX3_keepEnds_77 : decode cX3_keepEnds 77 = .ok (.aload_n 0, 1) := by decide +kernel
theorem dX3_keepEnds_78 : decode cX3_keepEnds 78 = .ok (.getfield 18, 3) := by decide +kernel
theorem dX3_keepEnds_81 : decode cX3_keepEnds 81 = .ok (.iload_n 1, 1) := by decide +kernel
theorem dX3_keepEnds_82 : decode cX3_keepEnds 82 = .ok (.dup2, 1) := by decide +kernel
theorem dX3_keepEnds_83 : decode cX3_keepEnds 83 = .ok (.iaload, 1) := by decide +kernel
theorem dX3_keepEnds_84 : decode cX3_keepEnds 84 = .ok (.iconst 1, 1) := by decide +kernel
theorem dX3_keepEnds_85 : decode cX3_keepEnds 85 = .ok (.iadd, 1) := by decide +kernel
theorem dX3_keepEnds_86 : decode cX3_keepEnds 86 = .ok (.iastore, 1) := by decide +kernel
theorem dX3_keepEnds_87 : decode cX3_keepEnds 87 = .ok (.goto (-87), 3) := by decide +kernel
theorem dX3_keepEnds_90 : decode cX3_keepEnds 90 = .ok (.aload_n 0, 1) := by decide +kernel
theorem dX3_keepEnds_91 : decode cX3_keepEnds 91 = .ok (.getfield 9, 3) := by decide +kernel
theorem dX3_keepEnds_94 : decode cX3_keepEnds 94 = .ok (.iload_n 1, 1) := by decide +kernel
theorem dX3_keepEnds_95 : decode cX3_keepEnds 95 = .ok (.iaload, 1) := by decide +kernel
theorem dX3_keepEnds_96 : decode cX3_keepEnds 96 = .ok (.aload_n 0, 1) := by decide +kernel
theorem dX3_keepEnds_97 : decode cX3_keepEnds 97 = .ok (.getfield 15, 3) := by decide +kernel
theorem dX3_keepEnds_100 : decode cX3_keepEnds 100 = .ok (.iload_n 1, 1) := by decide +kernel
theorem dX3_keepEnds_101 : decode cX3_keepEnds 101 = .ok (.iaload, 1) := by decide +kernel
theorem dX3_keepEnds_102 : decode cX3_keepEnds 102 = .ok (.if_icmp .ge 82, 3) := by decide +kernel
theorem dX3_keepEnds_105 : decode cX3_keepEnds 105 = .ok (.aload_n 0, 1) := by decide +kernel
theorem dX3_keepEnds_106 : decode cX3_keepEnds 106 = .ok (.getfield 18, 3) := by decide +kernel
theorem dX3_keepEnds_109 : decode cX3_keepEnds 109 = .ok (.iload_n 1, 1) := by decide +kernel
theorem dX3_keepEnds_110 : decode cX3_keepEnds 110 = .ok (.iaload, 1) := by decide +kernel
theorem dX3_keepEnds_111 : decode cX3_keepEnds 111 = .ok (.aload_n 0, 1) := by decide +kernel
theorem dX3_keepEnds_112 : decode cX3_keepEnds 112 = .ok (.getfield 21, 3) := by decide +kernel
theorem dX3_keepEnds_115 : decode cX3_keepEnds 115 = .ok (.iload_n 1, 1) := by decide +kernel
theorem dX3_keepEnds_116 : decode cX3_keepEnds 116 = .ok (.iaload, 1) := by decide +kernel
theorem dX3_keepEnds_117 : decode cX3_keepEnds 117 = .ok (.if_icmp .ge 67, 3) := by decide +kernel
theorem dX3_keepEnds_120 : decode cX3_keepEnds 120 = .ok (.aload_n 2, 1) := by decide +kernel
theorem dX3_keepEnds_121 : decode cX3_keepEnds 121 = .ok (.aload_n 0, 1) := by decide +kernel
theorem dX3_keepEnds_122 : decode cX3_keepEnds 122 = .ok (.getfield 15, 3) := by decide +kernel
theorem dX3_keepEnds_125 : decode cX3_keepEnds 125 = .ok (.iload_n 1, 1) := by decide +kernel
theorem dX3_keepEnds_126 : decode cX3_keepEnds 126 = .ok (.iaload, 1) := by decide +kernel
theorem dX3_keepEnds_127 : decode cX3_keepEnds 127 = .ok (.iconst 1, 1) := by decide +kernel
theorem dX3_keepEnds_128 : decode cX3_keepEnds 128 = .ok (.isub, 1) := by decide +kernel
theorem dX3_keepEnds_129 : decode cX3_keepEnds 129 = .ok (.aload_n 0, 1) := by decide +kernel
theorem dX3_keepEnds_130 : decode cX3_keepEnds 130 = .ok (.getfield 21, 3) := by decide +kernel
theorem dX3_keepEnds_133 : decode cX3_keepEnds 133 = .ok (.iload_n 1, 1) := by decide +kernel
theorem dX3_keepEnds_134 : decode cX3_keepEnds 134 = .ok (.iaload, 1) := by decide +kernel
theorem dX3_keepEnds_135 : decode cX3_keepEnds 135 = .ok (.iconst 1, 1) := by decide +kernel
theorem dX3_keepEnds_136 : decode cX3_keepEnds 136 = .ok (.isub, 1) := by decide +kernel
theorem dX3_keepEnds_137 : decode cX3_keepEnds 137 = .ok (.invokevirtual 76, 3) := by decide +kernel
theorem dX3_keepEnds_140 : decode cX3_keepEnds 140 = .ok (.ifCond .eq 44, 3) := by decide +kernel
theorem dX3_keepEnds_143 : decode cX3_keepEnds 143 = .ok (.aload_n 0, 1) := by decide +kernel
theorem dX3_keepEnds_144 : decode cX3_keepEnds 144 = .ok (.getfield 15, 3) := by decide +kernel
theorem dX3_keepEnds_147 : decode cX3_keepEnds 147 = .ok (.iload_n 1, 1) := by decide +kernel
theorem dX3_keepEnds_148 : decode cX3_keepEnds 148 = .ok (.dup2, 1) := by decide +kernel
theorem dX3_keepEnds_149 : decode cX3_keepEnds 149 = .ok (.iaload, 1) := by decide +kernel
theorem dX3_keepEnds_150 : decode cX3_keepEnds 150 = .ok (.iconst 1, 1) := by decide +kernel
theorem dX3_keepEnds_151 : decode cX3_keepEnds 151 = .ok (.isub, 1) := by decide +kernel
theorem dX3_keepEnds_152 : decode cX3_keepEnds 152 = .ok (.iastore, 1) := by decide +kernel
theorem dX3_keepEnds_153 : decode cX3_keepEnds 153 = .ok (.aload_n 0, 1) := by decide +kernel
theorem dX3_keepEnds_154 : decode cX3_keepEnds 154 = .ok (.getfield 21, 3) := by decide +kernel
theorem dX3_keepEnds_157 : decode cX3_keepEnds 157 = .ok (.iload_n 1, 1) := by decide +kernel
theorem dX3_keepEnds_158 : decode cX3_keepEnds 158 = .ok (.dup2, 1) := by decide +kernel
theorem dX3_keepEnds_159 : decode cX3_keepEnds 159 = .ok (.iaload, 1) := by decide +kernel
theorem dX3_keepEnds_160 : decode cX3_keepEnds 160 = .ok (.iconst 1, 1) := by decide +kernel
theorem dX3_keepEnds_161 : decode cX3_keepEnds 161 = .ok (.isub, 1) := by decide +kernel
theorem dX3_keepEnds_162 : decode cX3_keepEnds 162 = .ok (.iastore, 1) := by decide +kernel
theorem dX3_keepEnds_163 : decode cX3_keepEnds 163 = .ok (.aload_n 3, 1) := by decide +kernel
theorem dX3_keepEnds_164 : decode cX3_keepEnds 164 = .ok (.iconst 0, 1) := by decide +kernel
theorem dX3_keepEnds_165 : decode cX3_keepEnds 165 = .ok (.aload_n 0, 1) := by decide +kernel
theorem dX3_keepEnds_166 : decode cX3_keepEnds 166 = .ok (.getfield 15, 3) := by decide +kernel
theorem dX3_keepEnds_169 : decode cX3_keepEnds 169 = .ok (.iload_n 1, 1) := by decide +kernel
theorem dX3_keepEnds_170 : decode cX3_keepEnds 170 = .ok (.iaload, 1) := by decide +kernel
theorem dX3_keepEnds_171 : decode cX3_keepEnds 171 = .ok (.aload_n 0, 1) := by decide +kernel
theorem dX3_keepEnds_172 : decode cX3_keepEnds 172 = .ok (.getfield 21, 3) := by decide +kernel
theorem dX3_keepEnds_175 : decode cX3_keepEnds 175 = .ok (.iload_n 1, 1) := by decide +kernel
theorem dX3_keepEnds_176 : decode cX3_keepEnds 176 = .ok (.iaload, 1) := by decide +kernel
theorem dX3_keepEnds_177 : decode cX3_keepEnds 177 = .ok (.iconst (-1), 1) := by decide +kernel
theorem dX3_keepEnds_178 : decode cX3_keepEnds 178 = .ok (.invokevirtual 80, 3) := by decide +kernel
theorem dX3_keepEnds_181 : decode cX3_keepEnds 181 = .ok (.goto (-91), 3) := by decide +kernel
theorem dX3_keepEnds_184 : decode cX3_keepEnds 184 = .ok (.return_, 1) := by decide +kernel
theorem dX3_findAnchors_0 : decode cX3_findAnchors 0 = .ok (.aload_n 0, 1) := by decide +kernel
theorem dX3_findAnchors_1 : decode cX3_findAnchors 1 = .ok (.iconst 0, 1) := by decide +kernel
theorem dX3_findAnchors_2 : decode cX3_findAnchors 2 = .ok (.putfield 37, 3) := by decide +kernel
theorem dX3_findAnchors_5 : decode cX3_findAnchors 5 = .ok (.aload_n 0, 1) := by decide +kernel
theorem dX3_findAnchors_6 : decode cX3_findAnchors 6 = .ok (.getfield 9, 3) := by decide +kernel
theorem dX3_findAnchors_9 : decode cX3_findAnchors 9 = .ok (.iload_n 1, 1) := by decide +kernel
theorem dX3_findAnchors_10 : decode cX3_findAnchors 10 = .ok (.iaload, 1) := by decide +kernel
theorem dX3_findAnchors_11 : decode cX3_findAnchors 11 = .ok (.istore_n 3, 1) := by decide +kernel
theorem dX3_findAnchors_12 : decode cX3_findAnchors 12 = .ok (.iload_n 3, 1) := by decide +kernel
theorem dX3_findAnchors_13 : decode cX3_findAnchors 13 = .ok (.aload_n 0, 1) := by decide +kernel
theorem dX3_findAnchors_14 : decode cX3_findAnchors 14 = .ok (.getfield 15, 3) := by decide +kernel
theorem dX3_findAnchors_17 : decode cX3_findAnchors 17 = .ok (.iload_n 1, 1) := by decide +kernel
theorem dX3_findAnchors_18 : decode cX3_findAnchors 18 = .ok (.iaload, 1) := by decide +kernel
theorem dX3_findAnchors_19 : decode cX3_findAnchors 19 = .ok (.if_icmp .ge 102, 3) := by decide +kernel
theorem dX3_findAnchors_22 : decode cX3_findAnchors 22 = .ok (.aload_n 2, 1) := by decide +kernel
theorem dX3_findAnchors_23 : decode cX3_findAnchors 23 = .ok (.getfield 83, 3) := by decide +kernel
theorem dX3_findAnchors_26 : decode cX3_findAnchors 26 = .ok (.iload_n 3, 1) := by decide +kernel
theorem dX3_findAnchors_27 : decode cX3_findAnchors 27 = .ok (.iaload, 1) := by decide +kernel
theorem dX3_findAnchors_28 : decode cX3_findAnchors 28 = .ok (.istore 4, 2) := by decide +kernel
theorem dX3_findAnchors_30 : decode cX3_findAnchors 30 = .ok (.iload 4, 2) := by decide +kernel
theorem dX3_findAnchors_32 : decode cX3_findAnchors 32 = .ok (.aload_n 2, 1) := by decide +kernel
theorem dX3_findAnchors_33 : decode cX3_findAnchors 33 = .ok (.getfield 86, 3) := by decide +kernel
theorem dX3_findAnchors_36 : decode cX3_findAnchors 36 = .ok (.aload_n 0, 1) := by decide +kernel
theorem dX3_findAnchors_37 : decode cX3_findAnchors 37 = .ok (.getfield 18, 3) := by decide +kernel
theorem dX3_findAnchors_40 : decode cX3_findAnchors 40 = .ok (.iload_n 1, 1) := by decide +kernel
theorem dX3_findAnchors_41 : decode cX3_findAnchors 41 = .ok (.iaload, 1) := by decide +kernel
theorem dX3_findAnchors_42 : decode cX3_findAnchors 42 = .ok (.aload_n 0, 1) := by decide +kernel
theorem dX3_findAnchors_43 : decode cX3_findAnchors 43 = .ok (.getfield 21, 3) := by decide +kernel
theorem dX3_findAnchors_46 : decode cX3_findAnchors 46 = .ok (.iload_n 1, 1) := by decide +kernel
theorem dX3_findAnchors_47 : decode cX3_findAnchors 47 = .ok (.iaload, 1) := by decide +kernel
theorem dX3_findAnchors_48 : decode cX3_findAnchors 48 = .ok (.invokestatic 89, 3) := by decide +kernel
theorem dX3_findAnchors_51 : decode cX3_findAnchors 51 = .ok (.istore 5, 2) := by decide +kernel
theorem dX3_findAnchors_53 : decode cX3_findAnchors 53 = .ok (.iload 5, 2) := by decide +kernel
theorem dX3_findAnchors_55 : decode cX3_findAnchors 55 = .ok (.iconst (-1), 1) := by decide +kernel
theorem dX3_findAnchors_56 : decode cX3_findAnchors 56 = .ok (.if_icmp .eq 59, 3) := by decide +kernel
theorem dX3_findAnchors_59 : decode cX3_findAnchors 59 = .ok (.iload 4, 2) := by decide +kernel
theorem dX3_findAnchors_61 : decode cX3_findAnchors 61 = .ok (.aload_n 2, 1) := by decide +kernel
theorem dX3_findAnchors_62 : decode cX3_findAnchors 62 = .ok (.getfield 83, 3) := by decide +kernel
theorem dX3_findAnchors_65 : decode cX3_findAnchors 65 = .ok (.aload_n 0, 1) := by decide +kernel
theorem dX3_findAnchors_66 : decode cX3_findAnchors 66 = .ok (.getfield 9, 3) := by decide +kernel
theorem dX3_findAnchors_69 : decode cX3_findAnchors 69 = .ok (.iload_n 1, 1) := by decide +kernel
theorem dX3_findAnchors_70 : decode cX3_findAnchors 70 = .ok (.iaload, 1) := by decide +kernel
theorem dX3_findAnchors_71 : decode cX3_findAnchors 71 = .ok (.aload_n 0, 1) := by decide +kernel
theorem dX3_findAnchors_72 : decode cX3_findAnchors 72 = .ok (.getfield 15, 3) := by decide +kernel
theorem dX3_findAnchors_75 : decode cX3_findAnchors 75 = .ok (.iload_n 1, 1) := by decide +kernel
theorem dX3_findAnchors_76 : decode cX3_findAnchors 76 = .ok (.iaload, 1) := by decide +kernel
theorem dX3_findAnchors_77 : decode cX3_findAnchors 77 = .ok (.invokestatic 89, 3) := by decide +kernel
theorem dX3_findAnchors_80 : decode cX3_findAnchors 80 = .ok (.iconst (-1), 1) := by decide +kernel
theorem dX3_findAnchors_81 : decode cX3_findAnchors 81 = .ok (.if_icmp .eq 34, 3) := by decide +kernel
theorem dX3_findAnchors_84 : decode cX3_findAnchors 84 = .ok (.aload_n 0, 1) := by decide +kernel
theorem dX3_findAnchors_85 : decode cX3_findAnchors 85 = .ok (.getfield 28, 3) := by decide +kernel
theorem dX3_findAnchors_88 : decode cX3_findAnchors 88 = .ok (.aload_n 0, 1) := by decide +kernel
theorem dX3_findAnchors_89 : decode cX3_findAnchors 89 = .ok (.getfield 37, 3) := by decide +kernel
theorem dX3_findAnchors_92 : decode cX3_findAnchors 92 = .ok (.iload_n 3, 1) := by decide +kernel
theorem dX3_findAnchors_93 : decode cX3_findAnchors 93 = .ok (.iastore, 1) := by decide +kernel
theorem dX3_findAnchors_94 : decode cX3_findAnchors 94 = .ok (.aload_n 0, 1) := by decide +kernel
theorem dX3_findAnchors_95 : decode cX3_findAnchors 95 = .ok (.getfield 31, 3) := by decide +kernel
theorem dX3_findAnchors_98 : decode cX3_findAnchors 98 = .ok (.aload_n 0, 1) := by decide +kernel
theorem dX3_findAnchors_99 : decode cX3_findAnchors 99 = .ok (.getfield 37, 3) := by decide +kernel
theorem dX3_findAnchors_102 : decode cX3_findAnchors 102 = .ok (.iload 5, 2) := by decide +kernel
theorem dX3_findAnchors_104 : decode cX3_findAnchors 104 = .ok (.iastore, 1) := by decide +kernel
theorem dX3_findAnchors_105 : decode cX3_findAnchors 105 = .ok (.aload_n 0, 1) := by decide +kernel
theorem dX3_findAnchors_106 : decode cX3_findAnchors 106 = .ok (.dup, 1) := by decide +kernel
theorem dX3_findAnchors_107 : decode cX3_findAnchors 107 = .ok (.getfield 37, 3) := by decide +kernel
theorem dX3_findAnchors_110 : decode cX3_findAnchors 110 = .ok (.iconst 1, 1) := by decide +kernel
theorem dX3_findAnchors_111 : decode cX3_findAnchors 111 = .ok (.iadd, 1) := by decide +kernel
theorem dX3_findAnchors_112 : decode cX3_findAnchors 112 = .ok (.putfield 37, 3) := by decide +kernel
theorem dX3_findAnchors_115 : decode cX3_findAnchors 115 = .ok (.iinc 3 1, 3) := by decide +kernel
theorem dX3_findAnchors_118 : decode cX3_findAnchors 118 = .ok (.goto (-106), 3) := by decide +kernel
theorem dX3_findAnchors_121 : decode cX3_findAnchors 121 = .ok (.return_, 1) := by decide +kernel
theorem dX3_onlyPlace_0 : decode cX3_onlyPlace 0 = .ok (.iconst (-1), 1) := by decide +kernel
theorem dX3_onlyPlace_1 : decode cX3_onlyPlace 1 = .ok (.istore 4, 2) := by decide +kernel
theorem dX3_onlyPlace_3 : decode cX3_onlyPlace 3 = .ok (.iload_n 2, 1) := by decide +kernel
theorem dX3_onlyPlace_4 : decode cX3_onlyPlace 4 = .ok (.istore 5, 2) := by decide +kernel
theorem dX3_onlyPlace_6 : decode cX3_onlyPlace 6 = .ok (.iload 5, 2) := by decide +kernel
theorem dX3_onlyPlace_8 : decode cX3_onlyPlace 8 = .ok (.iload_n 3, 1) := by decide +kernel
theorem dX3_onlyPlace_9 : decode cX3_onlyPlace 9 = .ok (.if_icmp .ge 29, 3) := by decide +kernel
theorem dX3_onlyPlace_12 : decode cX3_onlyPlace 12 = .ok (.aload_n 1, 1) := by decide +kernel
theorem dX3_onlyPlace_13 : decode cX3_onlyPlace 13 = .ok (.iload 5, 2) := by decide +kernel
theorem dX3_onlyPlace_15 : decode cX3_onlyPlace 15 = .ok (.iaload, 1) := by decide +kernel
theorem dX3_onlyPlace_16 : decode cX3_onlyPlace 16 = .ok (.iload_n 0, 1) := by decide +kernel
theorem dX3_onlyPlace_17 : decode cX3_onlyPlace 17 = .ok (.if_icmp .ne 15, 3) := by decide +kernel
theorem dX3_onlyPlace_20 : decode cX3_onlyPlace 20 = .ok (.iload 4, 2) := by decide +kernel
theorem dX3_onlyPlace_22 : decode cX3_onlyPlace 22 = .ok (.iconst (-1), 1) := by decide +kernel
theorem dX3_onlyPlace_23 : decode cX3_onlyPlace 23 = .ok (.if_icmp .eq 5, 3) := by decide +kernel
theorem dX3_onlyPlace_26 : decode cX3_onlyPlace 26 = .ok (.iconst (-1), 1) := by decide +kernel
theorem dX3_onlyPlace_27 : decode cX3_onlyPlace 27 = .ok (.ireturn, 1) := by decide +kernel
theorem dX3_onlyPlace_28 : decode cX3_onlyPlace 28 = .ok (.iload 5, 2) := by decide +kernel
theorem dX3_onlyPlace_30 : decode cX3_onlyPlace 30 = .ok (.istore 4, 2) := by decide +kernel
theorem dX3_onlyPlace_32 : decode cX3_onlyPlace 32 = .ok (.iinc 5 1, 3) := by decide +kernel
theorem dX3_onlyPlace_35 : decode cX3_onlyPlace 35 = .ok (.goto (-29), 3) := by decide +kernel
theorem dX3_onlyPlace_38 : decode cX3_onlyPlace 38 = .ok (.iload 4, 2) := by decide +kernel
theorem dX3_onlyPlace_40 : decode cX3_onlyPlace 40 = .ok (.ireturn, 1) := by decide +kernel
theorem dX3_measureRuns_0 : decode cX3_measureRuns 0 = .ok (.iconst 0, 1) := by decide +kernel
theorem dX3_measureRuns_1 : decode cX3_measureRuns 1 = .ok (.istore_n 1, 1) := by decide +kernel
theorem dX3_measureRuns_2 : decode cX3_measureRuns 2 = .ok (.aload_n 0, 1) := by decide +kernel
theorem dX3_measureRuns_3 : decode cX3_measureRuns 3 = .ok (.getfield 37, 3) := by decide +kernel
theorem dX3_measureRuns_6 : decode cX3_measureRuns 6 = .ok (.iconst 1, 1) := by decide +kernel
theorem dX3_measureRuns_7 : decode cX3_measureRuns 7 = .ok (.isub, 1) := by decide +kernel
theorem dX3_measureRuns_8 : decode cX3_measureRuns 8 = .ok (.istore_n 2, 1) := by decide +kernel
theorem dX3_measureRuns_9 : decode cX3_measureRuns 9 = .ok (.iload_n 2, 1) := by decide +kernel
theorem dX3_measureRuns_10 : decode cX3_measureRuns 10 = .ok (.ifCond .lt 83, 3) := by decide +kernel
theorem dX3_measureRuns_13 : decode cX3_measureRuns 13 = .ok (.aload_n 0, 1) := by decide +kernel
theorem dX3_measureRuns_14 : decode cX3_measureRuns 14 = .ok (.getfield 34, 3) := by decide +kernel
theorem dX3_measureRuns_17 : decode cX3_measureRuns 17 = .ok (.iload_n 2, 1) := by decide +kernel
theorem dX3_measureRuns_18 : decode cX3_measureRuns 18 = .ok (.iconst 1, 1) := by decide +kernel
theorem dX3_measureRuns_19 : decode cX3_measureRuns 19 = .ok (.iastore, 1) := by decide +kernel
theorem dX3_measureRuns_20 : decode cX3_measureRuns 20 = .ok (.iload_n 2, 1) := by decide +kernel
theorem dX3_measureRuns_21 : decode cX3_measureRuns 21 = .ok (.iconst 1, 1) := by decide +kernel
theorem dX3_measureRuns_22 : decode cX3_measureRuns 22 = .ok (.iadd, 1) := by decide +kernel
theorem dX3_measureRuns_23 : decode cX3_measureRuns 23 = .ok (.istore_n 3, 1) := by decide +kernel
theorem dX3_measureRuns_24 : decode cX3_measureRuns 24 = .ok (.iload_n 3, 1) := by decide +kernel
theorem dX3_measureRuns_25 : decode cX3_measureRuns 25 = .ok (.aload_n 0, 1) := by decide +kernel
theorem dX3_measureRuns_26 : decode cX3_measureRuns 26 = .ok (.getfield 37, 3) := by decide +kernel
theorem dX3_measureRuns_29 : decode cX3_measureRuns 29 = .ok (.if_icmp .ge 47, 3) := by decide +kernel
theorem dX3_measureRuns_32 : decode cX3_measureRuns 32 = .ok (.aload_n 0, 1) := by decide +kernel
theorem dX3_measureRuns_33 : decode cX3_measureRuns 33 = .ok (.getfield 31, 3) := by decide +kernel
theorem dX3_measureRuns_36 : decode cX3_measureRuns 36 = .ok (.iload_n 3, 1) := by decide +kernel
theorem dX3_measureRuns_37 : decode cX3_measureRuns 37 = .ok (.iaload, 1) := by decide +kernel
theorem dX3_measureRuns_38 : decode cX3_measureRuns 38 = .ok (.aload_n 0, 1) := by decide +kernel
theorem dX3_measureRuns_39 : decode cX3_measureRuns 39 = .ok (.getfield 31, 3) := by decide +kernel
theorem dX3_measureRuns_42 : decode cX3_measureRuns 42 = .ok (.iload_n 2, 1) := by decide +kernel
theorem dX3_measureRuns_43 : decode cX3_measureRuns 43 = .ok (.iaload, 1) := by decide +kernel
theorem dX3_measureRuns_44 : decode cX3_measureRuns 44 = .ok (.if_icmp .le 26, 3) := by decide +kernel
theorem dX3_measureRuns_47 : decode cX3_measureRuns 47 = .ok (.aload_n 0, 1) := by decide +kernel
theorem dX3_measureRuns_48 : decode cX3_measureRuns 48 = .ok (.getfield 34, 3) := by decide +kernel
theorem dX3_measureRuns_51 : decode cX3_measureRuns 51 = .ok (.iload_n 2, 1) := by decide +kernel
theorem dX3_measureRuns_52 : decode cX3_measureRuns 52 = .ok (.aload_n 0, 1) := by decide +kernel
theorem dX3_measureRuns_53 : decode cX3_measureRuns 53 = .ok (.getfield 34, 3) := by decide +kernel
theorem dX3_measureRuns_56 : decode cX3_measureRuns 56 = .ok (.iload_n 2, 1) := by decide +kernel
theorem dX3_measureRuns_57 : decode cX3_measureRuns 57 = .ok (.iaload, 1) := by decide +kernel
theorem dX3_measureRuns_58 : decode cX3_measureRuns 58 = .ok (.aload_n 0, 1) := by decide +kernel
theorem dX3_measureRuns_59 : decode cX3_measureRuns 59 = .ok (.getfield 34, 3) := by decide +kernel
theorem dX3_measureRuns_62 : decode cX3_measureRuns 62 = .ok (.iload_n 3, 1) := by decide +kernel
theorem dX3_measureRuns_63 : decode cX3_measureRuns 63 = .ok (.iaload, 1) := by decide +kernel
theorem dX3_measureRuns_64 : decode cX3_measureRuns 64 = .ok (.iconst 1, 1) := by decide +kernel
theorem dX3_measureRuns_65 : decode cX3_measureRuns 65 = .ok (.iadd, 1) := by decide +kernel
theorem dX3_measureRuns_66 : decode cX3_measureRuns 66 = .ok (.invokestatic 93, 3) := by decide +kernel
theorem dX3_measureRuns_69 : decode cX3_measureRuns 69 = .ok (.iastore, 1) := by decide +kernel
theorem dX3_measureRuns_70 : decode cX3_measureRuns 70 = .ok (.iinc 3 1, 3) := by decide +kernel
theorem dX3_measureRuns_73 : decode cX3_measureRuns 73 = .ok (.goto (-49), 3) := by decide +kernel
theorem dX3_measureRuns_76 : decode cX3_measureRuns 76 = .ok (.iload_n 1, 1) := by decide +kernel
theorem dX3_measureRuns_77 : decode cX3_measureRuns 77 = .ok (.aload_n 0, 1) := by decide +kernel
theorem dX3_measureRuns_78 : decode cX3_measureRuns 78 = .ok (.getfield 34, 3) := by decide +kernel
theorem dX3_measureRuns_81 : decode cX3_measureRuns 81 = .ok (.iload_n 2, 1) := by decide +kernel
theorem dX3_measureRuns_82 : decode cX3_measureRuns 82 = .ok (.iaload, 1) := by decide +kernel
theorem dX3_measureRuns_83 : decode cX3_measureRuns 83 = .ok (.invokestatic 93, 3) := by decide +kernel
theorem dX3_measureRuns_86 : decode cX3_measureRuns 86 = .ok (.istore_n 1, 1) := by decide +kernel
theorem dX3_measureRuns_87 : decode cX3_measureRuns 87 = .ok (.iinc 2 (-1), 3) := by decide +kernel
theorem dX3_measureRuns_90 : decode cX3_measureRuns 90 = .ok (.goto (-81), 3) := by decide +kernel
theorem dX3_measureRuns_93 : decode cX3_measureRuns 93 = .ok (.iload_n 1, 1) := by decide +kernel
theorem dX3_measureRuns_94 : decode cX3_measureRuns 94 = .ok (.ireturn, 1) := by decide +kernel
theorem dX3_keepRun_0 : decode cX3_keepRun 0 = .ok (.iload_n 2, 1) := by decide +kernel
theorem dX3_keepRun_1 : decode cX3_keepRun 1 = .ok (.istore 4, 2) := by decide +kernel
theorem dX3_keepRun_3 : decode cX3_keepRun 3 = .ok (.aload_n 0, 1) := by decide +kernel
theorem dX3_keepRun_4 : decode cX3_keepRun 4 = .ok (.getfield 9, 3) := by decide +kernel
theorem dX3_keepRun_7 : decode cX3_keepRun 7 = .ok (.iload_n 1, 1) := by decide +kernel
theorem dX3_keepRun_8 : decode cX3_keepRun 8 = .ok (.iaload, 1) := by decide +kernel
theorem dX3_keepRun_9 : decode cX3_keepRun 9 = .ok (.istore 5, 2) := by decide +kernel
theorem dX3_keepRun_11 : decode cX3_keepRun 11 = .ok (.aload_n 0, 1) := by decide +kernel
theorem dX3_keepRun_12 : decode cX3_keepRun 12 = .ok (.getfield 18, 3) := by decide +kernel
theorem dX3_keepRun_15 : decode cX3_keepRun 15 = .ok (.iload_n 1, 1) := by decide +kernel
theorem dX3_keepRun_16 : decode cX3_keepRun 16 = .ok (.iaload, 1) := by decide +kernel
theorem dX3_keepRun_17 : decode cX3_keepRun 17 = .ok (.istore 6, 2) := by decide +kernel
theorem dX3_keepRun_19 : decode cX3_keepRun 19 = .ok (.iconst 0, 1) := by decide +kernel
theorem dX3_keepRun_20 : decode cX3_keepRun 20 = .ok (.istore 7, 2) := by decide +kernel
theorem dX3_keepRun_22 : decode cX3_keepRun 22 = .ok (.iload 7, 2) := by decide +kernel
theorem dX3_keepRun_24 : decode cX3_keepRun 24 = .ok (.aload_n 0, 1) := by decide +kernel
theorem dX3_keepRun_25 : decode cX3_keepRun 25 = .ok (.getfield 37, 3) := by decide +kernel
theorem dX3_keepRun_28 : decode cX3_keepRun 28 = .ok (.if_icmp .ge 100, 3) := by decide +kernel
theorem dX3_keepRun_31 : decode cX3_keepRun 31 = .ok (.aload_n 0, 1) := by decide +kernel
theorem dX3_keepRun_32 : decode cX3_keepRun 32 = .ok (.getfield 34, 3) := by decide +kernel
theorem dX3_keepRun_35 : decode cX3_keepRun 35 = .ok (.iload 7, 2) := by decide +kernel
theorem dX3_keepRun_37 : decode cX3_keepRun 37 = .ok (.iaload, 1) := by decide +kernel
theorem dX3_keepRun_38 : decode cX3_keepRun 38 = .ok (.iload 4, 2) := by decide +kernel
theorem dX3_keepRun_40 : decode cX3_keepRun 40 = .ok (.if_icmp .ne 82, 3) := by decide +kernel
theorem dX3_keepRun_43 : decode cX3_keepRun 43 = .ok (.aload_n 0, 1) := by decide +kernel
theorem dX3_keepRun_44 : decode cX3_keepRun 44 = .ok (.getfield 31, 3) := by decide +kernel
theorem dX3_keepRun_47 : decode cX3_keepRun 47 = .ok (.iload 7, 2) := by decide +kernel
theorem dX3_keepRun_49 : decode cX3_keepRun 49 = .ok (.iaload, 1) := by decide +kernel
theorem dX3_keepRun_50 : decode cX3_keepRun 50 = .ok (.iload 6, 2) := by decide +kernel
theorem dX3_keepRun_52 : decode cX3_keepRun 52 = .ok (.if_icmp .lt 70, 3) := by decide +kernel
theorem dX3_keepRun_55 : decode cX3_keepRun 55 = .ok (.aload_n 0, 1) := by decide +kernel
theorem dX3_keepRun_56 : decode cX3_keepRun 56 = .ok (.iload 5, 2) := by decide +kernel
theorem dX3_keepRun_58 : decode cX3_keepRun 58 = .ok (.aload_n 0, 1) := by decide +kernel
theorem dX3_keepRun_59 : decode cX3_keepRun 59 = .ok (.getfield 28, 3) := by decide +kernel
theorem dX3_keepRun_62 : decode cX3_keepRun 62 = .ok (.iload 7, 2) := by decide +kernel
theorem dX3_keepRun_64 : decode cX3_keepRun 64 = .ok (.iaload, 1) := by decide +kernel
theorem dX3_keepRun_65 : decode cX3_keepRun 65 = .ok (.iload 6, 2) := by decide +kernel
theorem dX3_keepRun_67 : decode cX3_keepRun 67 = .ok (.aload_n 0, 1) := by decide +kernel
theorem dX3_keepRun_68 : decode cX3_keepRun 68 = .ok (.getfield 31, 3) := by decide +kernel
theorem dX3_keepRun_71 : decode cX3_keepRun 71 = .ok (.iload 7, 2) := by decide +kernel
theorem dX3_keepRun_73 : decode cX3_keepRun 73 = .ok (.iaload, 1) := by decide +kernel
theorem dX3_keepRun_74 : decode cX3_keepRun 74 = .ok (.invokevirtual 48, 3) := by decide +kernel
theorem dX3_keepRun_77 : decode cX3_keepRun 77 = .ok (.aload_n 3, 1) := by decide +kernel
theorem dX3_keepRun_78 : decode cX3_keepRun 78 = .ok (.iconst 0, 1) := by decide +kernel
theorem dX3_keepRun_79 : decode cX3_keepRun 79 = .ok (.aload_n 0, 1) := by decide +kernel
theorem dX3_keepRun_80 : decode cX3_keepRun 80 = .ok (.getfield 28, 3) := by decide +kernel
theorem dX3_keepRun_83 : decode cX3_keepRun 83 = .ok (.iload 7, 2) := by decide +kernel
theorem dX3_keepRun_85 : decode cX3_keepRun 85 = .ok (.iaload, 1) := by decide +kernel
theorem dX3_keepRun_86 : decode cX3_keepRun 86 = .ok (.aload_n 0, 1) := by decide +kernel
theorem dX3_keepRun_87 : decode cX3_keepRun 87 = .ok (.getfield 31, 3) := by decide +kernel
theorem dX3_keepRun_90 : decode cX3_keepRun 90 = .ok (.iload 7, 2) := by decide +kernel
theorem dX3_keepRun_92 : decode cX3_keepRun 92 = .ok (.iaload, 1) := by decide +kernel
theorem dX3_keepRun_93 : decode cX3_keepRun 93 = .ok (.iconst (-1), 1) := by decide +kernel
theorem dX3_keepRun_94 : decode cX3_keepRun 94 = .ok (.invokevirtual 80, 3) := by decide +kernel
theorem dX3_keepRun_97 : decode cX3_keepRun 97 = .ok (.aload_n 0, 1) := by decide +kernel
theorem dX3_keepRun_98 : decode cX3_keepRun 98 = .ok (.getfield 28, 3) := by decide +kernel
theorem dX3_keepRun_101 : decode cX3_keepRun 101 = .ok (.iload 7, 2) := by decide +kernel
theorem dX3_keepRun_103 : decode cX3_keepRun 103 = .ok (.iaload, 1) := by decide +kernel
theorem dX3_keepRun_104 : decode cX3_keepRun 104 = .ok (.iconst 1, 1) := by decide +kernel
theorem dX3_keepRun_105 : decode cX3_keepRun 105 = .ok (.iadd, 1) := by decide +kernel
theorem dX3_keepRun_106 : decode cX3_keepRun 106 = .ok (.istore 5, 2) := by decide +kernel
theorem dX3_keepRun_108 : decode cX3_keepRun 108 = .ok (.aload_n 0, 1) := by decide +kernel
theorem dX3_keepRun_109 : decode cX3_keepRun 109 = .ok (.getfield 31, 3) := by decide +kernel
theorem dX3_keepRun_112 : decode cX3_keepRun 112 = .ok (.iload 7, 2) := by decide +kernel
theorem dX3_keepRun_114 : decode cX3_keepRun 114 = .ok (.iaload, 1) := by decide +kernel
theorem dX3_keepRun_115 : decode cX3_keepRun 115 = .ok (.iconst 1, 1) := by decide +kernel
theorem dX3_keepRun_116 : decode cX3_keepRun 116 = .ok (.iadd, 1) := by decide +kernel
theorem dX3_keepRun_117 : decode cX3_keepRun 117 = .ok (.istore 6, 2) := by decide +kernel
theorem dX3_keepRun_119 : decode cX3_keepRun 119 = .ok (.iinc 4 (-1), 3) := by decide +kernel
theorem dX3_keepRun_122 : decode cX3_keepRun 122 = .ok (.iinc 7 1, 3) := by decide +kernel
theorem dX3_keepRun_125 : decode cX3_keepRun 125 = .ok (.goto (-103), 3) := by decide +kernel
theorem dX3_keepRun_128 : decode cX3_keepRun 128 = .ok (.aload_n 0, 1) := by decide +kernel
theorem dX3_keepRun_129 : decode cX3_keepRun 129 = .ok (.iload 5, 2) := by decide +kernel
theorem dX3_keepRun_131 : decode cX3_keepRun 131 = .ok (.aload_n 0, 1) := by decide +kernel
theorem dX3_keepRun_132 : decode cX3_keepRun 132 = .ok (.getfield 15, 3) := by decide +kernel
theorem dX3_keepRun_135 : decode cX3_keepRun 135 = .ok (.iload_n 1, 1) := by decide +kernel
theorem dX3_keepRun_136 : decode cX3_keepRun 136 = .ok (.iaload, 1) := by decide +kernel
theorem dX3_keepRun_137 : decode cX3_keepRun 137 = .ok (.iload 6, 2) := by decide +kernel
theorem dX3_keepRun_139 : decode cX3_keepRun 139 = .ok (.aload_n 0, 1) := by decide +kernel
theorem dX3_keepRun_140 : decode cX3_keepRun 140 = .ok (.getfield 21, 3) := by decide +kernel
theorem dX3_keepRun_143 : decode cX3_keepRun 143 = .ok (.iload_n 1, 1) := by decide +kernel
theorem dX3_keepRun_144 : decode cX3_keepRun 144 = .ok (.iaload, 1) := by decide +kernel
theorem dX3_keepRun_145 : decode cX3_keepRun 145 = .ok (.invokevirtual 48, 3) := by decide +kernel
theorem dX3_keepRun_148 : decode cX3_keepRun 148 = .ok (.return_, 1) := by decide +kernel
theorem dX4_init_0 : decode cX4_init 0 = .ok (.aload_n 0, 1) := by decide +kernel
theorem dX4_init_1 : decode cX4_init 1 = .ok (.invokespecial 3, 3) := by decide +kernel
theorem dX4_init_4 : decode cX4_init 4 = .ok (.aload_n 0, 1) := by decide +kernel
theorem dX4_init_5 : decode cX4_init 5 = .ok (.bipush 14, 2) := by decide +kernel
theorem dX4_init_7 : decode cX4_init 7 = .ok (.newarray .int, 2) := by decide +kernel
theorem dX4_init_9 : decode cX4_init 9 = .ok (.putfield 9, 3) := by decide +kernel
theorem dX4_init_12 : decode cX4_init 12 = .ok (.aload_n 0, 1) := by decide +kernel
theorem dX4_init_13 : decode cX4_init 13 = .ok (.bipush 14, 2) := by decide +kernel
theorem dX4_init_15 : decode cX4_init 15 = .ok (.newarray .int, 2) := by decide +kernel
theorem dX4_init_17 : decode cX4_init 17 = .ok (.putfield 15, 3) := by decide +kernel
theorem dX4_init_20 : decode cX4_init 20 = .ok (.aload_n 0, 1) := by decide +kernel
theorem dX4_init_21 : decode cX4_init 21 = .ok (.iconst 0, 1) := by decide +kernel
theorem dX4_init_22 : decode cX4_init 22 = .ok (.putfield 18, 3) := by decide +kernel
theorem dX4_init_25 : decode cX4_init 25 = .ok (.aload_n 0, 1) := by decide +kernel
theorem dX4_init_26 : decode cX4_init 26 = .ok (.iconst 0, 1) := by decide +kernel
theorem dX4_init_27 : decode cX4_init 27 = .ok (.putfield 22, 3) := by decide +kernel
theorem dX4_init_30 : decode cX4_init 30 = .ok (.return_, 1) := by decide +kernel
theorem dX4_number_0 : decode cX4_number 0 = .ok (.aload_n 0, 1) := by decide +kernel
theorem dX4_number_1 : decode cX4_number 1 = .ok (.aload_n 1, 1) := by decide +kernel
theorem dX4_number_2 : decode cX4_number 2 = .ok (.getfield 25, 3) := by decide +kernel
theorem dX4_number_5 : decode cX4_number 5 = .ok (.putfield 18, 3) := by decide +kernel
theorem dX4_number_8 : decode cX4_number 8 = .ok (.aload_n 0, 1) := by decide +kernel
theorem dX4_number_9 : decode cX4_number 9 = .ok (.aload_n 2, 1) := by decide +kernel
theorem dX4_number_10 : decode cX4_number 10 = .ok (.getfield 25, 3) := by decide +kernel
theorem dX4_number_13 : decode cX4_number 13 = .ok (.putfield 22, 3) := by decide +kernel
theorem dX4_number_16 : decode cX4_number 16 = .ok (.iconst 0, 1) := by decide +kernel
theorem dX4_number_17 : decode cX4_number 17 = .ok (.istore_n 3, 1) := by decide +kernel
theorem dX4_number_18 : decode cX4_number 18 = .ok (.iload_n 3, 1) := by decide +kernel
theorem dX4_number_19 : decode cX4_number 19 = .ok (.aload_n 0, 1) := by decide +kernel
theorem dX4_number_20 : decode cX4_number 20 = .ok (.getfield 18, 3) := by decide +kernel
theorem dX4_number_23 : decode cX4_number 23 = .ok (.if_icmp .ge 22, 3) := by decide +kernel
theorem dX4_number_26 : decode cX4_number 26 = .ok (.aload_n 0, 1) := by decide +kernel
theorem dX4_number_27 : decode cX4_number 27 = .ok (.getfield 9, 3) := by decide +kernel
theorem dX4_number_30 : decode cX4_number 30 = .ok (.iload_n 3, 1) := by decide +kernel
theorem dX4_number_31 : decode cX4_number 31 = .ok (.aload_n 1, 1) := by decide +kernel
theorem dX4_number_32 : decode cX4_number 32 = .ok (.iload_n 3, 1) := by decide +kernel
theorem dX4_number_33 : decode cX4_number 33 = .ok (.aload_n 1, 1) := by decide +kernel
theorem dX4_number_34 : decode cX4_number 34 = .ok (.iload_n 3, 1) := by decide +kernel
theorem dX4_number_35 : decode cX4_number 35 = .ok (.invokestatic 30, 3) := by decide +kernel
theorem dX4_number_38 : decode cX4_number 38 = .ok (.iastore, 1) := by decide +kernel
theorem dX4_number_39 : decode cX4_number 39 = .ok (.iinc 3 1, 3) := by decide +kernel
theorem dX4_number_42 : decode cX4_number 42 = .ok (.goto (-24), 3) := by decide +kernel
theorem dX4_number_45 : decode cX4_number 45 = .ok (.iconst 0, 1) := by decide +kernel
theorem dX4_number_46 : decode cX4_number 46 = .ok (.istore_n 3, 1) := by decide +kernel
theorem dX4_number_47 : decode cX4_number 47 = .ok (.iload_n 3, 1) := by decide +kernel
theorem dX4_number_48 : decode cX4_number 48 = .ok (.aload_n 0, 1) := by decide +kernel
theorem dX4_number_49 : decode cX4_number 49 = .ok (.getfield 22, 3) := by decide +kernel
theorem dX4_number_52 : decode cX4_number 52 = .ok (.if_icmp .ge 25, 3) := by decide +kernel
theorem dX4_number_55 : decode cX4_number 55 = .ok (.aload_n 0, 1) := by decide +kernel
theorem dX4_number_56 : decode cX4_number 56 = .ok (.getfield 15, 3) := by decide +kernel
theorem dX4_number_59 : decode cX4_number 59 = .ok (.iload_n 3, 1) := by decide +kernel
theorem dX4_number_60 : decode cX4_number 60 = .ok (.aload_n 2, 1) := by decide +kernel
theorem dX4_number_61 : decode cX4_number 61 = .ok (.iload_n 3, 1) := by decide +kernel
theorem dX4_number_62 : decode cX4_number 62 = .ok (.aload_n 1, 1) := by decide +kernel
theorem dX4_number_63 : decode cX4_number 63 = .ok (.aload_n 0, 1) := by decide +kernel
theorem dX4_number_64 : decode cX4_number 64 = .ok (.getfield 18, 3) := by decide +kernel
theorem dX4_number_67 : decode cX4_number 67 = .ok (.invokestatic 30, 3) := by decide +kernel
theorem dX4_number_70 : decode cX4_number 70 = .ok (.iastore, 1) := by decide +kernel
theorem dX4_number_71 : decode cX4_number 71 = .ok (.iinc 3 1, 3) := by decide +kernel
theorem dX4_number_74 : decode cX4_number 74 = .ok (.goto (-27), 3) := by decide +kernel
theorem dX4_number_77 : decode cX4_number 77 = .ok (.return_, 1) := by decide +kernel
theorem dX4_firstLike_0 : decode cX4_firstLike 0 = .ok (.iconst 0, 1) := by decide +kernel
theorem dX4_firstLike_1 : decode cX4_firstLike 1 = .ok (.istore 4, 2) := by decide +kernel
theorem dX4_firstLike_3 : decode cX4_firstLike 3 = .ok (.iload 4, 2) := by decide +kernel
theorem dX4_firstLike_5 : decode cX4_firstLike 5 = .ok (.iload_n 3, 1) := by decide +kernel
theorem dX4_firstLike_6 : decode cX4_firstLike 6 = .ok (.if_icmp .ge 20, 3) := by decide +kernel
theorem dX4_firstLike_9 : decode cX4_firstLike 9 = .ok (.aload_n 0, 1) := by decide +kernel
theorem dX4_firstLike_10 : decode cX4_firstLike 10 = .ok (.iload_n 1, 1) := by decide +kernel
theorem dX4_firstLike_11 : decode cX4_firstLike 11 = .ok (.aload_n 2, 1) := by decide +kernel
theorem dX4_firstLike_12 : decode cX4_firstLike 12 = .ok (.iload 4, 2) := by decide +kernel
theorem dX4_firstLike_14 : decode cX4_firstLike 14 = .ok (.invokevirtual 34, 3) := by decide +kernel
theorem dX4_firstLike_17 : decode cX4_firstLike 17 = .ok (.ifCond .ne 9, 3) := by decide +kernel
theorem dX4_firstLike_20 : decode cX4_firstLike 20 = .ok (.iinc 4 1, 3) := by decide +kernel
theorem dX4_firstLike_23 : decode cX4_firstLike 23 = .ok (.goto (-20), 3) := by decide +kernel
theorem dX4_firstLike_26 : decode cX4_firstLike 26 = .ok (.iload 4, 2) := by decide +kernel
theorem dX4_firstLike_28 : decode cX4_firstLike 28 = .ok (.ireturn, 1) := by decide +kernel
theorem dX4_areAlike_0 : decode cX4_areAlike 0 = .ok (.iload_n 1, 1) := by decide +kernel
theorem dX4_areAlike_1 : decode cX4_areAlike 1 = .ok (.ifCond .lt 42, 3) := by decide +kernel
theorem dX4_areAlike_4 : decode cX4_areAlike 4 = .ok (.iload_n 1, 1) := by decide +kernel
theorem dX4_areAlike_5 : decode cX4_areAlike 5 = .ok (.aload_n 0, 1) := by decide +kernel
theorem dX4_areAlike_6 : decode cX4_areAlike 6 = .ok (.getfield 18, 3) := by decide +kernel
theorem dX4_areAlike_9 : decode cX4_areAlike 9 = .ok (.if_icmp .ge 34, 3) := by decide +kernel
theorem dX4_areAlike_12 : decode cX4_areAlike 12 = .ok (.iload_n 2, 1) := by decide +kernel
theorem dX4_areAlike_13 : decode cX4_areAlike 13 = .ok (.ifCond .lt 30, 3) := by decide +kernel
theorem dX4_areAlike_16 : decode cX4_areAlike 16 = .ok (.iload_n 2, 1) := by decide +kernel
theorem dX4_areAlike_17 : decode cX4_areAlike 17 = .ok (.aload_n 0, 1) := by decide +kernel
theorem dX4_areAlike_18 : decode cX4_areAlike 18 = .ok (.getfield 22, 3) := by decide +kernel
theorem dX4_areAlike_21 : decode cX4_areAlike 21 = .ok (.if_icmp .ge 22, 3) := by decide +kernel
theorem dX4_areAlike_24 : decode cX4_areAlike 24 = .ok (.aload_n 0, 1) := by decide +kernel
theorem dX4_areAlike_25 : decode cX4_areAlike 25 = .ok (.getfield 9, 3) := by decide +kernel
theorem dX4_areAlike_28 : decode cX4_areAlike 28 = .ok (.iload_n 1, 1) := by decide +kernel
theorem dX4_areAlike_29 : decode cX4_areAlike 29 = .ok (.iaload, 1) := by decide +kernel
theorem dX4_areAlike_30 : decode cX4_areAlike 30 = .ok (.aload_n 0, 1) := by decide +kernel
theorem dX4_areAlike_31 : decode cX4_areAlike 31 = .ok (.getfield 15, 3) := by decide +kernel
theorem dX4_areAlike_34 : decode cX4_areAlike 34 = .ok (.iload_n 2, 1) := by decide +kernel
theorem dX4_areAlike_35 : decode cX4_areAlike 35 = .ok (.iaload, 1) := by decide +kernel
theorem dX4_areAlike_36 : decode cX4_areAlike 36 = .ok (.if_icmp .ne 7, 3) := by decide +kernel
theorem dX4_areAlike_39 : decode cX4_areAlike 39 = .ok (.iconst 1, 1) := by decide +kernel
theorem dX4_areAlike_40 : decode cX4_areAlike 40 = .ok (.goto 4, 3) := by decide +kernel
theorem dX4_areAlike_43 : decode cX4_areAlike 43 = .ok (.iconst 0, 1) := by decide +kernel
theorem dX4_areAlike_44 : decode cX4_areAlike 44 = .ok (.ireturn, 1) := by decide +kernel
theorem dX5_init_0 : decode cX5_init 0 = .ok (.aload_n 0, 1) := by decide +kernel
theorem dX5_init_1 : decode cX5_init 1 = .ok (.invokespecial 3, 3) := by decide +kernel
theorem dX5_init_4 : decode cX5_init 4 = .ok (.aload_n 0, 1) := by decide +kernel
theorem dX5_init_5 : decode cX5_init 5 = .ok (.bipush 10, 2) := by decide +kernel
theorem dX5_init_7 : decode cX5_init 7 = .ok (.anewarray 9, 3) := by decide +kernel
theorem dX5_init_10 : decode cX5_init 10 = .ok (.putfield 11, 3) := by decide +kernel
theorem dX5_init_13 : decode cX5_init 13 = .ok (.aload_n 0, 1) := by decide +kernel
theorem dX5_init_14 : decode cX5_init 14 = .ok (.bipush 10, 2) := by decide +kernel
theorem dX5_init_16 : decode cX5_init 16 = .ok (.newarray .int, 2) := by decide +kernel
theorem dX5_init_18 : decode cX5_init 18 = .ok (.putfield 17, 3) := by decide +kernel
theorem dX5_init_21 : decode cX5_init 21 = .ok (.aload_n 0, 1) := by decide +kernel
theorem dX5_init_22 : decode cX5_init 22 = .ok (.iconst 0, 1) := by decide +kernel
theorem dX5_init_23 : decode cX5_init 23 = .ok (.putfield 21, 3) := by decide +kernel
theorem dX5_init_26 : decode cX5_init 26 = .ok (.aload_n 0, 1) := by decide +kernel
theorem dX5_init_27 : decode cX5_init 27 = .ok (.iconst 0, 1) := by decide +kernel
theorem dX5_init_28 : decode cX5_init 28 = .ok (.putfield 25, 3) := by decide +kernel
theorem dX5_init_31 : decode cX5_init 31 = .ok (.iconst 0, 1) := by decide +kernel
theorem dX5_init_32 : decode cX5_init 32 = .ok (.istore_n 1, 1) := by decide +kernel
theorem dX5_init_33 : decode cX5_init 33 = .ok (.iload_n 1, 1) := by decide +kernel
theorem dX5_init_34 : decode cX5_init 34 = .ok (.bipush 10, 2) := by decide +kernel
theorem dX5_init_36 : decode cX5_init 36 = .ok (.if_icmp .ge 22, 3) := by decide +kernel
theorem dX5_init_39 : decode cX5_init 39 = .ok (.aload_n 0, 1) := by decide +kernel
theorem dX5_init_40 : decode cX5_init 40 = .ok (.getfield 11, 3) := by decide +kernel
theorem dX5_init_43 : decode cX5_init 43 = .ok (.iload_n 1, 1) := by decide +kernel
theorem dX5_init_44 : decode cX5_init 44 = .ok (.new 9, 3) := by decide +kernel
theorem dX5_init_47 : decode cX5_init 47 = .ok (.dup, 1) := by decide +kernel
theorem dX5_init_48 : decode cX5_init 48 = .ok (.invokespecial 28, 3) := by decide +kernel
theorem dX5_init_51 : decode cX5_init 51 = .ok (.aastore, 1) := by decide +kernel
theorem dX5_init_52 : decode cX5_init 52 = .ok (.iinc 1 1, 3) := by decide +kernel
theorem dX5_init_55 : decode cX5_init 55 = .ok (.goto (-22), 3) := by decide +kernel
theorem dX5_init_58 : decode cX5_init 58 = .ok (.return_, 1) := by decide +kernel
theorem dX5_keep_0 : decode cX5_keep 0 = .ok (.aload_n 0, 1) := by decide +kernel
theorem dX5_keep_1 : decode cX5_keep 1 = .ok (.getfield 17, 3) := by decide +kernel
theorem dX5_keep_4 : decode cX5_keep 4 = .ok (.aload_n 0, 1) := by decide +kernel
theorem dX5_keep_5 : decode cX5_keep 5 = .ok (.getfield 25, 3) := by decide +kernel
theorem dX5_keep_8 : decode cX5_keep 8 = .ok (.iload_n 1, 1) := by decide +kernel
theorem dX5_keep_9 : decode cX5_keep 9 = .ok (.iastore, 1) := by decide +kernel
theorem dX5_keep_10 : decode cX5_keep 10 = .ok (.aload_n 0, 1) := by decide +kernel
theorem dX5_keep_11 : decode cX5_keep 11 = .ok (.getfield 11, 3) := by decide +kernel
theorem dX5_keep_14 : decode cX5_keep 14 = .ok (.aload_n 0, 1) := by decide +kernel
theorem dX5_keep_15 : decode cX5_keep 15 = .ok (.getfield 25, 3) := by decide +kernel
theorem dX5_keep_18 : decode cX5_keep 18 = .ok (.aaload, 1) := by decide +kernel
theorem dX5_keep_19 : decode cX5_keep 19 = .ok (.aload_n 2, 1) := by decide +kernel
theorem dX5_keep_20 : decode cX5_keep 20 = .ok (.invokevirtual 29, 3) := by decide +kernel
theorem dX5_keep_23 : decode cX5_keep 23 = .ok (.aload_n 0, 1) := by decide +kernel
theorem dX5_keep_24 : decode cX5_keep 24 = .ok (.aload_n 0, 1) := by decide +kernel
theorem dX5_keep_25 : decode cX5_keep 25 = .ok (.getfield 25, 3) := by decide +kernel
theorem dX5_keep_28 : decode cX5_keep 28 = .ok (.iconst 1, 1) := by decide +kernel
theorem dX5_keep_29 : decode cX5_keep 29 = .ok (.iadd, 1) := by decide +kernel
theorem dX5_keep_30 : decode cX5_keep 30 = .ok (.bipush 10, 2) := by decide +kernel
theorem dX5_keep_32 : decode cX5_keep 32 = .ok (.if_icmp .ge 12, 3) := by decide +kernel
theorem dX5_keep_35 : decode cX5_keep 35 = .ok (.aload_n 0, 1) := by decide +kernel
theorem dX5_keep_36 : decode cX5_keep 36 = .ok (.getfield 25, 3) := by decide +kernel
theorem dX5_keep_39 : decode cX5_keep 39 = .ok (.iconst 1, 1) := by decide +kernel
theorem dX5_keep_40 : decode cX5_keep 40 = .ok (.iadd, 1) := by decide +kernel
theorem dX5_keep_41 : decode cX5_keep 41 = .ok (.goto 4, 3) := by decide +kernel
theorem dX5_keep_44 : decode cX5_keep 44 = .ok (.iconst 0, 1) := by decide +kernel
theorem dX5_keep_45 : decode cX5_keep 45 = .ok (.putfield 25, 3) := by decide +kernel
theorem dX5_keep_48 : decode cX5_keep 48 = .ok (.aload_n 0, 1) := by decide +kernel
theorem dX5_keep_49 : decode cX5_keep 49 = .ok (.aload_n 0, 1) := by decide +kernel
theorem dX5_keep_50 : decode cX5_keep 50 = .ok (.getfield 21, 3) := by decide +kernel
theorem dX5_keep_53 : decode cX5_keep 53 = .ok (.iconst 1, 1) := by decide +kernel
theorem dX5_keep_54 : decode cX5_keep 54 = .ok (.iadd, 1) := by decide +kernel
theorem dX5_keep_55 : decode cX5_keep 55 = .ok (.bipush 10, 2) := by decide +kernel
theorem dX5_keep_57 : decode cX5_keep 57 = .ok (.invokestatic 33, 3) := by decide +kernel
theorem dX5_keep_60 : decode cX5_keep 60 = .ok (.putfield 21, 3) := by decide +kernel
theorem dX5_keep_63 : decode cX5_keep 63 = .ok (.return_, 1) := by decide +kernel
theorem dX5_stepBack_0 : decode cX5_stepBack 0 = .ok (.aload_n 0, 1) := by decide +kernel
theorem dX5_stepBack_1 : decode cX5_stepBack 1 = .ok (.aload_n 0, 1) := by decide +kernel
theorem dX5_stepBack_2 : decode cX5_stepBack 2 = .ok (.getfield 25, 3) := by decide +kernel
theorem dX5_stepBack_5 : decode cX5_stepBack 5 = .ok (.ifCond .le 12, 3) := by decide +kernel
theorem dX5_stepBack_8 : decode cX5_stepBack 8 = .ok (.aload_n 0, 1) := by decide +kernel
theorem dX5_stepBack_9 : decode cX5_stepBack 9 = .ok (.getfield 25, 3) := by decide +kernel
theorem dX5_stepBack_12 : decode cX5_stepBack 12 = .ok (.iconst 1, 1) := by decide +kernel
theorem dX5_stepBack_13 : decode cX5_stepBack 13 = .ok (.isub, 1) := by decide +kernel
theorem dX5_stepBack_14 : decode cX5_stepBack 14 = .ok (.goto 5, 3) := by decide +kernel
theorem dX5_stepBack_17 : decode cX5_stepBack 17 = .ok (.bipush 9, 2) := by decide +kernel
theorem dX5_stepBack_19 : decode cX5_stepBack 19 = .ok (.putfield 25, 3) := by decide +kernel
theorem dX5_stepBack_22 : decode cX5_stepBack 22 = .ok (.aload_n 0, 1) := by decide +kernel
theorem dX5_stepBack_23 : decode cX5_stepBack 23 = .ok (.aload_n 0, 1) := by decide +kernel
theorem dX5_stepBack_24 : decode cX5_stepBack 24 = .ok (.getfield 21, 3) := by decide +kernel
theorem dX5_stepBack_27 : decode cX5_stepBack 27 = .ok (.iconst 1, 1) := by decide +kernel
theorem dX5_stepBack_28 : decode cX5_stepBack 28 = .ok (.isub, 1) := by decide +kernel
theorem dX5_stepBack_29 : decode cX5_stepBack 29 = .ok (.iconst 0, 1) := by decide +kernel
theorem dX5_stepBack_30 : decode cX5_stepBack 30 = .ok (.invokestatic 39, 3) := by decide +kernel
theorem dX5_stepBack_33 : decode cX5_stepBack 33 = .ok (.putfield 21, 3) := by decide +kernel
theorem dX5_stepBack_36 : decode cX5_stepBack 36 = .ok (.aload_n 0, 1) := by decide +kernel
theorem dX5_stepBack_37 : decode cX5_stepBack 37 = .ok (.getfield 25, 3) := by decide +kernel
theorem dX5_stepBack_40 : decode cX5_stepBack 40 = .ok (.ireturn, 1) := by decide +kernel
theorem dX5_forget_0 : decode cX5_forget 0 = .ok (.aload_n 0, 1) := by decide +kernel
theorem dX5_forget_1 : decode cX5_forget 1 = .ok (.iconst 0, 1) := by decide +kernel
theorem dX5_forget_2 : decode cX5_forget 2 = .ok (.putfield 21, 3) := by decide +kernel
theorem dX5_forget_5 : decode cX5_forget 5 = .ok (.return_, 1) := by decide +kernel
theorem dX6_init_0 : decode cX6_init 0 = .ok (.aload_n 0, 1) := by decide +kernel
theorem dX6_init_1 : decode cX6_init 1 = .ok (.invokespecial 3, 3) := by decide +kernel
theorem dX6_init_4 : decode cX6_init 4 = .ok (.aload_n 0, 1) := by decide +kernel
theorem dX6_init_5 : decode cX6_init 5 = .ok (.new 9, 3) := by decide +kernel
theorem dX6_init_8 : decode cX6_init 8 = .ok (.dup, 1) := by decide +kernel
theorem dX6_init_9 : decode cX6_init 9 = .ok (.invokespecial 11, 3) := by decide +kernel
theorem dX6_init_12 : decode cX6_init 12 = .ok (.putfield 12, 3) := by decide +kernel
theorem dX6_init_15 : decode cX6_init 15 = .ok (.aload_n 0, 1) := by decide +kernel
theorem dX6_init_16 : decode cX6_init 16 = .ok (.iconst 0, 1) := by decide +kernel
theorem dX6_init_17 : decode cX6_init 17 = .ok (.putfield 18, 3) := by decide +kernel
theorem dX6_init_20 : decode cX6_init 20 = .ok (.aload_n 0, 1) := by decide +kernel
theorem dX6_init_21 : decode cX6_init 21 = .ok (.iconst 0, 1) := by decide +kernel
theorem dX6_init_22 : decode cX6_init 22 = .ok (.putfield 22, 3) := by decide +kernel
theorem dX6_init_25 : decode cX6_init 25 = .ok (.aload_n 0, 1) := by decide +kernel
theorem dX6_init_26 : decode cX6_init 26 = .ok (.iconst 0, 1) := by decide +kernel
theorem dX6_init_27 : decode cX6_init 27 = .ok (.putfield 25, 3) := by decide +kernel
theorem dX6_init_30 : decode cX6_init 30 = .ok (.aload_n 0, 1) := by decide +kernel
theorem dX6_init_31 : decode cX6_init 31 = .ok (.iconst 0, 1) := by decide +kernel
theorem dX6_init_32 : decode cX6_init 32 = .ok (.putfield 28, 3) := by decide +kernel
theorem dX6_init_35 : decode cX6_init 35 = .ok (.return_, 1) := by decide +kernel
theorem dX6_read_0 : decode cX6_read 0 = .ok (.aload_n 0, 1) := by decide +kernel
theorem dX6_read_1 : decode cX6_read 1 = .ok (.getfield 12, 3) := by decide +kernel
theorem dX6_read_4 : decode cX6_read 4 = .ok (.iconst 0, 1) := by decide +kernel
theorem dX6_read_5 : decode cX6_read 5 = .ok (.putfield 31, 3) := by decide +kernel
theorem dX6_read_8 : decode cX6_read 8 = .ok (.aload_n 0, 1) := by decide +kernel
theorem dX6_read_9 : decode cX6_read 9 = .ok (.iconst 0, 1) := by decide +kernel
theorem dX6_read_10 : decode cX6_read 10 = .ok (.putfield 18, 3) := by decide +kernel
theorem dX6_read_13 : decode cX6_read 13 = .ok (.aload_n 0, 1) := by decide +kernel
theorem dX6_read_14 : decode cX6_read 14 = .ok (.iconst 0, 1) := by decide +kernel
theorem dX6_read_15 : decode cX6_read 15 = .ok (.putfield 25, 3) := by decide +kernel
theorem dX6_read_18 : decode cX6_read 18 = .ok (.aload_n 0, 1) := by decide +kernel
theorem dX6_read_19 : decode cX6_read 19 = .ok (.iconst 0, 1) := by decide +kernel
theorem dX6_read_20 : decode cX6_read 20 = .ok (.putfield 28, 3) := by decide +kernel
theorem dX6_read_23 : decode cX6_read 23 = .ok (.iload_n 2, 1) := by decide +kernel
theorem dX6_read_24 : decode cX6_read 24 = .ok (.ifCond .eq 9, 3) := by decide +kernel
theorem dX6_read_27 : decode cX6_read 27 = .ok (.sipush 600, 3) := by decide +kernel
theorem dX6_read_30 : decode cX6_read 30 = .ok (.goto 5, 3) := by decide +kernel
theorem dX6_read_33 : decode cX6_read 33 = .ok (.bipush 80, 2) := by decide +kernel
theorem dX6_read_35 : decode cX6_read 35 = .ok (.istore_n 3, 1) := by decide +kernel
theorem dX6_read_36 : decode cX6_read 36 = .ok (.iconst 0, 1) := by decide +kernel
theorem dX6_read_37 : decode cX6_read 37 = .ok (.istore 4, 2) := by decide +kernel
theorem dX6_read_39 : decode cX6_read 39 = .ok (.iload 4, 2) := by decide +kernel
theorem dX6_read_41 : decode cX6_read 41 = .ok (.aload_n 1, 1) := by decide +kernel
theorem dX6_read_42 : decode cX6_read 42 = .ok (.getfield 34, 3) := by decide +kernel
theorem dX6_read_45 : decode cX6_read 45 = .ok (.if_icmp .ge 48, 3) := by decide +kernel
theorem dX6_read_48 : decode cX6_read 48 = .ok (.aload_n 0, 1) := by decide +kernel
theorem dX6_read_49 : decode cX6_read 49 = .ok (.getfield 18, 3) := by decide +kernel
theorem dX6_read_52 : decode cX6_read 52 = .ok (.ifCond .ne 41, 3) := by decide +kernel
theorem dX6_read_55 : decode cX6_read 55 = .ok (.aload_n 0, 1) := by decide +kernel
theorem dX6_read_56 : decode cX6_read 56 = .ok (.iload 4, 2) := by decide +kernel
theorem dX6_read_58 : decode cX6_read 58 = .ok (.putfield 22, 3) := by decide +kernel
theorem dX6_read_61 : decode cX6_read 61 = .ok (.aload_n 0, 1) := by decide +kernel
theorem dX6_read_62 : decode cX6_read 62 = .ok (.iload 4, 2) := by decide +kernel
theorem dX6_read_64 : decode cX6_read 64 = .ok (.iload_n 3, 1) := by decide +kernel
theorem dX6_read_65 : decode cX6_read 65 = .ok (.if_icmp .ge 18, 3) := by decide +kernel
theorem dX6_read_68 : decode cX6_read 68 = .ok (.aload_n 0, 1) := by decide +kernel
theorem dX6_read_69 : decode cX6_read 69 = .ok (.aload_n 1, 1) := by decide +kernel
theorem dX6_read_70 : decode cX6_read 70 = .ok (.getfield 39, 3) := by decide +kernel
theorem dX6_read_73 : decode cX6_read 73 = .ok (.iload 4, 2) := by decide +kernel
theorem dX6_read_75 : decode cX6_read 75 = .ok (.baload, 1) := by decide +kernel
theorem dX6_read_76 : decode cX6_read 76 = .ok (.iload_n 2, 1) := by decide +kernel
theorem dX6_read_77 : decode cX6_read 77 = .ok (.invokevirtual 43, 3) := by decide +kernel
theorem dX6_read_80 : decode cX6_read 80 = .ok (.goto 4, 3) := by decide +kernel
theorem dX6_read_83 : decode cX6_read 83 = .ok (.iconst 1, 1) := by decide +kernel
theorem dX6_read_84 : decode cX6_read 84 = .ok (.putfield 18, 3) := by decide +kernel
theorem dX6_read_87 : decode cX6_read 87 = .ok (.iinc 4 1, 3) := by decide +kernel
theorem dX6_read_90 : decode cX6_read 90 = .ok (.goto (-51), 3) := by decide +kernel
theorem dX6_read_93 : decode cX6_read 93 = .ok (.aload_n 0, 1) := by decide +kernel
theorem dX6_read_94 : decode cX6_read 94 = .ok (.getfield 18, 3) := by decide +kernel
theorem dX6_read_97 : decode cX6_read 97 = .ok (.ifCond .ne 20, 3) := by decide +kernel
theorem dX6_read_100 : decode cX6_read 100 = .ok (.aload_n 0, 1) := by decide +kernel
theorem dX6_read_101 : decode cX6_read 101 = .ok (.aload_n 1, 1) := by decide +kernel
theorem dX6_read_102 : decode cX6_read 102 = .ok (.getfield 34, 3) := by decide +kernel
theorem dX6_read_105 : decode cX6_read 105 = .ok (.putfield 22, 3) := by decide +kernel
theorem dX6_read_108 : decode cX6_read 108 = .ok (.aload_n 0, 1) := by decide +kernel
theorem dX6_read_109 : decode cX6_read 109 = .ok (.aload_n 0, 1) := by decide +kernel
theorem dX6_read_110 : decode cX6_read 110 = .ok (.iload_n 2, 1) := by decide +kernel
theorem dX6_read_111 : decode cX6_read 111 = .ok (.invokevirtual 47, 3) := by decide +kernel
theorem dX6_read_114 : decode cX6_read 114 = .ok (.putfield 18, 3) := by decide +kernel
theorem dX6_read_117 : decode cX6_read 117 = .ok (.aload_n 0, 1) := by decide +kernel
theorem dX6_read_118 : decode cX6_read 118 = .ok (.getfield 18, 3) := by decide +kernel
theorem dX6_read_121 : decode cX6_read 121 = .ok (.ifCond .ne 7, 3) := by decide +kernel
theorem dX6_read_124 : decode cX6_read 124 = .ok (.iconst 1, 1) := by decide +kernel
theorem dX6_read_125 : decode cX6_read 125 = .ok (.goto 4, 3) := by decide +kernel
theorem dX6_read_128 : decode cX6_read 128 = .ok (.iconst 0, 1) := by decide +kernel
theorem dX6_read_129 : decode cX6_read 129 = .ok (.ireturn, 1) := by decide +kernel
theorem dX6_readByte_0 : decode cX6_readByte 0 = .ok (.iload_n 1, 1) := by decide +kernel
theorem dX6_readByte_1 : decode cX6_readByte 1 = .ok (.bipush 97, 2) := by decide +kernel
theorem dX6_readByte_3 : decode cX6_readByte 3 = .ok (.if_icmp .lt 20, 3) := by decide +kernel
theorem dX6_readByte_6 : decode cX6_readByte 6 = .ok (.iload_n 1, 1) := by decide +kernel
theorem dX6_readByte_7 : decode cX6_readByte 7 = .ok (.bipush 122, 2) := by decide +kernel
theorem dX6_readByte_9 : decode cX6_readByte 9 = .ok (.if_icmp .gt 14, 3) := by decide +kernel
theorem dX6_readByte_12 : decode cX6_readByte 12 = .ok (.aload_n 0, 1) := by decide +kernel
theorem dX6_readByte_13 : decode cX6_readByte 13 = .ok (.iload_n 1, 1) := by decide +kernel
theorem dX6_readByte_14 : decode cX6_readByte 14 = .ok (.bipush 97, 2) := by decide +kernel
theorem dX6_readByte_16 : decode cX6_readByte 16 = .ok (.isub, 1) := by decide +kernel
theorem dX6_readByte_17 : decode cX6_readByte 17 = .ok (.iconst 1, 1) := by decide +kernel
theorem dX6_readByte_18 : decode cX6_readByte 18 = .ok (.iadd, 1) := by decide +kernel
theorem dX6_readByte_19 : decode cX6_readByte 19 = .ok (.invokevirtual 51, 3) := by decide +kernel
theorem dX6_readByte_22 : decode cX6_readByte 22 = .ok (.ireturn, 1) := by decide +kernel
theorem dX6_readByte_23 : decode cX6_readByte 23 = .ok (.aload_n 0, 1) := by decide +kernel
theorem dX6_readByte_24 : decode cX6_readByte 24 = .ok (.iconst 0, 1) := by decide +kernel
theorem dX6_readByte_25 : decode cX6_readByte 25 = .ok (.putfield 28, 3) := by decide +kernel
theorem dX6_readByte_28 : decode cX6_readByte 28 = .ok (.iload_n 1, 1) := by decide +kernel
theorem dX6_readByte_29 : decode cX6_readByte 29 = .ok (.bipush 32, 2) := by decide +kernel
theorem dX6_readByte_31 : decode cX6_readByte 31 = .ok (.if_icmp .eq 9, 3) := by decide +kernel
theorem dX6_readByte_34 : decode cX6_readByte 34 = .ok (.iload_n 1, 1) := by decide +kernel
theorem dX6_readByte_35 : decode cX6_readByte 35 = .ok (.bipush 10, 2) := by decide +kernel
theorem dX6_readByte_37 : decode cX6_readByte 37 = .ok (.if_icmp .ne 5, 3) := by decide +kernel
theorem dX6_readByte_40 : decode cX6_readByte 40 = .ok (.iconst 0, 1) := by decide +kernel
theorem dX6_readByte_41 : decode cX6_readByte 41 = .ok (.ireturn, 1) := by decide +kernel
theorem dX6_readByte_42 : decode cX6_readByte 42 = .ok (.iload_n 1, 1) := by decide +kernel
theorem dX6_readByte_43 : decode cX6_readByte 43 = .ok (.bipush 59, 2) := by decide +kernel
theorem dX6_readByte_45 : decode cX6_readByte 45 = .ok (.if_icmp .ne 14, 3) := by decide +kernel
theorem dX6_readByte_48 : decode cX6_readByte 48 = .ok (.iload_n 2, 1) := by decide +kernel
theorem dX6_readByte_49 : decode cX6_readByte 49 = .ok (.ifCond .eq 10, 3) := by decide +kernel
theorem dX6_readByte_52 : decode cX6_readByte 52 = .ok (.aload_n 0, 1) := by decide +kernel
theorem dX6_readByte_53 : decode cX6_readByte 53 = .ok (.invokevirtual 55, 3) := by decide +kernel
theorem dX6_readByte_56 : decode cX6_readByte 56 = .ok (.goto 4, 3) := by decide +kernel
theorem dX6_readByte_59 : decode cX6_readByte 59 = .ok (.iconst 1, 1) := by decide +kernel
theorem dX6_readByte_60 : decode cX6_readByte 60 = .ok (.ireturn, 1) := by decide +kernel
theorem dX6_readLetter_0 : decode cX6_readLetter 0 = .ok (.aload_n 0, 1) := by decide +kernel
theorem dX6_readLetter_1 : decode cX6_readLetter 1 = .ok (.getfield 12, 3) := by decide +kernel
theorem dX6_readLetter_4 : decode cX6_readLetter 4 = .ok (.getfield 31, 3) := by decide +kernel
theorem dX6_readLetter_7 : decode cX6_readLetter 7 = .ok (.bipush 14, 2) := by decide +kernel
theorem dX6_readLetter_9 : decode cX6_readLetter 9 = .ok (.if_icmp .ge 12, 3) := by decide +kernel
theorem dX6_readLetter_12 : decode cX6_readLetter 12 = .ok (.aload_n 0, 1) := by decide +kernel
theorem dX6_readLetter_13 : decode cX6_readLetter 13 = .ok (.getfield 28, 3) := by decide +kernel
theorem dX6_readLetter_16 : decode cX6_readLetter 16 = .ok (.bipush 6, 2) := by decide +kernel
theorem dX6_readLetter_18 : decode cX6_readLetter 18 = .ok (.if_icmp .lt 5, 3) := by decide +kernel
theorem dX6_readLetter_21 : decode cX6_readLetter 21 = .ok (.iconst 2, 1) := by decide +kernel
theorem dX6_readLetter_22 : decode cX6_readLetter 22 = .ok (.ireturn, 1) := by decide +kernel
theorem dX6_readLetter_23 : decode cX6_readLetter 23 = .ok (.aload_n 0, 1) := by decide +kernel
theorem dX6_readLetter_24 : decode cX6_readLetter 24 = .ok (.getfield 28, 3) := by decide +kernel
theorem dX6_readLetter_27 : decode cX6_readLetter 27 = .ok (.ifCond .ne 48, 3) := by decide +kernel
theorem dX6_readLetter_30 : decode cX6_readLetter 30 = .ok (.aload_n 0, 1) := by decide +kernel
theorem dX6_readLetter_31 : decode cX6_readLetter 31 = .ok (.getfield 25, 3) := by decide +kernel
theorem dX6_readLetter_34 : decode cX6_readLetter 34 = .ok (.bipush 8, 2) := by decide +kernel
theorem dX6_readLetter_36 : decode cX6_readLetter 36 = .ok (.if_icmp .lt 5, 3) := by decide +kernel
theorem dX6_readLetter_39 : decode cX6_readLetter 39 = .ok (.iconst 2, 1) := by decide +kernel
theorem dX6_readLetter_40 : decode cX6_readLetter 40 = .ok (.ireturn, 1) := by decide +kernel
theorem dX6_readLetter_41 : decode cX6_readLetter 41 = .ok (.aload_n 0, 1) := by decide +kernel
theorem dX6_readLetter_42 : decode cX6_readLetter 42 = .ok (.getfield 12, 3) := by decide +kernel
theorem dX6_readLetter_45 : decode cX6_readLetter 45 = .ok (.getfield 59, 3) := by decide +kernel
theorem dX6_readLetter_48 : decode cX6_readLetter 48 = .ok (.aload_n 0, 1) := by decide +kernel
theorem dX6_readLetter_49 : decode cX6_readLetter 49 = .ok (.getfield 12, 3) := by decide +kernel
theorem dX6_readLetter_52 : decode cX6_readLetter 52 = .ok (.getfield 31, 3) := by decide +kernel
theorem dX6_readLetter_55 : decode cX6_readLetter 55 = .ok (.bipush 8, 2) := by decide +kernel
theorem dX6_readLetter_57 : decode cX6_readLetter 57 = .ok (.imul, 1) := by decide +kernel
theorem dX6_readLetter_58 : decode cX6_readLetter 58 = .ok (.aload_n 0, 1) := by decide +kernel
theorem dX6_readLetter_59 : decode cX6_readLetter 59 = .ok (.getfield 25, 3) := by decide +kernel
theorem dX6_readLetter_62 : decode cX6_readLetter 62 = .ok (.iadd, 1) := by decide +kernel
theorem dX6_readLetter_63 : decode cX6_readLetter 63 = .ok (.iconst 0, 1) := by decide +kernel
theorem dX6_readLetter_64 : decode cX6_readLetter 64 = .ok (.iastore, 1) := by decide +kernel
theorem dX6_readLetter_65 : decode cX6_readLetter 65 = .ok (.aload_n 0, 1) := by decide +kernel
theorem dX6_readLetter_66 : decode cX6_readLetter 66 = .ok (.dup, 1) := by decide +kernel
theorem dX6_readLetter_67 : decode cX6_readLetter 67 = .ok (.getfield 25, 3) := by decide +kernel
theorem dX6_readLetter_70 : decode cX6_readLetter 70 = .ok (.iconst 1, 1) := by decide +kernel
theorem dX6_readLetter_71 : decode cX6_readLetter 71 = .ok (.iadd, 1) := by decide +kernel
theorem dX6_readLetter_72 : decode cX6_readLetter 72 = .ok (.putfield 25, 3) := by decide +kernel
theorem dX6_readLetter_75 : decode cX6_readLetter 75 = .ok (.aload_n 0, 1) := by decide +kernel
theorem dX6_readLetter_76 : decode cX6_readLetter 76 = .ok (.getfield 12, 3) := by decide +kernel
theorem dX6_readLetter_79 : decode cX6_readLetter 79 = .ok (.getfield 59, 3) := by decide +kernel
theorem dX6_readLetter_82 : decode cX6_readLetter 82 = .ok (.aload_n 0, 1) := by decide +kernel
theorem dX6_readLetter_83 : decode cX6_readLetter 83 = .ok (.getfield 12, 3) := by decide +kernel
theorem dX6_readLetter_86 : decode cX6_readLetter 86 = .ok (.getfield 31, 3) := by decide +kernel
theorem dX6_readLetter_89 : decode cX6_readLetter 89 = .ok (.bipush 8, 2) := by decide +kernel
theorem dX6_readLetter_91 : decode cX6_readLetter 91 = .ok (.imul, 1) := by decide +kernel
theorem dX6_readLetter_92 : decode cX6_readLetter 92 = .ok (.aload_n 0, 1) := by decide +kernel
theorem dX6_readLetter_93 : decode cX6_readLetter 93 = .ok (.getfield 25, 3) := by decide +kernel
theorem dX6_readLetter_96 : decode cX6_readLetter 96 = .ok (.iadd, 1) := by decide +kernel
theorem dX6_readLetter_97 : decode cX6_readLetter 97 = .ok (.iconst 1, 1) := by decide +kernel
theorem dX6_readLetter_98 : decode cX6_readLetter 98 = .ok (.isub, 1) := by decide +kernel
theorem dX6_readLetter_99 : decode cX6_readLetter 99 = .ok (.dup2, 1) := by decide +kernel
theorem dX6_readLetter_100 : decode cX6_readLetter 100 = .ok (.iaload, 1) := by decide +kernel
theorem dX6_readLetter_101 : decode cX6_readLetter 101 = .ok (.iload_n 1, 1) := by decide +kernel
theorem dX6_readLetter_102 : decode cX6_readLetter 102 = .ok (.iconst 5, 1) := by decide +kernel
theorem dX6_readLetter_103 : decode cX6_readLetter 103 = .ok (.aload_n 0, 1) := by decide +kernel
theorem dX6_readLetter_104 : decode cX6_readLetter 104 = .ok (.getfield 28, 3) := by decide +kernel
theorem dX6_readLetter_107 : decode cX6_readLetter 107 = .ok (.imul, 1) := by decide +kernel
theorem dX6_readLetter_108 : decode cX6_readLetter 108 = .ok (.ishl, 1) := by decide +kernel
theorem dX6_readLetter_109 : decode cX6_readLetter 109 = .ok (.ior, 1) := by decide +kernel
theorem dX6_readLetter_110 : decode cX6_readLetter 110 = .ok (.iastore, 1) := by decide +kernel
theorem dX6_readLetter_111 : decode cX6_readLetter 111 = .ok (.aload_n 0, 1) := by decide +kernel
theorem dX6_readLetter_112 : decode cX6_readLetter 112 = .ok (.dup, 1) := by decide +kernel
theorem dX6_readLetter_113 : decode cX6_readLetter 113 = .ok (.getfield 28, 3) := by decide +kernel
theorem dX6_readLetter_116 : decode cX6_readLetter 116 = .ok (.iconst 1, 1) := by decide +kernel
theorem dX6_readLetter_117 : decode cX6_readLetter 117 = .ok (.iadd, 1) := by decide +kernel
theorem dX6_readLetter_118 : decode cX6_readLetter 118 = .ok (.putfield 28, 3) := by decide +kernel
theorem dX6_readLetter_121 : decode cX6_readLetter 121 = .ok (.iconst 0, 1) := by decide +kernel
theorem dX6_readLetter_122 : decode cX6_readLetter 122 = .ok (.ireturn, 1) := by decide +kernel
theorem dX6_closeLine_0 : decode cX6_closeLine 0 = .ok (.aload_n 0, 1) := by decide +kernel
theorem dX6_closeLine_1 : decode cX6_closeLine 1 = .ok (.getfield 25, 3) := by decide +kernel
theorem dX6_closeLine_4 : decode cX6_closeLine 4 = .ok (.ifCond .eq 15, 3) := by decide +kernel
theorem dX6_closeLine_7 : decode cX6_closeLine 7 = .ok (.aload_n 0, 1) := by decide +kernel
theorem dX6_closeLine_8 : decode cX6_closeLine 8 = .ok (.getfield 12, 3) := by decide +kernel
theorem dX6_closeLine_11 : decode cX6_closeLine 11 = .ok (.getfield 31, 3) := by decide +kernel
theorem dX6_closeLine_14 : decode cX6_closeLine 14 = .ok (.bipush 14, 2) := by decide +kernel
theorem dX6_closeLine_16 : decode cX6_closeLine 16 = .ok (.if_icmp .lt 5, 3) := by decide +kernel
theorem dX6_closeLine_19 : decode cX6_closeLine 19 = .ok (.iconst 1, 1) := by decide +kernel
theorem dX6_closeLine_20 : decode cX6_closeLine 20 = .ok (.ireturn, 1) := by decide +kernel
theorem dX6_closeLine_21 : decode cX6_closeLine 21 = .ok (.aload_n 0, 1) := by decide +kernel
theorem dX6_closeLine_22 : decode cX6_closeLine 22 = .ok (.getfield 12, 3) := by decide +kernel
theorem dX6_closeLine_25 : decode cX6_closeLine 25 = .ok (.getfield 62, 3) := by decide +kernel
theorem dX6_closeLine_28 : decode cX6_closeLine 28 = .ok (.aload_n 0, 1) := by decide +kernel
theorem dX6_closeLine_29 : decode cX6_closeLine 29 = .ok (.getfield 12, 3) := by decide +kernel
theorem dX6_closeLine_32 : decode cX6_closeLine 32 = .ok (.getfield 31, 3) := by decide +kernel
theorem dX6_closeLine_35 : decode cX6_closeLine 35 = .ok (.aload_n 0, 1) := by decide +kernel
theorem dX6_closeLine_36 : decode cX6_closeLine 36 = .ok (.getfield 25, 3) := by decide +kernel
theorem dX6_closeLine_39 : decode cX6_closeLine 39 = .ok (.iastore, 1) := by decide +kernel
theorem dX6_closeLine_40 : decode cX6_closeLine 40 = .ok (.aload_n 0, 1) := by decide +kernel
theorem dX6_closeLine_41 : decode cX6_closeLine 41 = .ok (.getfield 12, 3) := by decide +kernel
theorem dX6_closeLine_44 : decode cX6_closeLine 44 = .ok (.dup, 1) := by decide +kernel
theorem dX6_closeLine_45 : decode cX6_closeLine 45 = .ok (.getfield 31, 3) := by decide +kernel
theorem dX6_closeLine_48 : decode cX6_closeLine 48 = .ok (.iconst 1, 1) := by decide +kernel
theorem dX6_closeLine_49 : decode cX6_closeLine 49 = .ok (.iadd, 1) := by decide +kernel
theorem dX6_closeLine_50 : decode cX6_closeLine 50 = .ok (.putfield 31, 3) := by decide +kernel
theorem dX6_closeLine_53 : decode cX6_closeLine 53 = .ok (.aload_n 0, 1) := by decide +kernel
theorem dX6_closeLine_54 : decode cX6_closeLine 54 = .ok (.iconst 0, 1) := by decide +kernel
theorem dX6_closeLine_55 : decode cX6_closeLine 55 = .ok (.putfield 25, 3) := by decide +kernel
theorem dX6_closeLine_58 : decode cX6_closeLine 58 = .ok (.iconst 0, 1) := by decide +kernel
theorem dX6_closeLine_59 : decode cX6_closeLine 59 = .ok (.ireturn, 1) := by decide +kernel
theorem dX6_readEnd_0 : decode cX6_readEnd 0 = .ok (.iload_n 1, 1) := by decide +kernel
theorem dX6_readEnd_1 : decode cX6_readEnd 1 = .ok (.ifCond .eq 16, 3) := by decide +kernel
theorem dX6_readEnd_4 : decode cX6_readEnd 4 = .ok (.aload_n 0, 1) := by decide +kernel
theorem dX6_readEnd_5 : decode cX6_readEnd 5 = .ok (.getfield 25, 3) := by decide +kernel
theorem dX6_readEnd_8 : decode cX6_readEnd 8 = .ok (.ifCond .ne 7, 3) := by decide +kernel
theorem dX6_readEnd_11 : decode cX6_readEnd 11 = .ok (.iconst 0, 1) := by decide +kernel
theorem dX6_readEnd_12 : decode cX6_readEnd 12 = .ok (.goto 4, 3) := by decide +kernel
theorem dX6_readEnd_15 : decode cX6_readEnd 15 = .ok (.iconst 1, 1) := by decide +kernel
theorem dX6_readEnd_16 : decode cX6_readEnd 16 = .ok (.ireturn, 1) := by decide +kernel
theorem dX6_readEnd_17 : decode cX6_readEnd 17 = .ok (.aload_n 0, 1) := by decide +kernel
theorem dX6_readEnd_18 : decode cX6_readEnd 18 = .ok (.invokevirtual 55, 3) := by decide +kernel
theorem dX6_readEnd_21 : decode cX6_readEnd 21 = .ok (.ireturn, 1) := by decide +kernel
theorem dX7_init_0 : decode cX7_init 0 = .ok (.aload_n 0, 1) := by decide +kernel
theorem dX7_init_1 : decode cX7_init 1 = .ok (.invokespecial 3, 3) := by decide +kernel
theorem dX7_init_4 : decode cX7_init 4 = .ok (.aload_n 0, 1) := by decide +kernel
theorem dX7_init_5 : decode cX7_init 5 = .ok (.sipush 640, 3) := by decide +kernel
theorem dX7_init_8 : decode cX7_init 8 = .ok (.newarray .byte, 2) := by decide +kernel
theorem dX7_init_10 : decode cX7_init 10 = .ok (.putfield 9, 3) := by decide +kernel
theorem dX7_init_13 : decode cX7_init 13 = .ok (.aload_n 0, 1) := by decide +kernel
theorem dX7_init_14 : decode cX7_init 14 = .ok (.iconst 0, 1) := by decide +kernel
theorem dX7_init_15 : decode cX7_init 15 = .ok (.putfield 15, 3) := by decide +kernel
theorem dX7_init_18 : decode cX7_init 18 = .ok (.return_, 1) := by decide +kernel
theorem dX7_append_0 : decode cX7_append 0 = .ok (.aload_n 0, 1) := by decide +kernel
theorem dX7_append_1 : decode cX7_append 1 = .ok (.getfield 15, 3) := by decide +kernel
theorem dX7_append_4 : decode cX7_append 4 = .ok (.ifCond .lt 13, 3) := by decide +kernel
theorem dX7_append_7 : decode cX7_append 7 = .ok (.aload_n 0, 1) := by decide +kernel
theorem dX7_append_8 : decode cX7_append 8 = .ok (.getfield 15, 3) := by decide +kernel
theorem dX7_append_11 : decode cX7_append 11 = .ok (.sipush 636, 3) := by decide +kernel
theorem dX7_append_14 : decode cX7_append 14 = .ok (.if_icmp .le 4, 3) := by decide +kernel
theorem dX7_append_17 : decode cX7_append 17 = .ok (.return_, 1) := by decide +kernel
theorem dX7_append_18 : decode cX7_append 18 = .ok (.aload_n 0, 1) := by decide +kernel
theorem dX7_append_19 : decode cX7_append 19 = .ok (.getfield 9, 3) := by decide +kernel
theorem dX7_append_22 : decode cX7_append 22 = .ok (.aload_n 0, 1) := by decide +kernel
theorem dX7_append_23 : decode cX7_append 23 = .ok (.getfield 15, 3) := by decide +kernel
theorem dX7_append_26 : decode cX7_append 26 = .ok (.iload_n 1, 1) := by decide +kernel
theorem dX7_append_27 : decode cX7_append 27 = .ok (.bipush 24, 2) := by decide +kernel
theorem dX7_append_29 : decode cX7_append 29 = .ok (.iushr, 1) := by decide +kernel
theorem dX7_append_30 : decode cX7_append 30 = .ok (.i2b, 1) := by decide +kernel
theorem dX7_append_31 : decode cX7_append 31 = .ok (.bastore, 1) := by decide +kernel
theorem dX7_append_32 : decode cX7_append 32 = .ok (.aload_n 0, 1) := by decide +kernel
theorem dX7_append_33 : decode cX7_append 33 = .ok (.getfield 9, 3) := by decide +kernel
theorem dX7_append_36 : decode cX7_append 36 = .ok (.aload_n 0, 1) := by decide +kernel
theorem dX7_append_37 : decode cX7_append 37 = .ok (.getfield 15, 3) := by decide +kernel
theorem dX7_append_40 : decode cX7_append 40 = .ok (.iconst 1, 1) := by decide +kernel
theorem dX7_append_41 : decode cX7_append 41 = .ok (.iadd, 1) := by decide +kernel
theorem dX7_append_42 : decode cX7_append 42 = .ok (.iload_n 1, 1) := by decide +kernel
theorem dX7_append_43 : decode cX7_append 43 = .ok (.bipush 16, 2) := by decide +kernel
theorem dX7_append_45 : decode cX7_append 45 = .ok (.iushr, 1) := by decide +kernel
theorem dX7_append_46 : decode cX7_append 46 = .ok (.i2b, 1) := by decide +kernel
theorem dX7_append_47 : decode cX7_append 47 = .ok (.bastore, 1) := by decide +kernel
theorem dX7_append_48 : decode cX7_append 48 = .ok (.aload_n 0, 1) := by decide +kernel
theorem dX7_append_49 : decode cX7_append 49 = .ok (.getfield 9, 3) := by decide +kernel
theorem dX7_append_52 : decode cX7_append 52 = .ok (.aload_n 0, 1) := by decide +kernel
theorem dX7_append_53 : decode cX7_append 53 = .ok (.getfield 15, 3) := by decide +kernel
theorem dX7_append_56 : decode cX7_append 56 = .ok (.iconst 2, 1) := by decide +kernel
theorem dX7_append_57 : decode cX7_append 57 = .ok (.iadd, 1) := by decide +kernel
theorem dX7_append_58 : decode cX7_append 58 = .ok (.iload_n 1, 1) := by decide +kernel
theorem dX7_append_59 : decode cX7_append 59 = .ok (.bipush 8, 2) := by decide +kernel
theorem dX7_append_61 : decode cX7_append 61 = .ok (.iushr, 1) := by decide +kernel
theorem dX7_append_62 : decode cX7_append 62 = .ok (.i2b, 1) := by decide +kernel
theorem dX7_append_63 : decode cX7_append 63 = .ok (.bastore, 1) := by decide +kernel
theorem dX7_append_64 : decode cX7_append 64 = .ok (.aload_n 0, 1) := by decide +kernel
theorem dX7_append_65 : decode cX7_append 65 = .ok (.getfield 9, 3) := by decide +kernel
theorem dX7_append_68 : decode cX7_append 68 = .ok (.aload_n 0, 1) := by decide +kernel
theorem dX7_append_69 : decode cX7_append 69 = .ok (.getfield 15, 3) := by decide +kernel
theorem dX7_append_72 : decode cX7_append 72 = .ok (.iconst 3, 1) := by decide +kernel
theorem dX7_append_73 : decode cX7_append 73 = .ok (.iadd, 1) := by decide +kernel
theorem dX7_append_74 : decode cX7_append 74 = .ok (.iload_n 1, 1) := by decide +kernel
theorem dX7_append_75 : decode cX7_append 75 = .ok (.i2b, 1) := by decide +kernel
theorem dX7_append_76 : decode cX7_append 76 = .ok (.bastore, 1) := by decide +kernel
theorem dX7_append_77 : decode cX7_append 77 = .ok (.aload_n 0, 1) := by decide +kernel
theorem dX7_append_78 : decode cX7_append 78 = .ok (.dup, 1) := by decide +kernel
theorem dX7_append_79 : decode cX7_append 79 = .ok (.getfield 15, 3) := by decide +kernel
theorem dX7_append_82 : decode cX7_append 82 = .ok (.iconst 4, 1) := by decide +kernel
theorem dX7_append_83 : decode cX7_append 83 = .ok (.iadd, 1) := by decide +kernel
theorem dX7_append_84 : decode cX7_append 84 = .ok (.putfield 15, 3) := by decide +kernel
theorem dX7_append_87 : decode cX7_append 87 = .ok (.return_, 1) := by decide +kernel
theorem dX8_init_0 : decode cX8_init 0 = .ok (.aload_n 0, 1) := by decide +kernel
theorem dX8_init_1 : decode cX8_init 1 = .ok (.invokespecial 3, 3) := by decide +kernel
theorem dX8_init_4 : decode cX8_init 4 = .ok (.aload_n 0, 1) := by decide +kernel
theorem dX8_init_5 : decode cX8_init 5 = .ok (.iconst 2, 1) := by decide +kernel
theorem dX8_init_6 : decode cX8_init 6 = .ok (.bipush 14, 2) := by decide +kernel
theorem dX8_init_8 : decode cX8_init 8 = .ok (.multianewarray 9 2, 4) := by decide +kernel
theorem dX8_init_12 : decode cX8_init 12 = .ok (.putfield 11, 3) := by decide +kernel
theorem dX8_init_15 : decode cX8_init 15 = .ok (.aload_n 0, 1) := by decide +kernel
theorem dX8_init_16 : decode cX8_init 16 = .ok (.iconst 2, 1) := by decide +kernel
theorem dX8_init_17 : decode cX8_init 17 = .ok (.bipush 14, 2) := by decide +kernel
theorem dX8_init_19 : decode cX8_init 19 = .ok (.multianewarray 9 2, 4) := by decide +kernel
theorem dX8_init_23 : decode cX8_init 23 = .ok (.putfield 16, 3) := by decide +kernel
theorem dX8_init_26 : decode cX8_init 26 = .ok (.aload_n 0, 1) := by decide +kernel
theorem dX8_init_27 : decode cX8_init 27 = .ok (.iconst 2, 1) := by decide +kernel
theorem dX8_init_28 : decode cX8_init 28 = .ok (.bipush 14, 2) := by decide +kernel
theorem dX8_init_30 : decode cX8_init 30 = .ok (.multianewarray 9 2, 4) := by decide +kernel
theorem dX8_init_34 : decode cX8_init 34 = .ok (.putfield 19, 3) := by decide +kernel
theorem dX8_init_37 : decode cX8_init 37 = .ok (.aload_n 0, 1) := by decide +kernel
theorem dX8_init_38 : decode cX8_init 38 = .ok (.iconst 3, 1) := by decide +kernel
theorem dX8_init_39 : decode cX8_init 39 = .ok (.newarray .int, 2) := by decide +kernel
theorem dX8_init_41 : decode cX8_init 41 = .ok (.putfield 22, 3) := by decide +kernel
theorem dX8_init_44 : decode cX8_init 44 = .ok (.aload_n 0, 1) := by decide +kernel
theorem dX8_init_45 : decode cX8_init 45 = .ok (.bipush 14, 2) := by decide +kernel
theorem dX8_init_47 : decode cX8_init 47 = .ok (.newarray .int, 2) := by decide +kernel
theorem dX8_init_49 : decode cX8_init 49 = .ok (.putfield 26, 3) := by decide +kernel
theorem dX8_init_52 : decode cX8_init 52 = .ok (.aload_n 0, 1) := by decide +kernel
theorem dX8_init_53 : decode cX8_init 53 = .ok (.bipush 14, 2) := by decide +kernel
theorem dX8_init_55 : decode cX8_init 55 = .ok (.newarray .int, 2) := by decide +kernel
theorem dX8_init_57 : decode cX8_init 57 = .ok (.putfield 29, 3) := by decide +kernel
theorem dX8_init_60 : decode cX8_init 60 = .ok (.aload_n 0, 1) := by decide +kernel
theorem dX8_init_61 : decode cX8_init 61 = .ok (.bipush 14, 2) := by decide +kernel
theorem dX8_init_63 : decode cX8_init 63 = .ok (.newarray .int, 2) := by decide +kernel
theorem dX8_init_65 : decode cX8_init 65 = .ok (.putfield 32, 3) := by decide +kernel
theorem dX8_init_68 : decode cX8_init 68 = .ok (.aload_n 0, 1) := by decide +kernel
theorem dX8_init_69 : decode cX8_init 69 = .ok (.iconst 0, 1) := by decide +kernel
theorem dX8_init_70 : decode cX8_init 70 = .ok (.putfield 35, 3) := by decide +kernel
theorem dX8_init_73 : decode cX8_init 73 = .ok (.aload_n 0, 1) := by decide +kernel
theorem dX8_init_74 : decode cX8_init 74 = .ok (.iconst 0, 1) := by decide +kernel
theorem dX8_init_75 : decode cX8_init 75 = .ok (.putfield 39, 3) := by decide +kernel
theorem dX8_init_78 : decode cX8_init 78 = .ok (.aload_n 0, 1) := by decide +kernel
theorem dX8_init_79 : decode cX8_init 79 = .ok (.iconst 0, 1) := by decide +kernel
theorem dX8_init_80 : decode cX8_init 80 = .ok (.putfield 42, 3) := by decide +kernel
theorem dX8_init_83 : decode cX8_init 83 = .ok (.aload_n 0, 1) := by decide +kernel
theorem dX8_init_84 : decode cX8_init 84 = .ok (.iconst 0, 1) := by decide +kernel
theorem dX8_init_85 : decode cX8_init 85 = .ok (.putfield 45, 3) := by decide +kernel
theorem dX8_init_88 : decode cX8_init 88 = .ok (.return_, 1) := by decide +kernel
theorem dX8_clear_0 : decode cX8_clear 0 = .ok (.iconst 0, 1) := by decide +kernel
theorem dX8_clear_1 : decode cX8_clear 1 = .ok (.istore_n 1, 1) := by decide +kernel
theorem dX8_clear_2 : decode cX8_clear 2 = .ok (.iload_n 1, 1) := by decide +kernel
theorem dX8_clear_3 : decode cX8_clear 3 = .ok (.iconst 1, 1) := by decide +kernel
theorem dX8_clear_4 : decode cX8_clear 4 = .ok (.if_icmp .gt 50, 3) := by decide +kernel
theorem dX8_clear_7 : decode cX8_clear 7 = .ok (.iconst 0, 1) := by decide +kernel
theorem dX8_clear_8 : decode cX8_clear 8 = .ok (.istore_n 2, 1) := by decide +kernel
theorem dX8_clear_9 : decode cX8_clear 9 = .ok (.iload_n 2, 1) := by decide +kernel
theorem dX8_clear_10 : decode cX8_clear 10 = .ok (.bipush 14, 2) := by decide +kernel
theorem dX8_clear_12 : decode cX8_clear 12 = .ok (.if_icmp .ge 36, 3) := by decide +kernel
theorem dX8_clear_15 : decode cX8_clear 15 = .ok (.aload_n 0, 1) := by decide +kernel
theorem dX8_clear_16 : decode cX8_clear 16 = .ok (.getfield 11, 3) := by decide +kernel
theorem dX8_clear_19 : decode cX8_clear 19 = .ok (.iload_n 1, 1) := by decide +kernel
theorem dX8_clear_20 : decode cX8_clear 20 = .ok (.aaload, 1) := by decide +kernel
theorem dX8_clear_21 : decode cX8_clear 21 = .ok (.iload_n 2, 1) := by decide +kernel
theorem dX8_clear_22 : decode cX8_clear 22 = .ok (.iconst 3, 1) := by decide +kernel
theorem dX8_clear_23 : decode cX8_clear 23 = .ok (.iastore, 1) := by decide +kernel
theorem dX8_clear_24 : decode cX8_clear 24 = .ok (.aload_n 0, 1) := by decide +kernel
theorem dX8_clear_25 : decode cX8_clear 25 = .ok (.getfield 16, 3) := by decide +kernel
theorem dX8_clear_28 : decode cX8_clear 28 = .ok (.iload_n 1, 1) := by decide +kernel
theorem dX8_clear_29 : decode cX8_clear 29 = .ok (.aaload, 1) := by decide +kernel
theorem dX8_clear_30 : decode cX8_clear 30 = .ok (.iload_n 2, 1) := by decide +kernel
theorem dX8_clear_31 : decode cX8_clear 31 = .ok (.iconst (-1), 1) := by decide +kernel
theorem dX8_clear_32 : decode cX8_clear 32 = .ok (.iastore, 1) := by decide +kernel
theorem dX8_clear_33 : decode cX8_clear 33 = .ok (.aload_n 0, 1) := by decide +kernel
theorem dX8_clear_34 : decode cX8_clear 34 = .ok (.getfield 19, 3) := by decide +kernel
theorem dX8_clear_37 : decode cX8_clear 37 = .ok (.iload_n 1, 1) := by decide +kernel
theorem dX8_clear_38 : decode cX8_clear 38 = .ok (.aaload, 1) := by decide +kernel
theorem dX8_clear_39 : decode cX8_clear 39 = .ok (.iload_n 2, 1) := by decide +kernel
theorem dX8_clear_40 : decode cX8_clear 40 = .ok (.iconst (-1), 1) := by decide +kernel
theorem dX8_clear_41 : decode cX8_clear 41 = .ok (.iastore, 1) := by decide +kernel
theorem dX8_clear_42 : decode cX8_clear 42 = .ok (.iinc 2 1, 3) := by decide +kernel
theorem dX8_clear_45 : decode cX8_clear 45 = .ok (.goto (-36), 3) := by decide +kernel
theorem dX8_clear_48 : decode cX8_clear 48 = .ok (.iinc 1 1, 3) := by decide +kernel
theorem dX8_clear_51 : decode cX8_clear 51 = .ok (.goto (-49), 3) := by decide +kernel
theorem dX8_clear_54 : decode cX8_clear 54 = .ok (.aload_n 0, 1) := by decide +kernel
theorem dX8_clear_55 : decode cX8_clear 55 = .ok (.getfield 22, 3) := by decide +kernel
theorem dX8_clear_58 : decode cX8_clear 58 = .ok (.iconst 0, 1) := by decide +kernel
theorem dX8_clear_59 : decode cX8_clear 59 = .ok (.iconst 0, 1) := by decide +kernel
theorem dX8_clear_60 : decode cX8_clear 60 = .ok (.iastore, 1) := by decide +kernel
theorem dX8_clear_61 : decode cX8_clear 61 = .ok (.aload_n 0, 1) := by decide +kernel
theorem dX8_clear_62 : decode cX8_clear 62 = .ok (.getfield 22, 3) := by decide +kernel
