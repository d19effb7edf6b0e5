theorem dX10_sharedOf_70 : decode cX10_sharedOf 70 = .ok (.iload 5, 2) := by decide +kernel
theorem dX10_sharedOf_72 : decode cX10_sharedOf 72 = .ok (.imul, 1) := by decide +kernel
theorem dX10_sharedOf_73 : decode cX10_sharedOf 73 = .ok (.iload 6, 2) := by decide +kernel
theorem dX10_sharedOf_75 : decode cX10_sharedOf 75 = .ok (.iadd, 1) := by decide +kernel
theorem dX10_sharedOf_76 : decode cX10_sharedOf 76 = .ok (.iconst 1, 1) := by decide +kernel
theorem dX10_sharedOf_77 : decode cX10_sharedOf 77 = .ok (.iadd, 1) := by decide +kernel
theorem dX10_sharedOf_78 : decode cX10_sharedOf 78 = .ok (.iaload, 1) := by decide +kernel
theorem dX10_sharedOf_79 : decode cX10_sharedOf 79 = .ok (.if_icmp .le 22, 3) := by decide +kernel
theorem dX10_sharedOf_82 : decode cX10_sharedOf 82 = .ok (.aload_n 0, 1) := by decide +kernel
theorem dX10_sharedOf_83 : decode cX10_sharedOf 83 = .ok (.getfield 51, 3) := by decide +kernel
theorem dX10_sharedOf_86 : decode cX10_sharedOf 86 = .ok (.bipush 9, 2) := by decide +kernel
theorem dX10_sharedOf_88 : decode cX10_sharedOf 88 = .ok (.iload 5, 2) := by decide +kernel
theorem dX10_sharedOf_90 : decode cX10_sharedOf 90 = .ok (.imul, 1) := by decide +kernel
theorem dX10_sharedOf_91 : decode cX10_sharedOf 91 = .ok (.bipush 9, 2) := by decide +kernel
theorem dX10_sharedOf_93 : decode cX10_sharedOf 93 = .ok (.iadd, 1) := by decide +kernel
theorem dX10_sharedOf_94 : decode cX10_sharedOf 94 = .ok (.iload 6, 2) := by decide +kernel
theorem dX10_sharedOf_96 : decode cX10_sharedOf 96 = .ok (.iadd, 1) := by decide +kernel
theorem dX10_sharedOf_97 : decode cX10_sharedOf 97 = .ok (.iaload, 1) := by decide +kernel
theorem dX10_sharedOf_98 : decode cX10_sharedOf 98 = .ok (.goto 18, 3) := by decide +kernel
theorem dX10_sharedOf_101 : decode cX10_sharedOf 101 = .ok (.aload_n 0, 1) := by decide +kernel
theorem dX10_sharedOf_102 : decode cX10_sharedOf 102 = .ok (.getfield 51, 3) := by decide +kernel
theorem dX10_sharedOf_105 : decode cX10_sharedOf 105 = .ok (.bipush 9, 2) := by decide +kernel
theorem dX10_sharedOf_107 : decode cX10_sharedOf 107 = .ok (.iload 5, 2) := by decide +kernel
theorem dX10_sharedOf_109 : decode cX10_sharedOf 109 = .ok (.imul, 1) := by decide +kernel
theorem dX10_sharedOf_110 : decode cX10_sharedOf 110 = .ok (.iload 6, 2) := by decide +kernel
theorem dX10_sharedOf_112 : decode cX10_sharedOf 112 = .ok (.iadd, 1) := by decide +kernel
theorem dX10_sharedOf_113 : decode cX10_sharedOf 113 = .ok (.iconst 1, 1) := by decide +kernel
theorem dX10_sharedOf_114 : decode cX10_sharedOf 114 = .ok (.iadd, 1) := by decide +kernel
theorem dX10_sharedOf_115 : decode cX10_sharedOf 115 = .ok (.iaload, 1) := by decide +kernel
theorem dX10_sharedOf_116 : decode cX10_sharedOf 116 = .ok (.istore 7, 2) := by decide +kernel
theorem dX10_sharedOf_118 : decode cX10_sharedOf 118 = .ok (.aload_n 0, 1) := by decide +kernel
theorem dX10_sharedOf_119 : decode cX10_sharedOf 119 = .ok (.iconst 0, 1) := by decide +kernel
theorem dX10_sharedOf_120 : decode cX10_sharedOf 120 = .ok (.iload_n 1, 1) := by decide +kernel
theorem dX10_sharedOf_121 : decode cX10_sharedOf 121 = .ok (.iload 5, 2) := by decide +kernel
theorem dX10_sharedOf_123 : decode cX10_sharedOf 123 = .ok (.invokevirtual 102, 3) := by decide +kernel
theorem dX10_sharedOf_126 : decode cX10_sharedOf 126 = .ok (.aload_n 0, 1) := by decide +kernel
theorem dX10_sharedOf_127 : decode cX10_sharedOf 127 = .ok (.iconst 1, 1) := by decide +kernel
theorem dX10_sharedOf_128 : decode cX10_sharedOf 128 = .ok (.iload_n 2, 1) := by decide +kernel
theorem dX10_sharedOf_129 : decode cX10_sharedOf 129 = .ok (.iload 6, 2) := by decide +kernel
theorem dX10_sharedOf_131 : decode cX10_sharedOf 131 = .ok (.invokevirtual 102, 3) := by decide +kernel
theorem dX10_sharedOf_134 : decode cX10_sharedOf 134 = .ok (.if_icmp .ne 46, 3) := by decide +kernel
theorem dX10_sharedOf_137 : decode cX10_sharedOf 137 = .ok (.aload_n 0, 1) := by decide +kernel
theorem dX10_sharedOf_138 : decode cX10_sharedOf 138 = .ok (.getfield 51, 3) := by decide +kernel
theorem dX10_sharedOf_141 : decode cX10_sharedOf 141 = .ok (.bipush 9, 2) := by decide +kernel
theorem dX10_sharedOf_143 : decode cX10_sharedOf 143 = .ok (.iload 5, 2) := by decide +kernel
theorem dX10_sharedOf_145 : decode cX10_sharedOf 145 = .ok (.imul, 1) := by decide +kernel
theorem dX10_sharedOf_146 : decode cX10_sharedOf 146 = .ok (.bipush 10, 2) := by decide +kernel
theorem dX10_sharedOf_148 : decode cX10_sharedOf 148 = .ok (.iadd, 1) := by decide +kernel
theorem dX10_sharedOf_149 : decode cX10_sharedOf 149 = .ok (.iload 6, 2) := by decide +kernel
theorem dX10_sharedOf_151 : decode cX10_sharedOf 151 = .ok (.iadd, 1) := by decide +kernel
theorem dX10_sharedOf_152 : decode cX10_sharedOf 152 = .ok (.iaload, 1) := by decide +kernel
theorem dX10_sharedOf_153 : decode cX10_sharedOf 153 = .ok (.iconst 1, 1) := by decide +kernel
theorem dX10_sharedOf_154 : decode cX10_sharedOf 154 = .ok (.iadd, 1) := by decide +kernel
theorem dX10_sharedOf_155 : decode cX10_sharedOf 155 = .ok (.iload 7, 2) := by decide +kernel
theorem dX10_sharedOf_157 : decode cX10_sharedOf 157 = .ok (.if_icmp .le 23, 3) := by decide +kernel
theorem dX10_sharedOf_160 : decode cX10_sharedOf 160 = .ok (.aload_n 0, 1) := by decide +kernel
theorem dX10_sharedOf_161 : decode cX10_sharedOf 161 = .ok (.getfield 51, 3) := by decide +kernel
theorem dX10_sharedOf_164 : decode cX10_sharedOf 164 = .ok (.bipush 9, 2) := by decide +kernel
theorem dX10_sharedOf_166 : decode cX10_sharedOf 166 = .ok (.iload 5, 2) := by decide +kernel
theorem dX10_sharedOf_168 : decode cX10_sharedOf 168 = .ok (.imul, 1) := by decide +kernel
theorem dX10_sharedOf_169 : decode cX10_sharedOf 169 = .ok (.bipush 10, 2) := by decide +kernel
theorem dX10_sharedOf_171 : decode cX10_sharedOf 171 = .ok (.iadd, 1) := by decide +kernel
theorem dX10_sharedOf_172 : decode cX10_sharedOf 172 = .ok (.iload 6, 2) := by decide +kernel
theorem dX10_sharedOf_174 : decode cX10_sharedOf 174 = .ok (.iadd, 1) := by decide +kernel
theorem dX10_sharedOf_175 : decode cX10_sharedOf 175 = .ok (.iaload, 1) := by decide +kernel
theorem dX10_sharedOf_176 : decode cX10_sharedOf 176 = .ok (.iconst 1, 1) := by decide +kernel
theorem dX10_sharedOf_177 : decode cX10_sharedOf 177 = .ok (.iadd, 1) := by decide +kernel
theorem dX10_sharedOf_178 : decode cX10_sharedOf 178 = .ok (.istore 7, 2) := by decide +kernel
theorem dX10_sharedOf_180 : decode cX10_sharedOf 180 = .ok (.aload_n 0, 1) := by decide +kernel
theorem dX10_sharedOf_181 : decode cX10_sharedOf 181 = .ok (.getfield 51, 3) := by decide +kernel
theorem dX10_sharedOf_184 : decode cX10_sharedOf 184 = .ok (.bipush 9, 2) := by decide +kernel
theorem dX10_sharedOf_186 : decode cX10_sharedOf 186 = .ok (.iload 5, 2) := by decide +kernel
theorem dX10_sharedOf_188 : decode cX10_sharedOf 188 = .ok (.imul, 1) := by decide +kernel
theorem dX10_sharedOf_189 : decode cX10_sharedOf 189 = .ok (.iload 6, 2) := by decide +kernel
theorem dX10_sharedOf_191 : decode cX10_sharedOf 191 = .ok (.iadd, 1) := by decide +kernel
theorem dX10_sharedOf_192 : decode cX10_sharedOf 192 = .ok (.iload 7, 2) := by decide +kernel
theorem dX10_sharedOf_194 : decode cX10_sharedOf 194 = .ok (.iastore, 1) := by decide +kernel
theorem dX10_sharedOf_195 : decode cX10_sharedOf 195 = .ok (.iinc 6 (-1), 3) := by decide +kernel
theorem dX10_sharedOf_198 : decode cX10_sharedOf 198 = .ok (.goto (-171), 3) := by decide +kernel
theorem dX10_sharedOf_201 : decode cX10_sharedOf 201 = .ok (.iinc 5 (-1), 3) := by decide +kernel
theorem dX10_sharedOf_204 : decode cX10_sharedOf 204 = .ok (.goto (-186), 3) := by decide +kernel
theorem dX10_sharedOf_207 : decode cX10_sharedOf 207 = .ok (.aload_n 0, 1) := by decide +kernel
theorem dX10_sharedOf_208 : decode cX10_sharedOf 208 = .ok (.getfield 51, 3) := by decide +kernel
theorem dX10_sharedOf_211 : decode cX10_sharedOf 211 = .ok (.iconst 0, 1) := by decide +kernel
theorem dX10_sharedOf_212 : decode cX10_sharedOf 212 = .ok (.iaload, 1) := by decide +kernel
theorem dX10_sharedOf_213 : decode cX10_sharedOf 213 = .ok (.ireturn, 1) := by decide +kernel
theorem dX10_laysEdits_0 : decode cX10_laysEdits 0 = .ok (.iconst 0, 1) := by decide +kernel
theorem dX10_laysEdits_1 : decode cX10_laysEdits 1 = .ok (.istore_n 1, 1) := by decide +kernel
theorem dX10_laysEdits_2 : decode cX10_laysEdits 2 = .ok (.iload_n 1, 1) := by decide +kernel
theorem dX10_laysEdits_3 : decode cX10_laysEdits 3 = .ok (.iconst (-1), 1) := by decide +kernel
theorem dX10_laysEdits_4 : decode cX10_laysEdits 4 = .ok (.if_icmp .eq 130, 3) := by decide +kernel
theorem dX10_laysEdits_7 : decode cX10_laysEdits 7 = .ok (.iconst (-1), 1) := by decide +kernel
theorem dX10_laysEdits_8 : decode cX10_laysEdits 8 = .ok (.istore_n 1, 1) := by decide +kernel
theorem dX10_laysEdits_9 : decode cX10_laysEdits 9 = .ok (.iconst 0, 1) := by decide +kernel
theorem dX10_laysEdits_10 : decode cX10_laysEdits 10 = .ok (.istore_n 2, 1) := by decide +kernel
theorem dX10_laysEdits_11 : decode cX10_laysEdits 11 = .ok (.iconst 0, 1) := by decide +kernel
theorem dX10_laysEdits_12 : decode cX10_laysEdits 12 = .ok (.istore_n 3, 1) := by decide +kernel
theorem dX10_laysEdits_13 : decode cX10_laysEdits 13 = .ok (.iload_n 3, 1) := by decide +kernel
theorem dX10_laysEdits_14 : decode cX10_laysEdits 14 = .ok (.sipush 196, 3) := by decide +kernel
theorem dX10_laysEdits_17 : decode cX10_laysEdits 17 = .ok (.if_icmp .ge 96, 3) := by decide +kernel
theorem dX10_laysEdits_20 : decode cX10_laysEdits 20 = .ok (.aload_n 0, 1) := by decide +kernel
theorem dX10_laysEdits_21 : decode cX10_laysEdits 21 = .ok (.iconst 0, 1) := by decide +kernel
theorem dX10_laysEdits_22 : decode cX10_laysEdits 22 = .ok (.iload_n 3, 1) := by decide +kernel
theorem dX10_laysEdits_23 : decode cX10_laysEdits 23 = .ok (.bipush 14, 2) := by decide +kernel
theorem dX10_laysEdits_25 : decode cX10_laysEdits 25 = .ok (.idiv, 1) := by decide +kernel
theorem dX10_laysEdits_26 : decode cX10_laysEdits 26 = .ok (.invokevirtual 130, 3) := by decide +kernel
theorem dX10_laysEdits_29 : decode cX10_laysEdits 29 = .ok (.ifCond .eq 78, 3) := by decide +kernel
theorem dX10_laysEdits_32 : decode cX10_laysEdits 32 = .ok (.aload_n 0, 1) := by decide +kernel
theorem dX10_laysEdits_33 : decode cX10_laysEdits 33 = .ok (.iconst 1, 1) := by decide +kernel
theorem dX10_laysEdits_34 : decode cX10_laysEdits 34 = .ok (.iload_n 3, 1) := by decide +kernel
theorem dX10_laysEdits_35 : decode cX10_laysEdits 35 = .ok (.bipush 14, 2) := by decide +kernel
theorem dX10_laysEdits_37 : decode cX10_laysEdits 37 = .ok (.irem, 1) := by decide +kernel
theorem dX10_laysEdits_38 : decode cX10_laysEdits 38 = .ok (.invokevirtual 130, 3) := by decide +kernel
theorem dX10_laysEdits_41 : decode cX10_laysEdits 41 = .ok (.ifCond .ne 6, 3) := by decide +kernel
theorem dX10_laysEdits_44 : decode cX10_laysEdits 44 = .ok (.goto 63, 3) := by decide +kernel
theorem dX10_laysEdits_47 : decode cX10_laysEdits 47 = .ok (.aload_n 0, 1) := by decide +kernel
theorem dX10_laysEdits_48 : decode cX10_laysEdits 48 = .ok (.iload_n 3, 1) := by decide +kernel
theorem dX10_laysEdits_49 : decode cX10_laysEdits 49 = .ok (.bipush 14, 2) := by decide +kernel
theorem dX10_laysEdits_51 : decode cX10_laysEdits 51 = .ok (.idiv, 1) := by decide +kernel
theorem dX10_laysEdits_52 : decode cX10_laysEdits 52 = .ok (.iload_n 3, 1) := by decide +kernel
theorem dX10_laysEdits_53 : decode cX10_laysEdits 53 = .ok (.bipush 14, 2) := by decide +kernel
theorem dX10_laysEdits_55 : decode cX10_laysEdits 55 = .ok (.irem, 1) := by decide +kernel
theorem dX10_laysEdits_56 : decode cX10_laysEdits 56 = .ok (.invokevirtual 139, 3) := by decide +kernel
theorem dX10_laysEdits_59 : decode cX10_laysEdits 59 = .ok (.istore 4, 2) := by decide +kernel
theorem dX10_laysEdits_61 : decode cX10_laysEdits 61 = .ok (.iconst 2, 1) := by decide +kernel
theorem dX10_laysEdits_62 : decode cX10_laysEdits 62 = .ok (.iload 4, 2) := by decide +kernel
theorem dX10_laysEdits_64 : decode cX10_laysEdits 64 = .ok (.imul, 1) := by decide +kernel
theorem dX10_laysEdits_65 : decode cX10_laysEdits 65 = .ok (.aload_n 0, 1) := by decide +kernel
theorem dX10_laysEdits_66 : decode cX10_laysEdits 66 = .ok (.iconst 0, 1) := by decide +kernel
theorem dX10_laysEdits_67 : decode cX10_laysEdits 67 = .ok (.iload_n 3, 1) := by decide +kernel
theorem dX10_laysEdits_68 : decode cX10_laysEdits 68 = .ok (.bipush 14, 2) := by decide +kernel
theorem dX10_laysEdits_70 : decode cX10_laysEdits 70 = .ok (.idiv, 1) := by decide +kernel
theorem dX10_laysEdits_71 : decode cX10_laysEdits 71 = .ok (.invokevirtual 99, 3) := by decide +kernel
theorem dX10_laysEdits_74 : decode cX10_laysEdits 74 = .ok (.if_icmp .lt 33, 3) := by decide +kernel
theorem dX10_laysEdits_77 : decode cX10_laysEdits 77 = .ok (.iconst 2, 1) := by decide +kernel
theorem dX10_laysEdits_78 : decode cX10_laysEdits 78 = .ok (.iload 4, 2) := by decide +kernel
theorem dX10_laysEdits_80 : decode cX10_laysEdits 80 = .ok (.imul, 1) := by decide +kernel
theorem dX10_laysEdits_81 : decode cX10_laysEdits 81 = .ok (.aload_n 0, 1) := by decide +kernel
theorem dX10_laysEdits_82 : decode cX10_laysEdits 82 = .ok (.iconst 1, 1) := by decide +kernel
theorem dX10_laysEdits_83 : decode cX10_laysEdits 83 = .ok (.iload_n 3, 1) := by decide +kernel
theorem dX10_laysEdits_84 : decode cX10_laysEdits 84 = .ok (.bipush 14, 2) := by decide +kernel
theorem dX10_laysEdits_86 : decode cX10_laysEdits 86 = .ok (.irem, 1) := by decide +kernel
theorem dX10_laysEdits_87 : decode cX10_laysEdits 87 = .ok (.invokevirtual 99, 3) := by decide +kernel
theorem dX10_laysEdits_90 : decode cX10_laysEdits 90 = .ok (.if_icmp .lt 17, 3) := by decide +kernel
theorem dX10_laysEdits_93 : decode cX10_laysEdits 93 = .ok (.iload 4, 2) := by decide +kernel
theorem dX10_laysEdits_95 : decode cX10_laysEdits 95 = .ok (.iload_n 2, 1) := by decide +kernel
theorem dX10_laysEdits_96 : decode cX10_laysEdits 96 = .ok (.if_icmp .gt 6, 3) := by decide +kernel
theorem dX10_laysEdits_99 : decode cX10_laysEdits 99 = .ok (.goto 8, 3) := by decide +kernel
theorem dX10_laysEdits_102 : decode cX10_laysEdits 102 = .ok (.iload 4, 2) := by decide +kernel
theorem dX10_laysEdits_104 : decode cX10_laysEdits 104 = .ok (.istore_n 2, 1) := by decide +kernel
theorem dX10_laysEdits_105 : decode cX10_laysEdits 105 = .ok (.iload_n 3, 1) := by decide +kernel
theorem dX10_laysEdits_106 : decode cX10_laysEdits 106 = .ok (.istore_n 1, 1) := by decide +kernel
theorem dX10_laysEdits_107 : decode cX10_laysEdits 107 = .ok (.iinc 3 1, 3) := by decide +kernel
theorem dX10_laysEdits_110 : decode cX10_laysEdits 110 = .ok (.goto (-97), 3) := by decide +kernel
theorem dX10_laysEdits_113 : decode cX10_laysEdits 113 = .ok (.iload_n 1, 1) := by decide +kernel
theorem dX10_laysEdits_114 : decode cX10_laysEdits 114 = .ok (.iconst (-1), 1) := by decide +kernel
theorem dX10_laysEdits_115 : decode cX10_laysEdits 115 = .ok (.if_icmp .eq 16, 3) := by decide +kernel
theorem dX10_laysEdits_118 : decode cX10_laysEdits 118 = .ok (.aload_n 0, 1) := by decide +kernel
theorem dX10_laysEdits_119 : decode cX10_laysEdits 119 = .ok (.iload_n 1, 1) := by decide +kernel
theorem dX10_laysEdits_120 : decode cX10_laysEdits 120 = .ok (.bipush 14, 2) := by decide +kernel
theorem dX10_laysEdits_122 : decode cX10_laysEdits 122 = .ok (.idiv, 1) := by decide +kernel
theorem dX10_laysEdits_123 : decode cX10_laysEdits 123 = .ok (.iload_n 1, 1) := by decide +kernel
theorem dX10_laysEdits_124 : decode cX10_laysEdits 124 = .ok (.bipush 14, 2) := by decide +kernel
theorem dX10_laysEdits_126 : decode cX10_laysEdits 126 = .ok (.irem, 1) := by decide +kernel
theorem dX10_laysEdits_127 : decode cX10_laysEdits 127 = .ok (.iconst 2, 1) := by decide +kernel
theorem dX10_laysEdits_128 : decode cX10_laysEdits 128 = .ok (.invokevirtual 112, 3) := by decide +kernel
theorem dX10_laysEdits_131 : decode cX10_laysEdits 131 = .ok (.goto (-129), 3) := by decide +kernel
theorem dX10_laysEdits_134 : decode cX10_laysEdits 134 = .ok (.return_, 1) := by decide +kernel
theorem dX10_laysAll_0 : decode cX10_laysAll 0 = .ok (.iconst 0, 1) := by decide +kernel
theorem dX10_laysAll_1 : decode cX10_laysAll 1 = .ok (.istore_n 1, 1) := by decide +kernel
theorem dX10_laysAll_2 : decode cX10_laysAll 2 = .ok (.iload_n 1, 1) := by decide +kernel
theorem dX10_laysAll_3 : decode cX10_laysAll 3 = .ok (.bipush 28, 2) := by decide +kernel
theorem dX10_laysAll_5 : decode cX10_laysAll 5 = .ok (.if_icmp .ge 30, 3) := by decide +kernel
theorem dX10_laysAll_8 : decode cX10_laysAll 8 = .ok (.aload_n 0, 1) := by decide +kernel
theorem dX10_laysAll_9 : decode cX10_laysAll 9 = .ok (.getfield 33, 3) := by decide +kernel
theorem dX10_laysAll_12 : decode cX10_laysAll 12 = .ok (.iload_n 1, 1) := by decide +kernel
theorem dX10_laysAll_13 : decode cX10_laysAll 13 = .ok (.iconst 3, 1) := by decide +kernel
theorem dX10_laysAll_14 : decode cX10_laysAll 14 = .ok (.iastore, 1) := by decide +kernel
theorem dX10_laysAll_15 : decode cX10_laysAll 15 = .ok (.aload_n 0, 1) := by decide +kernel
theorem dX10_laysAll_16 : decode cX10_laysAll 16 = .ok (.getfield 36, 3) := by decide +kernel
theorem dX10_laysAll_19 : decode cX10_laysAll 19 = .ok (.iload_n 1, 1) := by decide +kernel
theorem dX10_laysAll_20 : decode cX10_laysAll 20 = .ok (.iconst (-1), 1) := by decide +kernel
theorem dX10_laysAll_21 : decode cX10_laysAll 21 = .ok (.iastore, 1) := by decide +kernel
theorem dX10_laysAll_22 : decode cX10_laysAll 22 = .ok (.aload_n 0, 1) := by decide +kernel
theorem dX10_laysAll_23 : decode cX10_laysAll 23 = .ok (.getfield 39, 3) := by decide +kernel
theorem dX10_laysAll_26 : decode cX10_laysAll 26 = .ok (.iload_n 1, 1) := by decide +kernel
theorem dX10_laysAll_27 : decode cX10_laysAll 27 = .ok (.iconst (-1), 1) := by decide +kernel
theorem dX10_laysAll_28 : decode cX10_laysAll 28 = .ok (.iastore, 1) := by decide +kernel
theorem dX10_laysAll_29 : decode cX10_laysAll 29 = .ok (.iinc 1 1, 3) := by decide +kernel
theorem dX10_laysAll_32 : decode cX10_laysAll 32 = .ok (.goto (-30), 3) := by decide +kernel
theorem dX10_laysAll_35 : decode cX10_laysAll 35 = .ok (.aload_n 0, 1) := by decide +kernel
theorem dX10_laysAll_36 : decode cX10_laysAll 36 = .ok (.iconst 0, 1) := by decide +kernel
theorem dX10_laysAll_37 : decode cX10_laysAll 37 = .ok (.aload_n 0, 1) := by decide +kernel
theorem dX10_laysAll_38 : decode cX10_laysAll 38 = .ok (.iconst 0, 1) := by decide +kernel
theorem dX10_laysAll_39 : decode cX10_laysAll 39 = .ok (.invokevirtual 62, 3) := by decide +kernel
theorem dX10_laysAll_42 : decode cX10_laysAll 42 = .ok (.iconst 0, 1) := by decide +kernel
theorem dX10_laysAll_43 : decode cX10_laysAll 43 = .ok (.aload_n 0, 1) := by decide +kernel
theorem dX10_laysAll_44 : decode cX10_laysAll 44 = .ok (.iconst 1, 1) := by decide +kernel
theorem dX10_laysAll_45 : decode cX10_laysAll 45 = .ok (.invokevirtual 62, 3) := by decide +kernel
theorem dX10_laysAll_48 : decode cX10_laysAll 48 = .ok (.iconst 1, 1) := by decide +kernel
theorem dX10_laysAll_49 : decode cX10_laysAll 49 = .ok (.invokevirtual 126, 3) := by decide +kernel
theorem dX10_laysAll_52 : decode cX10_laysAll 52 = .ok (.aload_n 0, 1) := by decide +kernel
theorem dX10_laysAll_53 : decode cX10_laysAll 53 = .ok (.invokevirtual 142, 3) := by decide +kernel
theorem dX10_laysAll_56 : decode cX10_laysAll 56 = .ok (.aload_n 0, 1) := by decide +kernel
theorem dX10_laysAll_57 : decode cX10_laysAll 57 = .ok (.invokevirtual 145, 3) := by decide +kernel
theorem dX10_laysAll_60 : decode cX10_laysAll 60 = .ok (.return_, 1) := by decide +kernel
theorem dX10_having_0 : decode cX10_having 0 = .ok (.iconst 0, 1) := by decide +kernel
theorem dX10_having_1 : decode cX10_having 1 = .ok (.istore_n 3, 1) := by decide +kernel
theorem dX10_having_2 : decode cX10_having 2 = .ok (.iconst 0, 1) := by decide +kernel
theorem dX10_having_3 : decode cX10_having 3 = .ok (.istore 4, 2) := by decide +kernel
theorem dX10_having_5 : decode cX10_having 5 = .ok (.iload 4, 2) := by decide +kernel
theorem dX10_having_7 : decode cX10_having 7 = .ok (.aload_n 0, 1) := by decide +kernel
theorem dX10_having_8 : decode cX10_having 8 = .ok (.iload_n 1, 1) := by decide +kernel
theorem dX10_having_9 : decode cX10_having 9 = .ok (.invokevirtual 62, 3) := by decide +kernel
theorem dX10_having_12 : decode cX10_having 12 = .ok (.if_icmp .ge 28, 3) := by decide +kernel
theorem dX10_having_15 : decode cX10_having 15 = .ok (.aload_n 0, 1) := by decide +kernel
theorem dX10_having_16 : decode cX10_having 16 = .ok (.getfield 33, 3) := by decide +kernel
theorem dX10_having_19 : decode cX10_having 19 = .ok (.bipush 14, 2) := by decide +kernel
theorem dX10_having_21 : decode cX10_having 21 = .ok (.iload_n 1, 1) := by decide +kernel
theorem dX10_having_22 : decode cX10_having 22 = .ok (.imul, 1) := by decide +kernel
theorem dX10_having_23 : decode cX10_having 23 = .ok (.iload 4, 2) := by decide +kernel
theorem dX10_having_25 : decode cX10_having 25 = .ok (.iadd, 1) := by decide +kernel
theorem dX10_having_26 : decode cX10_having 26 = .ok (.iaload, 1) := by decide +kernel
theorem dX10_having_27 : decode cX10_having 27 = .ok (.iload_n 2, 1) := by decide +kernel
theorem dX10_having_28 : decode cX10_having 28 = .ok (.if_icmp .ne 6, 3) := by decide +kernel
theorem dX10_having_31 : decode cX10_having 31 = .ok (.iinc 3 1, 3) := by decide +kernel
theorem dX10_having_34 : decode cX10_having 34 = .ok (.iinc 4 1, 3) := by decide +kernel
theorem dX10_having_37 : decode cX10_having 37 = .ok (.goto (-32), 3) := by decide +kernel
theorem dX10_having_40 : decode cX10_having 40 = .ok (.iload_n 3, 1) := by decide +kernel
theorem dX10_having_41 : decode cX10_having 41 = .ok (.ireturn, 1) := by decide +kernel
theorem dX10_now_0 : decode cX10_now 0 = .ok (.aload_n 0, 1) := by decide +kernel
theorem dX10_now_1 : decode cX10_now 1 = .ok (.iconst 0, 1) := by decide +kernel
theorem dX10_now_2 : decode cX10_now 2 = .ok (.putfield 1, 3) := by decide +kernel
theorem dX10_now_5 : decode cX10_now 5 = .ok (.aload_n 0, 1) := by decide +kernel
theorem dX10_now_6 : decode cX10_now 6 = .ok (.invokevirtual 148, 3) := by decide +kernel
theorem dX10_now_9 : decode cX10_now 9 = .ok (.iload_n 1, 1) := by decide +kernel
theorem dX10_now_10 : decode cX10_now 10 = .ok (.tableswitch 110 0 9 #[54, 54, 60, 67, 74, 79, 86, 93, 100, 105], 54) := by decide +kernel
theorem dX10_now_64 : decode cX10_now 64 = .ok (.aload_n 0, 1) := by decide +kernel
theorem dX10_now_65 : decode cX10_now 65 = .ok (.iload_n 1, 1) := by decide +kernel
theorem dX10_now_66 : decode cX10_now 66 = .ok (.invokevirtual 62, 3) := by decide +kernel
theorem dX10_now_69 : decode cX10_now 69 = .ok (.ireturn, 1) := by decide +kernel
theorem dX10_now_70 : decode cX10_now 70 = .ok (.aload_n 0, 1) := by decide +kernel
theorem dX10_now_71 : decode cX10_now 71 = .ok (.iconst 0, 1) := by decide +kernel
theorem dX10_now_72 : decode cX10_now 72 = .ok (.iconst 0, 1) := by decide +kernel
theorem dX10_now_73 : decode cX10_now 73 = .ok (.invokevirtual 151, 3) := by decide +kernel
theorem dX10_now_76 : decode cX10_now 76 = .ok (.ireturn, 1) := by decide +kernel
theorem dX10_now_77 : decode cX10_now 77 = .ok (.aload_n 0, 1) := by decide +kernel
theorem dX10_now_78 : decode cX10_now 78 = .ok (.iconst 0, 1) := by decide +kernel
theorem dX10_now_79 : decode cX10_now 79 = .ok (.iconst 1, 1) := by decide +kernel
theorem dX10_now_80 : decode cX10_now 80 = .ok (.invokevirtual 151, 3) := by decide +kernel
theorem dX10_now_83 : decode cX10_now 83 = .ok (.ireturn, 1) := by decide +kernel
theorem dX10_now_84 : decode cX10_now 84 = .ok (.aload_n 0, 1) := by decide +kernel
theorem dX10_now_85 : decode cX10_now 85 = .ok (.getfield 133, 3) := by decide +kernel
theorem dX10_now_88 : decode cX10_now 88 = .ok (.ireturn, 1) := by decide +kernel
theorem dX10_now_89 : decode cX10_now 89 = .ok (.aload_n 0, 1) := by decide +kernel
theorem dX10_now_90 : decode cX10_now 90 = .ok (.iconst 0, 1) := by decide +kernel
theorem dX10_now_91 : decode cX10_now 91 = .ok (.iconst 2, 1) := by decide +kernel
theorem dX10_now_92 : decode cX10_now 92 = .ok (.invokevirtual 151, 3) := by decide +kernel
theorem dX10_now_95 : decode cX10_now 95 = .ok (.ireturn, 1) := by decide +kernel
theorem dX10_now_96 : decode cX10_now 96 = .ok (.aload_n 0, 1) := by decide +kernel
theorem dX10_now_97 : decode cX10_now 97 = .ok (.iconst 0, 1) := by decide +kernel
theorem dX10_now_98 : decode cX10_now 98 = .ok (.iconst 3, 1) := by decide +kernel
theorem dX10_now_99 : decode cX10_now 99 = .ok (.invokevirtual 151, 3) := by decide +kernel
theorem dX10_now_102 : decode cX10_now 102 = .ok (.ireturn, 1) := by decide +kernel
theorem dX10_now_103 : decode cX10_now 103 = .ok (.aload_n 0, 1) := by decide +kernel
theorem dX10_now_104 : decode cX10_now 104 = .ok (.iconst 1, 1) := by decide +kernel
theorem dX10_now_105 : decode cX10_now 105 = .ok (.iconst 3, 1) := by decide +kernel
theorem dX10_now_106 : decode cX10_now 106 = .ok (.invokevirtual 151, 3) := by decide +kernel
theorem dX10_now_109 : decode cX10_now 109 = .ok (.ireturn, 1) := by decide +kernel
theorem dX10_now_110 : decode cX10_now 110 = .ok (.aload_n 0, 1) := by decide +kernel
theorem dX10_now_111 : decode cX10_now 111 = .ok (.getfield 92, 3) := by decide +kernel
theorem dX10_now_114 : decode cX10_now 114 = .ok (.ireturn, 1) := by decide +kernel
theorem dX10_now_115 : decode cX10_now 115 = .ok (.aload_n 0, 1) := by decide +kernel
theorem dX10_now_116 : decode cX10_now 116 = .ok (.getfield 11, 3) := by decide +kernel
theorem dX10_now_119 : decode cX10_now 119 = .ok (.ireturn, 1) := by decide +kernel
theorem dX10_now_120 : decode cX10_now 120 = .ok (.iconst (-1), 1) := by decide +kernel
theorem dX10_now_121 : decode cX10_now 121 = .ok (.ireturn, 1) := by decide +kernel
theorem dX10_line_0 : decode cX10_line 0 = .ok (.aload_n 0, 1) := by decide +kernel
theorem dX10_line_1 : decode cX10_line 1 = .ok (.iconst 0, 1) := by decide +kernel
theorem dX10_line_2 : decode cX10_line 2 = .ok (.putfield 1, 3) := by decide +kernel
theorem dX10_line_5 : decode cX10_line 5 = .ok (.aload_n 0, 1) := by decide +kernel
theorem dX10_line_6 : decode cX10_line 6 = .ok (.iload_n 1, 1) := by decide +kernel
theorem dX10_line_7 : decode cX10_line 7 = .ok (.iload_n 2, 1) := by decide +kernel
theorem dX10_line_8 : decode cX10_line 8 = .ok (.invokevirtual 154, 3) := by decide +kernel
theorem dX10_line_11 : decode cX10_line 11 = .ok (.ifCond .eq 12, 3) := by decide +kernel
theorem dX10_line_14 : decode cX10_line 14 = .ok (.iload_n 3, 1) := by decide +kernel
theorem dX10_line_15 : decode cX10_line 15 = .ok (.iconst 0, 1) := by decide +kernel
theorem dX10_line_16 : decode cX10_line 16 = .ok (.iconst 3, 1) := by decide +kernel
theorem dX10_line_17 : decode cX10_line 17 = .ok (.invokestatic 54, 3) := by decide +kernel
theorem dX10_line_20 : decode cX10_line 20 = .ok (.ifCond .ne 8, 3) := by decide +kernel
theorem dX10_line_23 : decode cX10_line 23 = .ok (.aload_n 0, 1) := by decide +kernel
theorem dX10_line_24 : decode cX10_line 24 = .ok (.invokevirtual 157, 3) := by decide +kernel
theorem dX10_line_27 : decode cX10_line 27 = .ok (.ireturn, 1) := by decide +kernel
theorem dX10_line_28 : decode cX10_line 28 = .ok (.aload_n 0, 1) := by decide +kernel
theorem dX10_line_29 : decode cX10_line 29 = .ok (.invokevirtual 148, 3) := by decide +kernel
theorem dX10_line_32 : decode cX10_line 32 = .ok (.bipush 14, 2) := by decide +kernel
theorem dX10_line_34 : decode cX10_line 34 = .ok (.iload_n 1, 1) := by decide +kernel
theorem dX10_line_35 : decode cX10_line 35 = .ok (.imul, 1) := by decide +kernel
theorem dX10_line_36 : decode cX10_line 36 = .ok (.iload_n 2, 1) := by decide +kernel
theorem dX10_line_37 : decode cX10_line 37 = .ok (.iadd, 1) := by decide +kernel
theorem dX10_line_38 : decode cX10_line 38 = .ok (.istore 4, 2) := by decide +kernel
theorem dX10_line_40 : decode cX10_line 40 = .ok (.iload_n 3, 1) := by decide +kernel
theorem dX10_line_41 : decode cX10_line 41 = .ok (.ifCond .ne 12, 3) := by decide +kernel
theorem dX10_line_44 : decode cX10_line 44 = .ok (.aload_n 0, 1) := by decide +kernel
theorem dX10_line_45 : decode cX10_line 45 = .ok (.iload_n 1, 1) := by decide +kernel
theorem dX10_line_46 : decode cX10_line 46 = .ok (.iload_n 2, 1) := by decide +kernel
theorem dX10_line_47 : decode cX10_line 47 = .ok (.invokevirtual 99, 3) := by decide +kernel
theorem dX10_line_50 : decode cX10_line 50 = .ok (.goto 40, 3) := by decide +kernel
theorem dX10_line_53 : decode cX10_line 53 = .ok (.iload_n 3, 1) := by decide +kernel
theorem dX10_line_54 : decode cX10_line 54 = .ok (.iconst 1, 1) := by decide +kernel
theorem dX10_line_55 : decode cX10_line 55 = .ok (.if_icmp .ne 13, 3) := by decide +kernel
theorem dX10_line_58 : decode cX10_line 58 = .ok (.aload_n 0, 1) := by decide +kernel
theorem dX10_line_59 : decode cX10_line 59 = .ok (.getfield 33, 3) := by decide +kernel
theorem dX10_line_62 : decode cX10_line 62 = .ok (.iload 4, 2) := by decide +kernel
theorem dX10_line_64 : decode cX10_line 64 = .ok (.iaload, 1) := by decide +kernel
theorem dX10_line_65 : decode cX10_line 65 = .ok (.goto 25, 3) := by decide +kernel
theorem dX10_line_68 : decode cX10_line 68 = .ok (.iload_n 3, 1) := by decide +kernel
theorem dX10_line_69 : decode cX10_line 69 = .ok (.iconst 2, 1) := by decide +kernel
theorem dX10_line_70 : decode cX10_line 70 = .ok (.if_icmp .ne 13, 3) := by decide +kernel
theorem dX10_line_73 : decode cX10_line 73 = .ok (.aload_n 0, 1) := by decide +kernel
theorem dX10_line_74 : decode cX10_line 74 = .ok (.getfield 36, 3) := by decide +kernel
theorem dX10_line_77 : decode cX10_line 77 = .ok (.iload 4, 2) := by decide +kernel
theorem dX10_line_79 : decode cX10_line 79 = .ok (.iaload, 1) := by decide +kernel
theorem dX10_line_80 : decode cX10_line 80 = .ok (.goto 10, 3) := by decide +kernel
theorem dX10_line_83 : decode cX10_line 83 = .ok (.aload_n 0, 1) := by decide +kernel
theorem dX10_line_84 : decode cX10_line 84 = .ok (.getfield 39, 3) := by decide +kernel
theorem dX10_line_87 : decode cX10_line 87 = .ok (.iload 4, 2) := by decide +kernel
theorem dX10_line_89 : decode cX10_line 89 = .ok (.iaload, 1) := by decide +kernel
theorem dX10_line_90 : decode cX10_line 90 = .ok (.ireturn, 1) := by decide +kernel
theorem dX10_lettersOf_0 : decode cX10_lettersOf 0 = .ok (.iconst 0, 1) := by decide +kernel
theorem dX10_lettersOf_1 : decode cX10_lettersOf 1 = .ok (.istore_n 1, 1) := by decide +kernel
theorem dX10_lettersOf_2 : decode cX10_lettersOf 2 = .ok (.iload_n 0, 1) := by decide +kernel
theorem dX10_lettersOf_3 : decode cX10_lettersOf 3 = .ok (.istore_n 2, 1) := by decide +kernel
theorem dX10_lettersOf_4 : decode cX10_lettersOf 4 = .ok (.iload_n 2, 1) := by decide +kernel
theorem dX10_lettersOf_5 : decode cX10_lettersOf 5 = .ok (.ifCond .le 14, 3) := by decide +kernel
theorem dX10_lettersOf_8 : decode cX10_lettersOf 8 = .ok (.iinc 1 1, 3) := by decide +kernel
theorem dX10_lettersOf_11 : decode cX10_lettersOf 11 = .ok (.iload_n 2, 1) := by decide +kernel
theorem dX10_lettersOf_12 : decode cX10_lettersOf 12 = .ok (.bipush 27, 2) := by decide +kernel
theorem dX10_lettersOf_14 : decode cX10_lettersOf 14 = .ok (.idiv, 1) := by decide +kernel
theorem dX10_lettersOf_15 : decode cX10_lettersOf 15 = .ok (.istore_n 2, 1) := by decide +kernel
theorem dX10_lettersOf_16 : decode cX10_lettersOf 16 = .ok (.goto (-12), 3) := by decide +kernel
theorem dX10_lettersOf_19 : decode cX10_lettersOf 19 = .ok (.iload_n 1, 1) := by decide +kernel
theorem dX10_lettersOf_20 : decode cX10_lettersOf 20 = .ok (.ireturn, 1) := by decide +kernel
theorem dX10_letter_0 : decode cX10_letter 0 = .ok (.aload_n 0, 1) := by decide +kernel
theorem dX10_letter_1 : decode cX10_letter 1 = .ok (.iconst 0, 1) := by decide +kernel
theorem dX10_letter_2 : decode cX10_letter 2 = .ok (.putfield 1, 3) := by decide +kernel
theorem dX10_letter_5 : decode cX10_letter 5 = .ok (.aload_n 0, 1) := by decide +kernel
theorem dX10_letter_6 : decode cX10_letter 6 = .ok (.iload_n 1, 1) := by decide +kernel
theorem dX10_letter_7 : decode cX10_letter 7 = .ok (.iload_n 2, 1) := by decide +kernel
theorem dX10_letter_8 : decode cX10_letter 8 = .ok (.invokevirtual 154, 3) := by decide +kernel
theorem dX10_letter_11 : decode cX10_letter 11 = .ok (.ifCond .eq 19, 3) := by decide +kernel
theorem dX10_letter_14 : decode cX10_letter 14 = .ok (.iload_n 3, 1) := by decide +kernel
theorem dX10_letter_15 : decode cX10_letter 15 = .ok (.iconst 0, 1) := by decide +kernel
theorem dX10_letter_16 : decode cX10_letter 16 = .ok (.aload_n 0, 1) := by decide +kernel
theorem dX10_letter_17 : decode cX10_letter 17 = .ok (.iload_n 1, 1) := by decide +kernel
theorem dX10_letter_18 : decode cX10_letter 18 = .ok (.iload_n 2, 1) := by decide +kernel
theorem dX10_letter_19 : decode cX10_letter 19 = .ok (.invokevirtual 99, 3) := by decide +kernel
theorem dX10_letter_22 : decode cX10_letter 22 = .ok (.iconst 1, 1) := by decide +kernel
theorem dX10_letter_23 : decode cX10_letter 23 = .ok (.isub, 1) := by decide +kernel
theorem dX10_letter_24 : decode cX10_letter 24 = .ok (.invokestatic 54, 3) := by decide +kernel
theorem dX10_letter_27 : decode cX10_letter 27 = .ok (.ifCond .ne 5, 3) := by decide +kernel
theorem dX10_letter_30 : decode cX10_letter 30 = .ok (.iconst (-1), 1) := by decide +kernel
theorem dX10_letter_31 : decode cX10_letter 31 = .ok (.ireturn, 1) := by decide +kernel
theorem dX10_letter_32 : decode cX10_letter 32 = .ok (.aload_n 0, 1) := by decide +kernel
theorem dX10_letter_33 : decode cX10_letter 33 = .ok (.iload_n 1, 1) := by decide +kernel
theorem dX10_letter_34 : decode cX10_letter 34 = .ok (.iload_n 2, 1) := by decide +kernel
theorem dX10_letter_35 : decode cX10_letter 35 = .ok (.iload_n 3, 1) := by decide +kernel
theorem dX10_letter_36 : decode cX10_letter 36 = .ok (.invokevirtual 102, 3) := by decide +kernel
theorem dX10_letter_39 : decode cX10_letter 39 = .ok (.istore 5, 2) := by decide +kernel
theorem dX10_letter_41 : decode cX10_letter 41 = .ok (.iload 5, 2) := by decide +kernel
theorem dX10_letter_43 : decode cX10_letter 43 = .ok (.invokestatic 161, 3) := by decide +kernel
theorem dX10_letter_46 : decode cX10_letter 46 = .ok (.istore 6, 2) := by decide +kernel
theorem dX10_letter_48 : decode cX10_letter 48 = .ok (.iload 4, 2) := by decide +kernel
theorem dX10_letter_50 : decode cX10_letter 50 = .ok (.iconst (-1), 1) := by decide +kernel
theorem dX10_letter_51 : decode cX10_letter 51 = .ok (.if_icmp .ne 6, 3) := by decide +kernel
theorem dX10_letter_54 : decode cX10_letter 54 = .ok (.iload 6, 2) := by decide +kernel
theorem dX10_letter_56 : decode cX10_letter 56 = .ok (.ireturn, 1) := by decide +kernel
theorem dX10_letter_57 : decode cX10_letter 57 = .ok (.iload 4, 2) := by decide +kernel
theorem dX10_letter_59 : decode cX10_letter 59 = .ok (.iconst 0, 1) := by decide +kernel
theorem dX10_letter_60 : decode cX10_letter 60 = .ok (.iload 6, 2) := by decide +kernel
theorem dX10_letter_62 : decode cX10_letter 62 = .ok (.iconst 1, 1) := by decide +kernel
theorem dX10_letter_63 : decode cX10_letter 63 = .ok (.isub, 1) := by decide +kernel
theorem dX10_letter_64 : decode cX10_letter 64 = .ok (.invokestatic 54, 3) := by decide +kernel
theorem dX10_letter_67 : decode cX10_letter 67 = .ok (.ifCond .ne 5, 3) := by decide +kernel
theorem dX10_letter_70 : decode cX10_letter 70 = .ok (.iconst (-1), 1) := by decide +kernel
theorem dX10_letter_71 : decode cX10_letter 71 = .ok (.ireturn, 1) := by decide +kernel
theorem dX10_letter_72 : decode cX10_letter 72 = .ok (.iload 6, 2) := by decide +kernel
theorem dX10_letter_74 : decode cX10_letter 74 = .ok (.iconst 1, 1) := by decide +kernel
theorem dX10_letter_75 : decode cX10_letter 75 = .ok (.isub, 1) := by decide +kernel
theorem dX10_letter_76 : decode cX10_letter 76 = .ok (.iload 4, 2) := by decide +kernel
theorem dX10_letter_78 : decode cX10_letter 78 = .ok (.isub, 1) := by decide +kernel
theorem dX10_letter_79 : decode cX10_letter 79 = .ok (.istore 7, 2) := by decide +kernel
theorem dX10_letter_81 : decode cX10_letter 81 = .ok (.iload 7, 2) := by decide +kernel
theorem dX10_letter_83 : decode cX10_letter 83 = .ok (.ifCond .le 16, 3) := by decide +kernel
theorem dX10_letter_86 : decode cX10_letter 86 = .ok (.iload 5, 2) := by decide +kernel
theorem dX10_letter_88 : decode cX10_letter 88 = .ok (.bipush 27, 2) := by decide +kernel
theorem dX10_letter_90 : decode cX10_letter 90 = .ok (.idiv, 1) := by decide +kernel
theorem dX10_letter_91 : decode cX10_letter 91 = .ok (.istore 5, 2) := by decide +kernel
theorem dX10_letter_93 : decode cX10_letter 93 = .ok (.iinc 7 (-1), 3) := by decide +kernel
theorem dX10_letter_96 : decode cX10_letter 96 = .ok (.goto (-15), 3) := by decide +kernel
theorem dX10_letter_99 : decode cX10_letter 99 = .ok (.iload 5, 2) := by decide +kernel
theorem dX10_letter_101 : decode cX10_letter 101 = .ok (.bipush 27, 2) := by decide +kernel
theorem dX10_letter_103 : decode cX10_letter 103 = .ok (.irem, 1) := by decide +kernel
theorem dX10_letter_104 : decode cX10_letter 104 = .ok (.ireturn, 1) := by decide +kernel
theorem dX10_block_0 : decode cX10_block 0 = .ok (.aload_n 0, 1) := by decide +kernel
theorem dX10_block_1 : decode cX10_block 1 = .ok (.iconst 0, 1) := by decide +kernel
theorem dX10_block_2 : decode cX10_block 2 = .ok (.putfield 1, 3) := by decide +kernel
theorem dX10_block_5 : decode cX10_block 5 = .ok (.aload_n 0, 1) := by decide +kernel
theorem dX10_block_6 : decode cX10_block 6 = .ok (.invokevirtual 148, 3) := by decide +kernel
theorem dX10_block_9 : decode cX10_block 9 = .ok (.iload_n 1, 1) := by decide +kernel
theorem dX10_block_10 : decode cX10_block 10 = .ok (.iconst 0, 1) := by decide +kernel
theorem dX10_block_11 : decode cX10_block 11 = .ok (.aload_n 0, 1) := by decide +kernel
theorem dX10_block_12 : decode cX10_block 12 = .ok (.getfield 133, 3) := by decide +kernel
theorem dX10_block_15 : decode cX10_block 15 = .ok (.iconst 1, 1) := by decide +kernel
theorem dX10_block_16 : decode cX10_block 16 = .ok (.isub, 1) := by decide +kernel
theorem dX10_block_17 : decode cX10_block 17 = .ok (.invokestatic 54, 3) := by decide +kernel
theorem dX10_block_20 : decode cX10_block 20 = .ok (.ifCond .eq 25, 3) := by decide +kernel
theorem dX10_block_23 : decode cX10_block 23 = .ok (.iload_n 2, 1) := by decide +kernel
theorem dX10_block_24 : decode cX10_block 24 = .ok (.iconst 0, 1) := by decide +kernel
theorem dX10_block_25 : decode cX10_block 25 = .ok (.iconst 2, 1) := by decide +kernel
theorem dX10_block_26 : decode cX10_block 26 = .ok (.invokestatic 54, 3) := by decide +kernel
theorem dX10_block_29 : decode cX10_block 29 = .ok (.ifCond .eq 16, 3) := by decide +kernel
theorem dX10_block_32 : decode cX10_block 32 = .ok (.aload_n 0, 1) := by decide +kernel
theorem dX10_block_33 : decode cX10_block 33 = .ok (.getfield 48, 3) := by decide +kernel
theorem dX10_block_36 : decode cX10_block 36 = .ok (.iconst 3, 1) := by decide +kernel
theorem dX10_block_37 : decode cX10_block 37 = .ok (.iload_n 1, 1) := by decide +kernel
theorem dX10_block_38 : decode cX10_block 38 = .ok (.imul, 1) := by decide +kernel
theorem dX10_block_39 : decode cX10_block 39 = .ok (.iload_n 2, 1) := by decide +kernel
theorem dX10_block_40 : decode cX10_block 40 = .ok (.iadd, 1) := by decide +kernel
theorem dX10_block_41 : decode cX10_block 41 = .ok (.iaload, 1) := by decide +kernel
theorem dX10_block_42 : decode cX10_block 42 = .ok (.goto 4, 3) := by decide +kernel
theorem dX10_block_45 : decode cX10_block 45 = .ok (.iconst (-1), 1) := by decide +kernel
theorem dX10_block_46 : decode cX10_block 46 = .ok (.ireturn, 1) := by decide +kernel
theorem dX10_areLines_0 : decode cX10_areLines 0 = .ok (.aload_n 0, 1) := by decide +kernel
theorem dX10_areLines_1 : decode cX10_areLines 1 = .ok (.iconst 0, 1) := by decide +kernel
theorem dX10_areLines_2 : decode cX10_areLines 2 = .ok (.iload_n 1, 1) := by decide +kernel
theorem dX10_areLines_3 : decode cX10_areLines 3 = .ok (.invokevirtual 154, 3) := by decide +kernel
theorem dX10_areLines_6 : decode cX10_areLines 6 = .ok (.ifCond .eq 16, 3) := by decide +kernel
theorem dX10_areLines_9 : decode cX10_areLines 9 = .ok (.aload_n 0, 1) := by decide +kernel
theorem dX10_areLines_10 : decode cX10_areLines 10 = .ok (.iconst 1, 1) := by decide +kernel
theorem dX10_areLines_11 : decode cX10_areLines 11 = .ok (.iload_n 2, 1) := by decide +kernel
theorem dX10_areLines_12 : decode cX10_areLines 12 = .ok (.invokevirtual 154, 3) := by decide +kernel
theorem dX10_areLines_15 : decode cX10_areLines 15 = .ok (.ifCond .eq 7, 3) := by decide +kernel
theorem dX10_areLines_18 : decode cX10_areLines 18 = .ok (.iconst 1, 1) := by decide +kernel
theorem dX10_areLines_19 : decode cX10_areLines 19 = .ok (.goto 4, 3) := by decide +kernel
theorem dX10_areLines_22 : decode cX10_areLines 22 = .ok (.iconst 0, 1) := by decide +kernel
theorem dX10_areLines_23 : decode cX10_areLines 23 = .ok (.ireturn, 1) := by decide +kernel
theorem dX10_shared_0 : decode cX10_shared 0 = .ok (.aload_n 0, 1) := by decide +kernel
theorem dX10_shared_1 : decode cX10_shared 1 = .ok (.iconst 0, 1) := by decide +kernel
theorem dX10_shared_2 : decode cX10_shared 2 = .ok (.putfield 1, 3) := by decide +kernel
theorem dX10_shared_5 : decode cX10_shared 5 = .ok (.aload_n 0, 1) := by decide +kernel
theorem dX10_shared_6 : decode cX10_shared 6 = .ok (.iload_n 1, 1) := by decide +kernel
theorem dX10_shared_7 : decode cX10_shared 7 = .ok (.iload_n 2, 1) := by decide +kernel
theorem dX10_shared_8 : decode cX10_shared 8 = .ok (.invokevirtual 164, 3) := by decide +kernel
theorem dX10_shared_11 : decode cX10_shared 11 = .ok (.ifCond .eq 12, 3) := by decide +kernel
theorem dX10_shared_14 : decode cX10_shared 14 = .ok (.aload_n 0, 1) := by decide +kernel
theorem dX10_shared_15 : decode cX10_shared 15 = .ok (.iload_n 1, 1) := by decide +kernel
theorem dX10_shared_16 : decode cX10_shared 16 = .ok (.iload_n 2, 1) := by decide +kernel
theorem dX10_shared_17 : decode cX10_shared 17 = .ok (.invokevirtual 139, 3) := by decide +kernel
theorem dX10_shared_20 : decode cX10_shared 20 = .ok (.goto 4, 3) := by decide +kernel
theorem dX10_shared_23 : decode cX10_shared 23 = .ok (.iconst (-1), 1) := by decide +kernel
theorem dX10_shared_24 : decode cX10_shared 24 = .ok (.ireturn, 1) := by decide +kernel
theorem dX10_stays_0 : decode cX10_stays 0 = .ok (.aload_n 0, 1) := by decide +kernel
theorem dX10_stays_1 : decode cX10_stays 1 = .ok (.iconst 0, 1) := by decide +kernel
theorem dX10_stays_2 : decode cX10_stays 2 = .ok (.putfield 1, 3) := by decide +kernel
theorem dX10_stays_5 : decode cX10_stays 5 = .ok (.aload_n 0, 1) := by decide +kernel
theorem dX10_stays_6 : decode cX10_stays 6 = .ok (.iload_n 1, 1) := by decide +kernel
theorem dX10_stays_7 : decode cX10_stays 7 = .ok (.iload_n 3, 1) := by decide +kernel
theorem dX10_stays_8 : decode cX10_stays 8 = .ok (.invokevirtual 164, 3) := by decide +kernel
theorem dX10_stays_11 : decode cX10_stays 11 = .ok (.ifCond .eq 19, 3) := by decide +kernel
theorem dX10_stays_14 : decode cX10_stays 14 = .ok (.iload_n 2, 1) := by decide +kernel
theorem dX10_stays_15 : decode cX10_stays 15 = .ok (.iconst 0, 1) := by decide +kernel
theorem dX10_stays_16 : decode cX10_stays 16 = .ok (.aload_n 0, 1) := by decide +kernel
theorem dX10_stays_17 : decode cX10_stays 17 = .ok (.iconst 0, 1) := by decide +kernel
theorem dX10_stays_18 : decode cX10_stays 18 = .ok (.iload_n 1, 1) := by decide +kernel
theorem dX10_stays_19 : decode cX10_stays 19 = .ok (.invokevirtual 99, 3) := by decide +kernel
theorem dX10_stays_22 : decode cX10_stays 22 = .ok (.iconst 1, 1) := by decide +kernel
theorem dX10_stays_23 : decode cX10_stays 23 = .ok (.isub, 1) := by decide +kernel
theorem dX10_stays_24 : decode cX10_stays 24 = .ok (.invokestatic 54, 3) := by decide +kernel
theorem dX10_stays_27 : decode cX10_stays 27 = .ok (.ifCond .ne 5, 3) := by decide +kernel
theorem dX10_stays_30 : decode cX10_stays 30 = .ok (.iconst (-1), 1) := by decide +kernel
theorem dX10_stays_31 : decode cX10_stays 31 = .ok (.ireturn, 1) := by decide +kernel
theorem dX10_stays_32 : decode cX10_stays 32 = .ok (.aload_n 0, 1) := by decide +kernel
theorem dX10_stays_33 : decode cX10_stays 33 = .ok (.iload_n 1, 1) := by decide +kernel
theorem dX10_stays_34 : decode cX10_stays 34 = .ok (.iload_n 3, 1) := by decide +kernel
theorem dX10_stays_35 : decode cX10_stays 35 = .ok (.invokevirtual 139, 3) := by decide +kernel
theorem dX10_stays_38 : decode cX10_stays 38 = .ok (.istore 4, 2) := by decide +kernel
theorem dX10_stays_40 : decode cX10_stays 40 = .ok (.iconst 0, 1) := by decide +kernel
theorem dX10_stays_41 : decode cX10_stays 41 = .ok (.istore 5, 2) := by decide +kernel
theorem dX10_stays_43 : decode cX10_stays 43 = .ok (.iconst 0, 1) := by decide +kernel
theorem dX10_stays_44 : decode cX10_stays 44 = .ok (.istore 6, 2) := by decide +kernel
theorem dX10_stays_46 : decode cX10_stays 46 = .ok (.iload 6, 2) := by decide +kernel
theorem dX10_stays_48 : decode cX10_stays 48 = .ok (.iload_n 2, 1) := by decide +kernel
theorem dX10_stays_49 : decode cX10_stays 49 = .ok (.if_icmp .gt 117, 3) := by decide +kernel
theorem dX10_stays_52 : decode cX10_stays 52 = .ok (.iload 4, 2) := by decide +kernel
theorem dX10_stays_54 : decode cX10_stays 54 = .ok (.ifCond .le 112, 3) := by decide +kernel
theorem dX10_stays_57 : decode cX10_stays 57 = .ok (.iconst (-1), 1) := by decide +kernel
theorem dX10_stays_58 : decode cX10_stays 58 = .ok (.istore 7, 2) := by decide +kernel
theorem dX10_stays_60 : decode cX10_stays 60 = .ok (.iload 5, 2) := by decide +kernel
theorem dX10_stays_62 : decode cX10_stays 62 = .ok (.istore 8, 2) := by decide +kernel
theorem dX10_stays_64 : decode cX10_stays 64 = .ok (.iload 8, 2) := by decide +kernel
theorem dX10_stays_66 : decode cX10_stays 66 = .ok (.aload_n 0, 1) := by decide +kernel
theorem dX10_stays_67 : decode cX10_stays 67 = .ok (.iconst 1, 1) := by decide +kernel
theorem dX10_stays_68 : decode cX10_stays 68 = .ok (.iload_n 3, 1) := by decide +kernel
theorem dX10_stays_69 : decode cX10_stays 69 = .ok (.invokevirtual 99, 3) := by decide +kernel
theorem dX10_stays_72 : decode cX10_stays 72 = .ok (.if_icmp .ge 61, 3) := by decide +kernel
theorem dX10_stays_75 : decode cX10_stays 75 = .ok (.iload 7, 2) := by decide +kernel
theorem dX10_stays_77 : decode cX10_stays 77 = .ok (.iconst (-1), 1) := by decide +kernel
theorem dX10_stays_78 : decode cX10_stays 78 = .ok (.if_icmp .ne 55, 3) := by decide +kernel
theorem dX10_stays_81 : decode cX10_stays 81 = .ok (.aload_n 0, 1) := by decide +kernel
theorem dX10_stays_82 : decode cX10_stays 82 = .ok (.iconst 0, 1) := by decide +kernel
theorem dX10_stays_83 : decode cX10_stays 83 = .ok (.iload_n 1, 1) := by decide +kernel
theorem dX10_stays_84 : decode cX10_stays 84 = .ok (.iload 6, 2) := by decide +kernel
theorem dX10_stays_86 : decode cX10_stays 86 = .ok (.invokevirtual 102, 3) := by decide +kernel
theorem dX10_stays_89 : decode cX10_stays 89 = .ok (.aload_n 0, 1) := by decide +kernel
theorem dX10_stays_90 : decode cX10_stays 90 = .ok (.iconst 1, 1) := by decide +kernel
theorem dX10_stays_91 : decode cX10_stays 91 = .ok (.iload_n 3, 1) := by decide +kernel
theorem dX10_stays_92 : decode cX10_stays 92 = .ok (.iload 8, 2) := by decide +kernel
theorem dX10_stays_94 : decode cX10_stays 94 = .ok (.invokevirtual 102, 3) := by decide +kernel
theorem dX10_stays_97 : decode cX10_stays 97 = .ok (.if_icmp .ne 30, 3) := by decide +kernel
theorem dX10_stays_100 : decode cX10_stays 100 = .ok (.aload_n 0, 1) := by decide +kernel
theorem dX10_stays_101 : decode cX10_stays 101 = .ok (.getfield 51, 3) := by decide +kernel
theorem dX10_stays_104 : decode cX10_stays 104 = .ok (.bipush 9, 2) := by decide +kernel
theorem dX10_stays_106 : decode cX10_stays 106 = .ok (.iload 6, 2) := by decide +kernel
theorem dX10_stays_108 : decode cX10_stays 108 = .ok (.imul, 1) := by decide +kernel
theorem dX10_stays_109 : decode cX10_stays 109 = .ok (.bipush 10, 2) := by decide +kernel
theorem dX10_stays_111 : decode cX10_stays 111 = .ok (.iadd, 1) := by decide +kernel
theorem dX10_stays_112 : decode cX10_stays 112 = .ok (.iload 8, 2) := by decide +kernel
theorem dX10_stays_114 : decode cX10_stays 114 = .ok (.iadd, 1) := by decide +kernel
theorem dX10_stays_115 : decode cX10_stays 115 = .ok (.iaload, 1) := by decide +kernel
theorem dX10_stays_116 : decode cX10_stays 116 = .ok (.iload 4, 2) := by decide +kernel
theorem dX10_stays_118 : decode cX10_stays 118 = .ok (.iconst 1, 1) := by decide +kernel
theorem dX10_stays_119 : decode cX10_stays 119 = .ok (.isub, 1) := by decide +kernel
theorem dX10_stays_120 : decode cX10_stays 120 = .ok (.if_icmp .ne 7, 3) := by decide +kernel
theorem dX10_stays_123 : decode cX10_stays 123 = .ok (.iload 8, 2) := by decide +kernel
theorem dX10_stays_125 : decode cX10_stays 125 = .ok (.istore 7, 2) := by decide +kernel
theorem dX10_stays_127 : decode cX10_stays 127 = .ok (.iinc 8 1, 3) := by decide +kernel
theorem dX10_stays_130 : decode cX10_stays 130 = .ok (.goto (-66), 3) := by decide +kernel
theorem dX10_stays_133 : decode cX10_stays 133 = .ok (.iload 6, 2) := by decide +kernel
theorem dX10_stays_135 : decode cX10_stays 135 = .ok (.iload_n 2, 1) := by decide +kernel
theorem dX10_stays_136 : decode cX10_stays 136 = .ok (.if_icmp .ne 6, 3) := by decide +kernel
theorem dX10_stays_139 : decode cX10_stays 139 = .ok (.iload 7, 2) := by decide +kernel
theorem dX10_stays_141 : decode cX10_stays 141 = .ok (.ireturn, 1) := by decide +kernel
theorem dX10_stays_142 : decode cX10_stays 142 = .ok (.iload 7, 2) := by decide +kernel
theorem dX10_stays_144 : decode cX10_stays 144 = .ok (.iconst (-1), 1) := by decide +kernel
theorem dX10_stays_145 : decode cX10_stays 145 = .ok (.if_icmp .ne 6, 3) := by decide +kernel
theorem dX10_stays_148 : decode cX10_stays 148 = .ok (.goto 12, 3) := by decide +kernel
theorem dX10_stays_151 : decode cX10_stays 151 = .ok (.iload 7, 2) := by decide +kernel
theorem dX10_stays_153 : decode cX10_stays 153 = .ok (.iconst 1, 1) := by decide +kernel
theorem dX10_stays_154 : decode cX10_stays 154 = .ok (.iadd, 1) := by decide +kernel
theorem dX10_stays_155 : decode cX10_stays 155 = .ok (.istore 5, 2) := by decide +kernel
theorem dX10_stays_157 : decode cX10_stays 157 = .ok (.iinc 4 (-1), 3) := by decide +kernel
theorem dX10_stays_160 : decode cX10_stays 160 = .ok (.iinc 6 1, 3) := by decide +kernel
theorem dX10_stays_163 : decode cX10_stays 163 = .ok (.goto (-117), 3) := by decide +kernel
theorem dX10_stays_166 : decode cX10_stays 166 = .ok (.iconst (-1), 1) := by decide +kernel
theorem dX10_stays_167 : decode cX10_stays 167 = .ok (.ireturn, 1) := by decide +kernel
theorem dX10_most_0 : decode cX10_most 0 = .ok (.aload_n 0, 1) := by decide +kernel
theorem dX10_most_1 : decode cX10_most 1 = .ok (.iconst 0, 1) := by decide +kernel
theorem dX10_most_2 : decode cX10_most 2 = .ok (.putfield 1, 3) := by decide +kernel
theorem dX10_most_5 : decode cX10_most 5 = .ok (.sipush 225, 3) := by decide +kernel
theorem dX10_most_8 : decode cX10_most 8 = .ok (.newarray .int, 2) := by decide +kernel
theorem dX10_most_10 : decode cX10_most 10 = .ok (.astore_n 1, 1) := by decide +kernel
theorem dX10_most_11 : decode cX10_most 11 = .ok (.aload_n 0, 1) := by decide +kernel
theorem dX10_most_12 : decode cX10_most 12 = .ok (.iconst 0, 1) := by decide +kernel
theorem dX10_most_13 : decode cX10_most 13 = .ok (.invokevirtual 62, 3) := by decide +kernel
theorem dX10_most_16 : decode cX10_most 16 = .ok (.iconst 1, 1) := by decide +kernel
theorem dX10_most_17 : decode cX10_most 17 = .ok (.isub, 1) := by decide +kernel
theorem dX10_most_18 : decode cX10_most 18 = .ok (.istore_n 2, 1) := by decide +kernel
theorem dX10_most_19 : decode cX10_most 19 = .ok (.iload_n 2, 1) := by decide +kernel
theorem dX10_most_20 : decode cX10_most 20 = .ok (.ifCond .lt 130, 3) := by decide +kernel
theorem dX10_most_23 : decode cX10_most 23 = .ok (.aload_n 0, 1) := by decide +kernel
theorem dX10_most_24 : decode cX10_most 24 = .ok (.iconst 1, 1) := by decide +kernel
theorem dX10_most_25 : decode cX10_most 25 = .ok (.invokevirtual 62, 3) := by decide +kernel
theorem dX10_most_28 : decode cX10_most 28 = .ok (.iconst 1, 1) := by decide +kernel
theorem dX10_most_29 : decode cX10_most 29 = .ok (.isub, 1) := by decide +kernel
theorem dX10_most_30 : decode cX10_most 30 = .ok (.istore_n 3, 1) := by decide +kernel
theorem dX10_most_31 : decode cX10_most 31 = .ok (.iload_n 3, 1) := by decide +kernel
theorem dX10_most_32 : decode cX10_most 32 = .ok (.ifCond .lt 112, 3) := by decide +kernel
theorem dX10_most_35 : decode cX10_most 35 = .ok (.aload_n 1, 1) := by decide +kernel
theorem dX10_most_36 : decode cX10_most 36 = .ok (.bipush 15, 2) := by decide +kernel
theorem dX10_most_38 : decode cX10_most 38 = .ok (.iload_n 2, 1) := by decide +kernel
theorem dX10_most_39 : decode cX10_most 39 = .ok (.imul, 1) := by decide +kernel
theorem dX10_most_40 : decode cX10_most 40 = .ok (.bipush 15, 2) := by decide +kernel
theorem dX10_most_42 : decode cX10_most 42 = .ok (.iadd, 1) := by decide +kernel
theorem dX10_most_43 : decode cX10_most 43 = .ok (.iload_n 3, 1) := by decide +kernel
theorem dX10_most_44 : decode cX10_most 44 = .ok (.iadd, 1) := by decide +kernel
theorem dX10_most_45 : decode cX10_most 45 = .ok (.iaload, 1) := by decide +kernel
theorem dX10_most_46 : decode cX10_most 46 = .ok (.aload_n 1, 1) := by decide +kernel
theorem dX10_most_47 : decode cX10_most 47 = .ok (.bipush 15, 2) := by decide +kernel
theorem dX10_most_49 : decode cX10_most 49 = .ok (.iload_n 2, 1) := by decide +kernel
theorem dX10_most_50 : decode cX10_most 50 = .ok (.imul, 1) := by decide +kernel
theorem dX10_most_51 : decode cX10_most 51 = .ok (.iload_n 3, 1) := by decide +kernel
theorem dX10_most_52 : decode cX10_most 52 = .ok (.iadd, 1) := by decide +kernel
theorem dX10_most_53 : decode cX10_most 53 = .ok (.iconst 1, 1) := by decide +kernel
theorem dX10_most_54 : decode cX10_most 54 = .ok (.iadd, 1) := by decide +kernel
theorem dX10_most_55 : decode cX10_most 55 = .ok (.iaload, 1) := by decide +kernel
theorem dX10_most_56 : decode cX10_most 56 = .ok (.if_icmp .le 17, 3) := by decide +kernel
theorem dX10_most_59 : decode cX10_most 59 = .ok (.aload_n 1, 1) := by decide +kernel
theorem dX10_most_60 : decode cX10_most 60 = .ok (.bipush 15, 2) := by decide +kernel
theorem dX10_most_62 : decode cX10_most 62 = .ok (.iload_n 2, 1) := by decide +kernel
theorem dX10_most_63 : decode cX10_most 63 = .ok (.imul, 1) := by decide +kernel
theorem dX10_most_64 : decode cX10_most 64 = .ok (.bipush 15, 2) := by decide +kernel
theorem dX10_most_66 : decode cX10_most 66 = .ok (.iadd, 1) := by decide +kernel
theorem dX10_most_67 : decode cX10_most 67 = .ok (.iload_n 3, 1) := by decide +kernel
theorem dX10_most_68 : decode cX10_most 68 = .ok (.iadd, 1) := by decide +kernel
theorem dX10_most_69 : decode cX10_most 69 = .ok (.iaload, 1) := by decide +kernel
theorem dX10_most_70 : decode cX10_most 70 = .ok (.goto 13, 3) := by decide +kernel
theorem dX10_most_73 : decode cX10_most 73 = .ok (.aload_n 1, 1) := by decide +kernel
theorem dX10_most_74 : decode cX10_most 74 = .ok (.bipush 15, 2) := by decide +kernel
theorem dX10_most_76 : decode cX10_most 76 = .ok (.iload_n 2, 1) := by decide +kernel
theorem dX10_most_77 : decode cX10_most 77 = .ok (.imul, 1) := by decide +kernel
theorem dX10_most_78 : decode cX10_most 78 = .ok (.iload_n 3, 1) := by decide +kernel
theorem dX10_most_79 : decode cX10_most 79 = .ok (.iadd, 1) := by decide +kernel
theorem dX10_most_80 : decode cX10_most 80 = .ok (.iconst 1, 1) := by decide +kernel
theorem dX10_most_81 : decode cX10_most 81 = .ok (.iadd, 1) := by decide +kernel
theorem dX10_most_82 : decode cX10_most 82 = .ok (.iaload, 1) := by decide +kernel
theorem dX10_most_83 : decode cX10_most 83 = .ok (.istore 4, 2) := by decide +kernel
theorem dX10_most_85 : decode cX10_most 85 = .ok (.aload_n 1, 1) := by decide +kernel
theorem dX10_most_86 : decode cX10_most 86 = .ok (.bipush 15, 2) := by decide +kernel
theorem dX10_most_88 : decode cX10_most 88 = .ok (.iload_n 2, 1) := by decide +kernel
theorem dX10_most_89 : decode cX10_most 89 = .ok (.imul, 1) := by decide +kernel
theorem dX10_most_90 : decode cX10_most 90 = .ok (.iload_n 3, 1) := by decide +kernel
theorem dX10_most_91 : decode cX10_most 91 = .ok (.iadd, 1) := by decide +kernel
theorem dX10_most_92 : decode cX10_most 92 = .ok (.aload_n 0, 1) := by decide +kernel
theorem dX10_most_93 : decode cX10_most 93 = .ok (.iload_n 2, 1) := by decide +kernel
theorem dX10_most_94 : decode cX10_most 94 = .ok (.iload_n 3, 1) := by decide +kernel
theorem dX10_most_95 : decode cX10_most 95 = .ok (.invokevirtual 110, 3) := by decide +kernel
theorem dX10_most_98 : decode cX10_most 98 = .ok (.ifCond .eq 37, 3) := by decide +kernel
theorem dX10_most_101 : decode cX10_most 101 = .ok (.aload_n 1, 1) := by decide +kernel
theorem dX10_most_102 : decode cX10_most 102 = .ok (.bipush 15, 2) := by decide +kernel
theorem dX10_most_104 : decode cX10_most 104 = .ok (.iload_n 2, 1) := by decide +kernel
theorem dX10_most_105 : decode cX10_most 105 = .ok (.imul, 1) := by decide +kernel
theorem dX10_most_106 : decode cX10_most 106 = .ok (.bipush 16, 2) := by decide +kernel
theorem dX10_most_108 : decode cX10_most 108 = .ok (.iadd, 1) := by decide +kernel
theorem dX10_most_109 : decode cX10_most 109 = .ok (.iload_n 3, 1) := by decide +kernel
theorem dX10_most_110 : decode cX10_most 110 = .ok (.iadd, 1) := by decide +kernel
theorem dX10_most_111 : decode cX10_most 111 = .ok (.iaload, 1) := by decide +kernel
theorem dX10_most_112 : decode cX10_most 112 = .ok (.iconst 1, 1) := by decide +kernel
theorem dX10_most_113 : decode cX10_most 113 = .ok (.iadd, 1) := by decide +kernel
theorem dX10_most_114 : decode cX10_most 114 = .ok (.iload 4, 2) := by decide +kernel
theorem dX10_most_116 : decode cX10_most 116 = .ok (.if_icmp .le 19, 3) := by decide +kernel
theorem dX10_most_119 : decode cX10_most 119 = .ok (.aload_n 1, 1) := by decide +kernel
theorem dX10_most_120 : decode cX10_most 120 = .ok (.bipush 15, 2) := by decide +kernel
theorem dX10_most_122 : decode cX10_most 122 = .ok (.iload_n 2, 1) := by decide +kernel
theorem dX10_most_123 : decode cX10_most 123 = .ok (.imul, 1) := by decide +kernel
theorem dX10_most_124 : decode cX10_most 124 = .ok (.bipush 16, 2) := by decide +kernel
theorem dX10_most_126 : decode cX10_most 126 = .ok (.iadd, 1) := by decide +kernel
theorem dX10_most_127 : decode cX10_most 127 = .ok (.iload_n 3, 1) := by decide +kernel
theorem dX10_most_128 : decode cX10_most 128 = .ok (.iadd, 1) := by decide +kernel
theorem dX10_most_129 : decode cX10_most 129 = .ok (.iaload, 1) := by decide +kernel
theorem dX10_most_130 : decode cX10_most 130 = .ok (.iconst 1, 1) := by decide +kernel
theorem dX10_most_131 : decode cX10_most 131 = .ok (.iadd, 1) := by decide +kernel
theorem dX10_most_132 : decode cX10_most 132 = .ok (.goto 5, 3) := by decide +kernel
theorem dX10_most_135 : decode cX10_most 135 = .ok (.iload 4, 2) := by decide +kernel
theorem dX10_most_137 : decode cX10_most 137 = .ok (.iastore, 1) := by decide +kernel
theorem dX10_most_138 : decode cX10_most 138 = .ok (.iinc 3 (-1), 3) := by decide +kernel
theorem dX10_most_141 : decode cX10_most 141 = .ok (.goto (-110), 3) := by decide +kernel
theorem dX10_most_144 : decode cX10_most 144 = .ok (.iinc 2 (-1), 3) := by decide +kernel
theorem dX10_most_147 : decode cX10_most 147 = .ok (.goto (-128), 3) := by decide +kernel
theorem dX10_most_150 : decode cX10_most 150 = .ok (.aload_n 1, 1) := by decide +kernel
theorem dX10_most_151 : decode cX10_most 151 = .ok (.iconst 0, 1) := by decide +kernel
theorem dX10_most_152 : decode cX10_most 152 = .ok (.iaload, 1) := by decide +kernel
theorem dX10_most_153 : decode cX10_most 153 = .ok (.ireturn, 1) := by decide +kernel
theorem dX10_changes_0 : decode cX10_changes 0 = .ok (.aload_n 0, 1) := by decide +kernel
theorem dX10_changes_1 : decode cX10_changes 1 = .ok (.iconst 0, 1) := by decide +kernel
theorem dX10_changes_2 : decode cX10_changes 2 = .ok (.putfield 1, 3) := by decide +kernel
theorem dX10_changes_5 : decode cX10_changes 5 = .ok (.aload_n 0, 1) := by decide +kernel
theorem dX10_changes_6 : decode cX10_changes 6 = .ok (.invokevirtual 148, 3) := by decide +kernel
theorem dX10_changes_9 : decode cX10_changes 9 = .ok (.iconst 0, 1) := by decide +kernel
theorem dX10_changes_10 : decode cX10_changes 10 = .ok (.istore_n 1, 1) := by decide +kernel
theorem dX10_changes_11 : decode cX10_changes 11 = .ok (.iconst 0, 1) := by decide +kernel
theorem dX10_changes_12 : decode cX10_changes 12 = .ok (.istore_n 2, 1) := by decide +kernel
theorem dX10_changes_13 : decode cX10_changes 13 = .ok (.iload_n 2, 1) := by decide +kernel
theorem dX10_changes_14 : decode cX10_changes 14 = .ok (.iconst 2, 1) := by decide +kernel
theorem dX10_changes_15 : decode cX10_changes 15 = .ok (.if_icmp .ge 86, 3) := by decide +kernel
theorem dX10_changes_18 : decode cX10_changes 18 = .ok (.iconst 0, 1) := by decide +kernel
theorem dX10_changes_19 : decode cX10_changes 19 = .ok (.istore_n 3, 1) := by decide +kernel
theorem dX10_changes_20 : decode cX10_changes 20 = .ok (.iload_n 3, 1) := by decide +kernel
theorem dX10_changes_21 : decode cX10_changes 21 = .ok (.aload_n 0, 1) := by decide +kernel
theorem dX10_changes_22 : decode cX10_changes 22 = .ok (.iload_n 2, 1) := by decide +kernel
theorem dX10_changes_23 : decode cX10_changes 23 = .ok (.invokevirtual 62, 3) := by decide +kernel
theorem dX10_changes_26 : decode cX10_changes 26 = .ok (.if_icmp .ge 69, 3) := by decide +kernel
theorem dX10_changes_29 : decode cX10_changes 29 = .ok (.aload_n 0, 1) := by decide +kernel
theorem dX10_changes_30 : decode cX10_changes 30 = .ok (.getfield 33, 3) := by decide +kernel
theorem dX10_changes_33 : decode cX10_changes 33 = .ok (.bipush 14, 2) := by decide +kernel
theorem dX10_changes_35 : decode cX10_changes 35 = .ok (.iload_n 2, 1) := by decide +kernel
theorem dX10_changes_36 : decode cX10_changes 36 = .ok (.imul, 1) := by decide +kernel
theorem dX10_changes_37 : decode cX10_changes 37 = .ok (.iload_n 3, 1) := by decide +kernel
theorem dX10_changes_38 : decode cX10_changes 38 = .ok (.iadd, 1) := by decide +kernel
theorem dX10_changes_39 : decode cX10_changes 39 = .ok (.iaload, 1) := by decide +kernel
theorem dX10_changes_40 : decode cX10_changes 40 = .ok (.istore 4, 2) := by decide +kernel
theorem dX10_changes_42 : decode cX10_changes 42 = .ok (.iload 4, 2) := by decide +kernel
theorem dX10_changes_44 : decode cX10_changes 44 = .ok (.iconst 3, 1) := by decide +kernel
theorem dX10_changes_45 : decode cX10_changes 45 = .ok (.if_icmp .eq 9, 3) := by decide +kernel
theorem dX10_changes_48 : decode cX10_changes 48 = .ok (.iload 4, 2) := by decide +kernel
theorem dX10_changes_50 : decode cX10_changes 50 = .ok (.iconst 2, 1) := by decide +kernel
theorem dX10_changes_51 : decode cX10_changes 51 = .ok (.if_icmp .ne 12, 3) := by decide +kernel
theorem dX10_changes_54 : decode cX10_changes 54 = .ok (.iload_n 1, 1) := by decide +kernel
theorem dX10_changes_55 : decode cX10_changes 55 = .ok (.aload_n 0, 1) := by decide +kernel
theorem dX10_changes_56 : decode cX10_changes 56 = .ok (.iload_n 2, 1) := by decide +kernel
theorem dX10_changes_57 : decode cX10_changes 57 = .ok (.iload_n 3, 1) := by decide +kernel
theorem dX10_changes_58 : decode cX10_changes 58 = .ok (.invokevirtual 99, 3) := by decide +kernel
theorem dX10_changes_61 : decode cX10_changes 61 = .ok (.iadd, 1) := by decide +kernel
theorem dX10_changes_62 : decode cX10_changes 62 = .ok (.istore_n 1, 1) := by decide +kernel
theorem dX10_changes_63 : decode cX10_changes 63 = .ok (.iload 4, 2) := by decide +kernel
theorem dX10_changes_65 : decode cX10_changes 65 = .ok (.iconst 2, 1) := by decide +kernel
theorem dX10_changes_66 : decode cX10_changes 66 = .ok (.if_icmp .ne 23, 3) := by decide +kernel
theorem dX10_changes_69 : decode cX10_changes 69 = .ok (.iload_n 2, 1) := by decide +kernel
theorem dX10_changes_70 : decode cX10_changes 70 = .ok (.ifCond .ne 19, 3) := by decide +kernel
theorem dX10_changes_73 : decode cX10_changes 73 = .ok (.iload_n 1, 1) := by decide +kernel
theorem dX10_changes_74 : decode cX10_changes 74 = .ok (.iconst 2, 1) := by decide +kernel
theorem dX10_changes_75 : decode cX10_changes 75 = .ok (.aload_n 0, 1) := by decide +kernel
theorem dX10_changes_76 : decode cX10_changes 76 = .ok (.iload_n 3, 1) := by decide +kernel
theorem dX10_changes_77 : decode cX10_changes 77 = .ok (.aload_n 0, 1) := by decide +kernel
theorem dX10_changes_78 : decode cX10_changes 78 = .ok (.getfield 36, 3) := by decide +kernel
theorem dX10_changes_81 : decode cX10_changes 81 = .ok (.iload_n 3, 1) := by decide +kernel
theorem dX10_changes_82 : decode cX10_changes 82 = .ok (.iaload, 1) := by decide +kernel
theorem dX10_changes_83 : decode cX10_changes 83 = .ok (.invokevirtual 139, 3) := by decide +kernel
theorem dX10_changes_86 : decode cX10_changes 86 = .ok (.imul, 1) := by decide +kernel
theorem dX10_changes_87 : decode cX10_changes 87 = .ok (.isub, 1) := by decide +kernel
theorem dX10_changes_88 : decode cX10_changes 88 = .ok (.istore_n 1, 1) := by decide +kernel
theorem dX10_changes_89 : decode cX10_changes 89 = .ok (.iinc 3 1, 3) := by decide +kernel
theorem dX10_changes_92 : decode cX10_changes 92 = .ok (.goto (-72), 3) := by decide +kernel
theorem dX10_changes_95 : decode cX10_changes 95 = .ok (.iinc 2 1, 3) := by decide +kernel
theorem dX10_changes_98 : decode cX10_changes 98 = .ok (.goto (-85), 3) := by decide +kernel
theorem dX10_changes_101 : decode cX10_changes 101 = .ok (.iload_n 1, 1) := by decide +kernel
theorem dX10_changes_102 : decode cX10_changes 102 = .ok (.ireturn, 1) := by decide +kernel
theorem dX10_anchors_0 : decode cX10_anchors 0 = .ok (.aload_n 0, 1) := by decide +kernel
theorem dX10_anchors_1 : decode cX10_anchors 1 = .ok (.iconst 0, 1) := by decide +kernel
theorem dX10_anchors_2 : decode cX10_anchors 2 = .ok (.putfield 1, 3) := by decide +kernel
theorem dX10_anchors_5 : decode cX10_anchors 5 = .ok (.aload_n 0, 1) := by decide +kernel
theorem dX10_anchors_6 : decode cX10_anchors 6 = .ok (.invokevirtual 148, 3) := by decide +kernel
theorem dX10_anchors_9 : decode cX10_anchors 9 = .ok (.iload_n 1, 1) := by decide +kernel
theorem dX10_anchors_10 : decode cX10_anchors 10 = .ok (.ifCond .ne 10, 3) := by decide +kernel
theorem dX10_anchors_13 : decode cX10_anchors 13 = .ok (.aload_n 0, 1) := by decide +kernel
theorem dX10_anchors_14 : decode cX10_anchors 14 = .ok (.getfield 120, 3) := by decide +kernel
theorem dX10_anchors_17 : decode cX10_anchors 17 = .ok (.goto 16, 3) := by decide +kernel
theorem dX10_anchors_20 : decode cX10_anchors 20 = .ok (.iload_n 1, 1) := by decide +kernel
theorem dX10_anchors_21 : decode cX10_anchors 21 = .ok (.iconst 1, 1) := by decide +kernel
theorem dX10_anchors_22 : decode cX10_anchors 22 = .ok (.if_icmp .ne 10, 3) := by decide +kernel
theorem dX10_anchors_25 : decode cX10_anchors 25 = .ok (.aload_n 0, 1) := by decide +kernel
theorem dX10_anchors_26 : decode cX10_anchors 26 = .ok (.getfield 123, 3) := by decide +kernel
theorem dX10_anchors_29 : decode cX10_anchors 29 = .ok (.goto 4, 3) := by decide +kernel
theorem dX10_anchors_32 : decode cX10_anchors 32 = .ok (.iconst (-1), 1) := by decide +kernel
theorem dX10_anchors_33 : decode cX10_anchors 33 = .ok (.ireturn, 1) := by decide +kernel
theorem dX10_copiesLine_0 : decode cX10_copiesLine 0 = .ok (.iconst 0, 1) := by decide +kernel
theorem dX10_copiesLine_1 : decode cX10_copiesLine 1 = .ok (.istore_n 3, 1) := by decide +kernel
theorem dX10_copiesLine_2 : decode cX10_copiesLine 2 = .ok (.iload_n 3, 1) := by decide +kernel
theorem dX10_copiesLine_3 : decode cX10_copiesLine 3 = .ok (.bipush 9, 2) := by decide +kernel
theorem dX10_copiesLine_5 : decode cX10_copiesLine 5 = .ok (.if_icmp .ge 25, 3) := by decide +kernel
theorem dX10_copiesLine_8 : decode cX10_copiesLine 8 = .ok (.aload_n 0, 1) := by decide +kernel
theorem dX10_copiesLine_9 : decode cX10_copiesLine 9 = .ok (.getfield 24, 3) := by decide +kernel
theorem dX10_copiesLine_12 : decode cX10_copiesLine 12 = .ok (.iload_n 1, 1) := by decide +kernel
theorem dX10_copiesLine_13 : decode cX10_copiesLine 13 = .ok (.iload_n 3, 1) := by decide +kernel
theorem dX10_copiesLine_14 : decode cX10_copiesLine 14 = .ok (.iadd, 1) := by decide +kernel
theorem dX10_copiesLine_15 : decode cX10_copiesLine 15 = .ok (.aload_n 0, 1) := by decide +kernel
theorem dX10_copiesLine_16 : decode cX10_copiesLine 16 = .ok (.getfield 24, 3) := by decide +kernel
theorem dX10_copiesLine_19 : decode cX10_copiesLine 19 = .ok (.iload_n 2, 1) := by decide +kernel
theorem dX10_copiesLine_20 : decode cX10_copiesLine 20 = .ok (.iload_n 3, 1) := by decide +kernel
theorem dX10_copiesLine_21 : decode cX10_copiesLine 21 = .ok (.iadd, 1) := by decide +kernel
theorem dX10_copiesLine_22 : decode cX10_copiesLine 22 = .ok (.iaload, 1) := by decide +kernel
theorem dX10_copiesLine_23 : decode cX10_copiesLine 23 = .ok (.iastore, 1) := by decide +kernel
theorem dX10_copiesLine_24 : decode cX10_copiesLine 24 = .ok (.iinc 3 1, 3) := by decide +kernel
theorem dX10_copiesLine_27 : decode cX10_copiesLine 27 = .ok (.goto (-25), 3) := by decide +kernel
theorem dX10_copiesLine_30 : decode cX10_copiesLine 30 = .ok (.return_, 1) := by decide +kernel
theorem dX10_would_0 : decode cX10_would 0 = .ok (.aload_n 0, 1) := by decide +kernel
theorem dX10_would_1 : decode cX10_would 1 = .ok (.iconst 0, 1) := by decide +kernel
theorem dX10_would_2 : decode cX10_would 2 = .ok (.putfield 1, 3) := by decide +kernel
theorem dX10_would_5 : decode cX10_would 5 = .ok (.aload_n 0, 1) := by decide +kernel
theorem dX10_would_6 : decode cX10_would 6 = .ok (.iload_n 1, 1) := by decide +kernel
theorem dX10_would_7 : decode cX10_would 7 = .ok (.iload_n 2, 1) := by decide +kernel
theorem dX10_would_8 : decode cX10_would 8 = .ok (.invokevirtual 154, 3) := by decide +kernel
theorem dX10_would_11 : decode cX10_would 11 = .ok (.ifCond .eq 14, 3) := by decide +kernel
theorem dX10_would_14 : decode cX10_would 14 = .ok (.aload_n 0, 1) := by decide +kernel
theorem dX10_would_15 : decode cX10_would 15 = .ok (.iconst 1, 1) := by decide +kernel
theorem dX10_would_16 : decode cX10_would 16 = .ok (.iload_n 1, 1) := by decide +kernel
theorem dX10_would_17 : decode cX10_would 17 = .ok (.isub, 1) := by decide +kernel
theorem dX10_would_18 : decode cX10_would 18 = .ok (.iload_n 3, 1) := by decide +kernel
theorem dX10_would_19 : decode cX10_would 19 = .ok (.invokevirtual 154, 3) := by decide +kernel
theorem dX10_would_22 : decode cX10_would 22 = .ok (.ifCond .ne 5, 3) := by decide +kernel
theorem dX10_would_25 : decode cX10_would 25 = .ok (.iconst (-1), 1) := by decide +kernel
theorem dX10_would_26 : decode cX10_would 26 = .ok (.ireturn, 1) := by decide +kernel
theorem dX10_would_27 : decode cX10_would 27 = .ok (.aload_n 0, 1) := by decide +kernel
theorem dX10_would_28 : decode cX10_would 28 = .ok (.invokevirtual 148, 3) := by decide +kernel
theorem dX10_would_31 : decode cX10_would 31 = .ok (.bipush 9, 2) := by decide +kernel
theorem dX10_would_33 : decode cX10_would 33 = .ok (.newarray .int, 2) := by decide +kernel
theorem dX10_would_35 : decode cX10_would 35 = .ok (.astore 4, 2) := by decide +kernel
theorem dX10_would_37 : decode cX10_would 37 = .ok (.iconst 0, 1) := by decide +kernel
theorem dX10_would_38 : decode cX10_would 38 = .ok (.istore 5, 2) := by decide +kernel
theorem dX10_would_40 : decode cX10_would 40 = .ok (.iload 5, 2) := by decide +kernel
theorem dX10_would_42 : decode cX10_would 42 = .ok (.bipush 28, 2) := by decide +kernel
theorem dX10_would_44 : decode cX10_would 44 = .ok (.if_icmp .ge 37, 3) := by decide +kernel
theorem dX10_would_47 : decode cX10_would 47 = .ok (.aload_n 0, 1) := by decide +kernel
theorem dX10_would_48 : decode cX10_would 48 = .ok (.getfield 42, 3) := by decide +kernel
theorem dX10_would_51 : decode cX10_would 51 = .ok (.iload 5, 2) := by decide +kernel
theorem dX10_would_53 : decode cX10_would 53 = .ok (.aload_n 0, 1) := by decide +kernel
theorem dX10_would_54 : decode cX10_would 54 = .ok (.getfield 33, 3) := by decide +kernel
theorem dX10_would_57 : decode cX10_would 57 = .ok (.iload 5, 2) := by decide +kernel
theorem dX10_would_59 : decode cX10_would 59 = .ok (.iaload, 1) := by decide +kernel
theorem dX10_would_60 : decode cX10_would 60 = .ok (.iastore, 1) := by decide +kernel
theorem dX10_would_61 : decode cX10_would 61 = .ok (.aload_n 0, 1) := by decide +kernel
theorem dX10_would_62 : decode cX10_would 62 = .ok (.getfield 45, 3) := by decide +kernel
theorem dX10_would_65 : decode cX10_would 65 = .ok (.iload 5, 2) := by decide +kernel
theorem dX10_would_67 : decode cX10_would 67 = .ok (.aload_n 0, 1) := by decide +kernel
theorem dX10_would_68 : decode cX10_would 68 = .ok (.getfield 36, 3) := by decide +kernel
theorem dX10_would_71 : decode cX10_would 71 = .ok (.iload 5, 2) := by decide +kernel
theorem dX10_would_73 : decode cX10_would 73 = .ok (.iaload, 1) := by decide +kernel
theorem dX10_would_74 : decode cX10_would 74 = .ok (.iastore, 1) := by decide +kernel
theorem dX10_would_75 : decode cX10_would 75 = .ok (.iinc 5 1, 3) := by decide +kernel
theorem dX10_would_78 : decode cX10_would 78 = .ok (.goto (-38), 3) := by decide +kernel
theorem dX10_would_81 : decode cX10_would 81 = .ok (.iconst 0, 1) := by decide +kernel
theorem dX10_would_82 : decode cX10_would 82 = .ok (.istore 5, 2) := by decide +kernel
theorem dX10_would_84 : decode cX10_would 84 = .ok (.iload 5, 2) := by decide +kernel
theorem dX10_would_86 : decode cX10_would 86 = .ok (.bipush 9, 2) := by decide +kernel
theorem dX10_would_88 : decode cX10_would 88 = .ok (.if_icmp .ge 27, 3) := by decide +kernel
theorem dX10_would_91 : decode cX10_would 91 = .ok (.aload 4, 2) := by decide +kernel
theorem dX10_would_93 : decode cX10_would 93 = .ok (.iload 5, 2) := by decide +kernel
theorem dX10_would_95 : decode cX10_would 95 = .ok (.aload_n 0, 1) := by decide +kernel
theorem dX10_would_96 : decode cX10_would 96 = .ok (.getfield 24, 3) := by decide +kernel
theorem dX10_would_99 : decode cX10_would 99 = .ok (.iload_n 1, 1) := by decide +kernel
theorem dX10_would_100 : decode cX10_would 100 = .ok (.iload_n 2, 1) := by decide +kernel
theorem dX10_would_101 : decode cX10_would 101 = .ok (.invokestatic 95, 3) := by decide +kernel
theorem dX10_would_104 : decode cX10_would 104 = .ok (.iload 5, 2) := by decide +kernel
theorem dX10_would_106 : decode cX10_would 106 = .ok (.iadd, 1) := by decide +kernel
theorem dX10_would_107 : decode cX10_would 107 = .ok (.iaload, 1) := by decide +kernel
theorem dX10_would_108 : decode cX10_would 108 = .ok (.iastore, 1) := by decide +kernel
theorem dX10_would_109 : decode cX10_would 109 = .ok (.iinc 5 1, 3) := by decide +kernel
theorem dX10_would_112 : decode cX10_would 112 = .ok (.goto (-28), 3) := by decide +kernel
theorem dX10_would_115 : decode cX10_would 115 = .ok (.aload_n 0, 1) := by decide +kernel
theorem dX10_would_116 : decode cX10_would 116 = .ok (.iload_n 1, 1) := by decide +kernel
theorem dX10_would_117 : decode cX10_would 117 = .ok (.iload_n 2, 1) := by decide +kernel
theorem dX10_would_118 : decode cX10_would 118 = .ok (.invokestatic 95, 3) := by decide +kernel
theorem dX10_would_121 : decode cX10_would 121 = .ok (.iconst 1, 1) := by decide +kernel
theorem dX10_would_122 : decode cX10_would 122 = .ok (.iload_n 1, 1) := by decide +kernel
theorem dX10_would_123 : decode cX10_would 123 = .ok (.isub, 1) := by decide +kernel
theorem dX10_would_124 : decode cX10_would 124 = .ok (.iload_n 3, 1) := by decide +kernel
theorem dX10_would_125 : decode cX10_would 125 = .ok (.invokestatic 95, 3) := by decide +kernel
theorem dX10_would_128 : decode cX10_would 128 = .ok (.invokevirtual 167, 3) := by decide +kernel
theorem dX10_would_131 : decode cX10_would 131 = .ok (.aload_n 0, 1) := by decide +kernel
theorem dX10_would_132 : decode cX10_would 132 = .ok (.invokevirtual 148, 3) := by decide +kernel
theorem dX10_would_135 : decode cX10_would 135 = .ok (.iconst 0, 1) := by decide +kernel
theorem dX10_would_136 : decode cX10_would 136 = .ok (.istore 5, 2) := by decide +kernel
theorem dX10_would_138 : decode cX10_would 138 = .ok (.iload 5, 2) := by decide +kernel
theorem dX10_would_140 : decode cX10_would 140 = .ok (.bipush 9, 2) := by decide +kernel
theorem dX10_would_142 : decode cX10_would 142 = .ok (.if_icmp .ge 27, 3) := by decide +kernel
theorem dX10_would_145 : decode cX10_would 145 = .ok (.aload_n 0, 1) := by decide +kernel
theorem dX10_would_146 : decode cX10_would 146 = .ok (.getfield 24, 3) := by decide +kernel
theorem dX10_would_149 : decode cX10_would 149 = .ok (.iload_n 1, 1) := by decide +kernel
theorem dX10_would_150 : decode cX10_would 150 = .ok (.iload_n 2, 1) := by decide +kernel
theorem dX10_would_151 : decode cX10_would 151 = .ok (.invokestatic 95, 3) := by decide +kernel
theorem dX10_would_154 : decode cX10_would 154 = .ok (.iload 5, 2) := by decide +kernel
theorem dX10_would_156 : decode cX10_would 156 = .ok (.iadd, 1) := by decide +kernel
theorem dX10_would_157 : decode cX10_would 157 = .ok (.aload 4, 2) := by decide +kernel
theorem dX10_would_159 : decode cX10_would 159 = .ok (.iload 5, 2) := by decide +kernel
theorem dX10_would_161 : decode cX10_would 161 = .ok (.iaload, 1) := by decide +kernel
theorem dX10_would_162 : decode cX10_would 162 = .ok (.iastore, 1) := by decide +kernel
theorem dX10_would_163 : decode cX10_would 163 = .ok (.iinc 5 1, 3) := by decide +kernel
theorem dX10_would_166 : decode cX10_would 166 = .ok (.goto (-28), 3) := by decide +kernel
theorem dX10_would_169 : decode cX10_would 169 = .ok (.iconst 0, 1) := by decide +kernel
theorem dX10_would_170 : decode cX10_would 170 = .ok (.istore 5, 2) := by decide +kernel
theorem dX10_would_172 : decode cX10_would 172 = .ok (.iconst 0, 1) := by decide +kernel
theorem dX10_would_173 : decode cX10_would 173 = .ok (.istore 6, 2) := by decide +kernel
theorem dX10_would_175 : decode cX10_would 175 = .ok (.iload 6, 2) := by decide +kernel
theorem dX10_would_177 : decode cX10_would 177 = .ok (.bipush 28, 2) := by decide +kernel
theorem dX10_would_179 : decode cX10_would 179 = .ok (.if_icmp .ge 46, 3) := by decide +kernel
theorem dX10_would_182 : decode cX10_would 182 = .ok (.aload_n 0, 1) := by decide +kernel
theorem dX10_would_183 : decode cX10_would 183 = .ok (.getfield 42, 3) := by decide +kernel
theorem dX10_would_186 : decode cX10_would 186 = .ok (.iload 6, 2) := by decide +kernel
theorem dX10_would_188 : decode cX10_would 188 = .ok (.iaload, 1) := by decide +kernel
theorem dX10_would_189 : decode cX10_would 189 = .ok (.aload_n 0, 1) := by decide +kernel
theorem dX10_would_190 : decode cX10_would 190 = .ok (.getfield 33, 3) := by decide +kernel
theorem dX10_would_193 : decode cX10_would 193 = .ok (.iload 6, 2) := by decide +kernel
theorem dX10_would_195 : decode cX10_would 195 = .ok (.iaload, 1) := by decide +kernel
theorem dX10_would_196 : decode cX10_would 196 = .ok (.if_icmp .ne 20, 3) := by decide +kernel
theorem dX10_would_199 : decode cX10_would 199 = .ok (.aload_n 0, 1) := by decide +kernel
theorem dX10_would_200 : decode cX10_would 200 = .ok (.getfield 45, 3) := by decide +kernel
theorem dX10_would_203 : decode cX10_would 203 = .ok (.iload 6, 2) := by decide +kernel
theorem dX10_would_205 : decode cX10_would 205 = .ok (.iaload, 1) := by decide +kernel
theorem dX10_would_206 : decode cX10_would 206 = .ok (.aload_n 0, 1) := by decide +kernel
theorem dX10_would_207 : decode cX10_would 207 = .ok (.getfield 36, 3) := by decide +kernel
theorem dX10_would_210 : decode cX10_would 210 = .ok (.iload 6, 2) := by decide +kernel
theorem dX10_would_212 : decode cX10_would 212 = .ok (.iaload, 1) := by decide +kernel
theorem dX10_would_213 : decode cX10_would 213 = .ok (.if_icmp .eq 6, 3) := by decide +kernel
theorem dX10_would_216 : decode cX10_would 216 = .ok (.iinc 5 1, 3) := by decide +kernel
theorem dX10_would_219 : decode cX10_would 219 = .ok (.iinc 6 1, 3) := by decide +kernel
theorem dX10_would_222 : decode cX10_would 222 = .ok (.goto (-47), 3) := by decide +kernel
theorem dX10_would_225 : decode cX10_would 225 = .ok (.iload 5, 2) := by decide +kernel
theorem dX10_would_227 : decode cX10_would 227 = .ok (.ireturn, 1) := by decide +kernel
theorem dX10_snap_0 : decode cX10_snap 0 = .ok (.aload_n 0, 1) := by decide +kernel
theorem dX10_snap_1 : decode cX10_snap 1 = .ok (.getfield 92, 3) := by decide +kernel
theorem dX10_snap_4 : decode cX10_snap 4 = .ok (.bipush 10, 2) := by decide +kernel
theorem dX10_snap_6 : decode cX10_snap 6 = .ok (.if_icmp .ne 44, 3) := by decide +kernel
theorem dX10_snap_9 : decode cX10_snap 9 = .ok (.iconst 0, 1) := by decide +kernel
theorem dX10_snap_10 : decode cX10_snap 10 = .ok (.istore_n 1, 1) := by decide +kernel
theorem dX10_snap_11 : decode cX10_snap 11 = .ok (.iload_n 1, 1) := by decide +kernel
theorem dX10_snap_12 : decode cX10_snap 12 = .ok (.sipush 2286, 3) := by decide +kernel
theorem dX10_snap_15 : decode cX10_snap 15 = .ok (.if_icmp .ge 25, 3) := by decide +kernel
theorem dX10_snap_18 : decode cX10_snap 18 = .ok (.aload_n 0, 1) := by decide +kernel
theorem dX10_snap_19 : decode cX10_snap 19 = .ok (.getfield 30, 3) := by decide +kernel
theorem dX10_snap_22 : decode cX10_snap 22 = .ok (.iload_n 1, 1) := by decide +kernel
theorem dX10_snap_23 : decode cX10_snap 23 = .ok (.aload_n 0, 1) := by decide +kernel
theorem dX10_snap_24 : decode cX10_snap 24 = .ok (.getfield 30, 3) := by decide +kernel
theorem dX10_snap_27 : decode cX10_snap 27 = .ok (.iload_n 1, 1) := by decide +kernel
theorem dX10_snap_28 : decode cX10_snap 28 = .ok (.sipush 254, 3) := by decide +kernel
theorem dX10_snap_31 : decode cX10_snap 31 = .ok (.iadd, 1) := by decide +kernel
theorem dX10_snap_32 : decode cX10_snap 32 = .ok (.iaload, 1) := by decide +kernel
theorem dX10_snap_33 : decode cX10_snap 33 = .ok (.iastore, 1) := by decide +kernel
theorem dX10_snap_34 : decode cX10_snap 34 = .ok (.iinc 1 1, 3) := by decide +kernel
theorem dX10_snap_37 : decode cX10_snap 37 = .ok (.goto (-26), 3) := by decide +kernel
theorem dX10_snap_40 : decode cX10_snap 40 = .ok (.aload_n 0, 1) := by decide +kernel
theorem dX10_snap_41 : decode cX10_snap 41 = .ok (.dup, 1) := by decide +kernel
theorem dX10_snap_42 : decode cX10_snap 42 = .ok (.getfield 92, 3) := by decide +kernel
theorem dX10_snap_45 : decode cX10_snap 45 = .ok (.iconst 1, 1) := by decide +kernel
theorem dX10_snap_46 : decode cX10_snap 46 = .ok (.isub, 1) := by decide +kernel
theorem dX10_snap_47 : decode cX10_snap 47 = .ok (.putfield 92, 3) := by decide +kernel
theorem dX10_snap_50 : decode cX10_snap 50 = .ok (.iconst 0, 1) := by decide +kernel
theorem dX10_snap_51 : decode cX10_snap 51 = .ok (.istore_n 1, 1) := by decide +kernel
theorem dX10_snap_52 : decode cX10_snap 52 = .ok (.iload_n 1, 1) := by decide +kernel
theorem dX10_snap_53 : decode cX10_snap 53 = .ok (.sipush 254, 3) := by decide +kernel
theorem dX10_snap_56 : decode cX10_snap 56 = .ok (.if_icmp .ge 30, 3) := by decide +kernel
theorem dX10_snap_59 : decode cX10_snap 59 = .ok (.aload_n 0, 1) := by decide +kernel
theorem dX10_snap_60 : decode cX10_snap 60 = .ok (.getfield 30, 3) := by decide +kernel
theorem dX10_snap_63 : decode cX10_snap 63 = .ok (.sipush 254, 3) := by decide +kernel
theorem dX10_snap_66 : decode cX10_snap 66 = .ok (.aload_n 0, 1) := by decide +kernel
theorem dX10_snap_67 : decode cX10_snap 67 = .ok (.getfield 92, 3) := by decide +kernel
theorem dX10_snap_70 : decode cX10_snap 70 = .ok (.imul, 1) := by decide +kernel
theorem dX10_snap_71 : decode cX10_snap 71 = .ok (.iload_n 1, 1) := by decide +kernel
theorem dX10_snap_72 : decode cX10_snap 72 = .ok (.iadd, 1) := by decide +kernel
theorem dX10_snap_73 : decode cX10_snap 73 = .ok (.aload_n 0, 1) := by decide +kernel
theorem dX10_snap_74 : decode cX10_snap 74 = .ok (.getfield 24, 3) := by decide +kernel
theorem dX10_snap_77 : decode cX10_snap 77 = .ok (.iload_n 1, 1) := by decide +kernel
theorem dX10_snap_78 : decode cX10_snap 78 = .ok (.iaload, 1) := by decide +kernel
theorem dX10_snap_79 : decode cX10_snap 79 = .ok (.iastore, 1) := by decide +kernel
theorem dX10_snap_80 : decode cX10_snap 80 = .ok (.iinc 1 1, 3) := by decide +kernel
theorem dX10_snap_83 : decode cX10_snap 83 = .ok (.goto (-31), 3) := by decide +kernel
theorem dX10_snap_86 : decode cX10_snap 86 = .ok (.aload_n 0, 1) := by decide +kernel
theorem dX10_snap_87 : decode cX10_snap 87 = .ok (.dup, 1) := by decide +kernel
theorem dX10_snap_88 : decode cX10_snap 88 = .ok (.getfield 92, 3) := by decide +kernel
theorem dX10_snap_91 : decode cX10_snap 91 = .ok (.iconst 1, 1) := by decide +kernel
theorem dX10_snap_92 : decode cX10_snap 92 = .ok (.iadd, 1) := by decide +kernel
theorem dX10_snap_93 : decode cX10_snap 93 = .ok (.putfield 92, 3) := by decide +kernel
theorem dX10_snap_96 : decode cX10_snap 96 = .ok (.return_, 1) := by decide +kernel
theorem dX10_opens_0 : decode cX10_opens 0 = .ok (.aload_n 0, 1) := by decide +kernel
theorem dX10_opens_1 : decode cX10_opens 1 = .ok (.iload_n 1, 1) := by decide +kernel
theorem dX10_opens_2 : decode cX10_opens 2 = .ok (.invokevirtual 62, 3) := by decide +kernel
theorem dX10_opens_5 : decode cX10_opens 5 = .ok (.istore_n 3, 1) := by decide +kernel
theorem dX10_opens_6 : decode cX10_opens 6 = .ok (.iload_n 3, 1) := by decide +kernel
theorem dX10_opens_7 : decode cX10_opens 7 = .ok (.iload_n 2, 1) := by decide +kernel
theorem dX10_opens_8 : decode cX10_opens 8 = .ok (.if_icmp .le 25, 3) := by decide +kernel
theorem dX10_opens_11 : decode cX10_opens 11 = .ok (.aload_n 0, 1) := by decide +kernel
theorem dX10_opens_12 : decode cX10_opens 12 = .ok (.iload_n 1, 1) := by decide +kernel
theorem dX10_opens_13 : decode cX10_opens 13 = .ok (.iload_n 3, 1) := by decide +kernel
theorem dX10_opens_14 : decode cX10_opens 14 = .ok (.invokestatic 95, 3) := by decide +kernel
theorem dX10_opens_17 : decode cX10_opens 17 = .ok (.iload_n 1, 1) := by decide +kernel
theorem dX10_opens_18 : decode cX10_opens 18 = .ok (.iload_n 3, 1) := by decide +kernel
theorem dX10_opens_19 : decode cX10_opens 19 = .ok (.iconst 1, 1) := by decide +kernel
theorem dX10_opens_20 : decode cX10_opens 20 = .ok (.isub, 1) := by decide +kernel
theorem dX10_opens_21 : decode cX10_opens 21 = .ok (.invokestatic 95, 3) := by decide +kernel
theorem dX10_opens_24 : decode cX10_opens 24 = .ok (.invokevirtual 167, 3) := by decide +kernel
theorem dX10_opens_27 : decode cX10_opens 27 = .ok (.iinc 3 (-1), 3) := by decide +kernel
theorem dX10_opens_30 : decode cX10_opens 30 = .ok (.goto (-24), 3) := by decide +kernel
theorem dX10_opens_33 : decode cX10_opens 33 = .ok (.aload_n 0, 1) := by decide +kernel
theorem dX10_opens_34 : decode cX10_opens 34 = .ok (.getfield 24, 3) := by decide +kernel
theorem dX10_opens_37 : decode cX10_opens 37 = .ok (.bipush 127, 2) := by decide +kernel
theorem dX10_opens_39 : decode cX10_opens 39 = .ok (.iload_n 1, 1) := by decide +kernel
theorem dX10_opens_40 : decode cX10_opens 40 = .ok (.imul, 1) := by decide +kernel
theorem dX10_opens_41 : decode cX10_opens 41 = .ok (.dup2, 1) := by decide +kernel
theorem dX10_opens_42 : decode cX10_opens 42 = .ok (.iaload, 1) := by decide +kernel
theorem dX10_opens_43 : decode cX10_opens 43 = .ok (.iconst 1, 1) := by decide +kernel
theorem dX10_opens_44 : decode cX10_opens 44 = .ok (.iadd, 1) := by decide +kernel
theorem dX10_opens_45 : decode cX10_opens 45 = .ok (.iastore, 1) := by decide +kernel
theorem dX10_opens_46 : decode cX10_opens 46 = .ok (.return_, 1) := by decide +kernel
theorem dX10_closes_0 : decode cX10_closes 0 = .ok (.iload_n 2, 1) := by decide +kernel
theorem dX10_closes_1 : decode cX10_closes 1 = .ok (.istore_n 3, 1) := by decide +kernel
theorem dX10_closes_2 : decode cX10_closes 2 = .ok (.iload_n 3, 1) := by decide +kernel
theorem dX10_closes_3 : decode cX10_closes 3 = .ok (.iconst 1, 1) := by decide +kernel
theorem dX10_closes_4 : decode cX10_closes 4 = .ok (.iadd, 1) := by decide +kernel
theorem dX10_closes_5 : decode cX10_closes 5 = .ok (.aload_n 0, 1) := by decide +kernel
theorem dX10_closes_6 : decode cX10_closes 6 = .ok (.iload_n 1, 1) := by decide +kernel
theorem dX10_closes_7 : decode cX10_closes 7 = .ok (.invokevirtual 62, 3) := by decide +kernel
theorem dX10_closes_10 : decode cX10_closes 10 = .ok (.if_icmp .ge 25, 3) := by decide +kernel
theorem dX10_closes_13 : decode cX10_closes 13 = .ok (.aload_n 0, 1) := by decide +kernel
theorem dX10_closes_14 : decode cX10_closes 14 = .ok (.iload_n 1, 1) := by decide +kernel
theorem dX10_closes_15 : decode cX10_closes 15 = .ok (.iload_n 3, 1) := by decide +kernel
theorem dX10_closes_16 : decode cX10_closes 16 = .ok (.invokestatic 95, 3) := by decide +kernel
theorem dX10_closes_19 : decode cX10_closes 19 = .ok (.iload_n 1, 1) := by decide +kernel
theorem dX10_closes_20 : decode cX10_closes 20 = .ok (.iload_n 3, 1) := by decide +kernel
theorem dX10_closes_21 : decode cX10_closes 21 = .ok (.iconst 1, 1) := by decide +kernel
theorem dX10_closes_22 : decode cX10_closes 22 = .ok (.iadd, 1) := by decide +kernel
theorem dX10_closes_23 : decode cX10_closes 23 = .ok (.invokestatic 95, 3) := by decide +kernel
theorem dX10_closes_26 : decode cX10_closes 26 = .ok (.invokevirtual 167, 3) := by decide +kernel
theorem dX10_closes_29 : decode cX10_closes 29 = .ok (.iinc 3 1, 3) := by decide +kernel
theorem dX10_closes_32 : decode cX10_closes 32 = .ok (.goto (-30), 3) := by decide +kernel
theorem dX10_closes_35 : decode cX10_closes 35 = .ok (.aload_n 0, 1) := by decide +kernel
theorem dX10_closes_36 : decode cX10_closes 36 = .ok (.getfield 24, 3) := by decide +kernel
theorem dX10_closes_39 : decode cX10_closes 39 = .ok (.bipush 127, 2) := by decide +kernel
theorem dX10_closes_41 : decode cX10_closes 41 = .ok (.iload_n 1, 1) := by decide +kernel
theorem dX10_closes_42 : decode cX10_closes 42 = .ok (.imul, 1) := by decide +kernel
theorem dX10_closes_43 : decode cX10_closes 43 = .ok (.dup2, 1) := by decide +kernel
theorem dX10_closes_44 : decode cX10_closes 44 = .ok (.iaload, 1) := by decide +kernel
