theorem dX0_init_0 : decode cX0_init 0 = .ok (.aload_n 0, 1) := by decide +kernel
theorem dX0_init_1 : decode cX0_init 1 = .ok (.invokespecial 3, 3) := by decide +kernel
theorem dX0_init_4 : decode cX0_init 4 = .ok (.aload_n 0, 1) := by decide +kernel
theorem dX0_init_5 : decode cX0_init 5 = .ok (.bipush 14, 2) := by decide +kernel
theorem dX0_init_7 : decode cX0_init 7 = .ok (.newarray .int, 2) := by decide +kernel
theorem dX0_init_9 : decode cX0_init 9 = .ok (.putfield 9, 3) := by decide +kernel
theorem dX0_init_12 : decode cX0_init 12 = .ok (.aload_n 0, 1) := by decide +kernel
theorem dX0_init_13 : decode cX0_init 13 = .ok (.bipush 14, 2) := by decide +kernel
theorem dX0_init_15 : decode cX0_init 15 = .ok (.newarray .int, 2) := by decide +kernel
theorem dX0_init_17 : decode cX0_init 17 = .ok (.putfield 15, 3) := by decide +kernel
theorem dX0_init_20 : decode cX0_init 20 = .ok (.aload_n 0, 1) := by decide +kernel
theorem dX0_init_21 : decode cX0_init 21 = .ok (.sipush 225, 3) := by decide +kernel
theorem dX0_init_24 : decode cX0_init 24 = .ok (.newarray .int, 2) := by decide +kernel
theorem dX0_init_26 : decode cX0_init 26 = .ok (.putfield 18, 3) := by decide +kernel
theorem dX0_init_29 : decode cX0_init 29 = .ok (.aload_n 0, 1) := by decide +kernel
theorem dX0_init_30 : decode cX0_init 30 = .ok (.iconst 0, 1) := by decide +kernel
theorem dX0_init_31 : decode cX0_init 31 = .ok (.putfield 21, 3) := by decide +kernel
theorem dX0_init_34 : decode cX0_init 34 = .ok (.aload_n 0, 1) := by decide +kernel
theorem dX0_init_35 : decode cX0_init 35 = .ok (.iconst 0, 1) := by decide +kernel
theorem dX0_init_36 : decode cX0_init 36 = .ok (.putfield 25, 3) := by decide +kernel
theorem dX0_init_39 : decode cX0_init 39 = .ok (.return_, 1) := by decide +kernel
theorem dX0_setFirst_0 : decode cX0_setFirst 0 = .ok (.aload_n 0, 1) := by decide +kernel
theorem dX0_setFirst_1 : decode cX0_setFirst 1 = .ok (.aload_n 1, 1) := by decide +kernel
theorem dX0_setFirst_2 : decode cX0_setFirst 2 = .ok (.iload_n 2, 1) := by decide +kernel
theorem dX0_setFirst_3 : decode cX0_setFirst 3 = .ok (.iload_n 3, 1) := by decide +kernel
theorem dX0_setFirst_4 : decode cX0_setFirst 4 = .ok (.aload_n 0, 1) := by decide +kernel
theorem dX0_setFirst_5 : decode cX0_setFirst 5 = .ok (.getfield 9, 3) := by decide +kernel
theorem dX0_setFirst_8 : decode cX0_setFirst 8 = .ok (.invokestatic 28, 3) := by decide +kernel
theorem dX0_setFirst_11 : decode cX0_setFirst 11 = .ok (.putfield 21, 3) := by decide +kernel
theorem dX0_setFirst_14 : decode cX0_setFirst 14 = .ok (.return_, 1) := by decide +kernel
theorem dX0_setSecond_0 : decode cX0_setSecond 0 = .ok (.aload_n 0, 1) := by decide +kernel
theorem dX0_setSecond_1 : decode cX0_setSecond 1 = .ok (.aload_n 1, 1) := by decide +kernel
theorem dX0_setSecond_2 : decode cX0_setSecond 2 = .ok (.iload_n 2, 1) := by decide +kernel
theorem dX0_setSecond_3 : decode cX0_setSecond 3 = .ok (.iload_n 3, 1) := by decide +kernel
theorem dX0_setSecond_4 : decode cX0_setSecond 4 = .ok (.aload_n 0, 1) := by decide +kernel
theorem dX0_setSecond_5 : decode cX0_setSecond 5 = .ok (.getfield 15, 3) := by decide +kernel
theorem dX0_setSecond_8 : decode cX0_setSecond 8 = .ok (.invokestatic 28, 3) := by decide +kernel
theorem dX0_setSecond_11 : decode cX0_setSecond 11 = .ok (.putfield 25, 3) := by decide +kernel
theorem dX0_setSecond_14 : decode cX0_setSecond 14 = .ok (.return_, 1) := by decide +kernel
theorem dX0_copyRow_0 : decode cX0_copyRow 0 = .ok (.iload_n 1, 1) := by decide +kernel
theorem dX0_copyRow_1 : decode cX0_copyRow 1 = .ok (.ifCond .lt 21, 3) := by decide +kernel
theorem dX0_copyRow_4 : decode cX0_copyRow 4 = .ok (.iload_n 2, 1) := by decide +kernel
theorem dX0_copyRow_5 : decode cX0_copyRow 5 = .ok (.ifCond .lt 17, 3) := by decide +kernel
theorem dX0_copyRow_8 : decode cX0_copyRow 8 = .ok (.iload_n 2, 1) := by decide +kernel
theorem dX0_copyRow_9 : decode cX0_copyRow 9 = .ok (.aload_n 3, 1) := by decide +kernel
theorem dX0_copyRow_10 : decode cX0_copyRow 10 = .ok (.arraylength, 1) := by decide +kernel
theorem dX0_copyRow_11 : decode cX0_copyRow 11 = .ok (.if_icmp .gt 11, 3) := by decide +kernel
theorem dX0_copyRow_14 : decode cX0_copyRow 14 = .ok (.iload_n 1, 1) := by decide +kernel
theorem dX0_copyRow_15 : decode cX0_copyRow 15 = .ok (.aload_n 0, 1) := by decide +kernel
theorem dX0_copyRow_16 : decode cX0_copyRow 16 = .ok (.arraylength, 1) := by decide +kernel
theorem dX0_copyRow_17 : decode cX0_copyRow 17 = .ok (.iload_n 2, 1) := by decide +kernel
theorem dX0_copyRow_18 : decode cX0_copyRow 18 = .ok (.isub, 1) := by decide +kernel
theorem dX0_copyRow_19 : decode cX0_copyRow 19 = .ok (.if_icmp .le 5, 3) := by decide +kernel
theorem dX0_copyRow_22 : decode cX0_copyRow 22 = .ok (.iconst 0, 1) := by decide +kernel
theorem dX0_copyRow_23 : decode cX0_copyRow 23 = .ok (.ireturn, 1) := by decide +kernel
theorem dX0_copyRow_24 : decode cX0_copyRow 24 = .ok (.aload_n 0, 1) := by decide +kernel
theorem dX0_copyRow_25 : decode cX0_copyRow 25 = .ok (.iload_n 1, 1) := by decide +kernel
theorem dX0_copyRow_26 : decode cX0_copyRow 26 = .ok (.aload_n 3, 1) := by decide +kernel
theorem dX0_copyRow_27 : decode cX0_copyRow 27 = .ok (.iconst 0, 1) := by decide +kernel
theorem dX0_copyRow_28 : decode cX0_copyRow 28 = .ok (.iload_n 2, 1) := by decide +kernel
theorem dX0_copyRow_29 : decode cX0_copyRow 29 = .ok (.invokestatic 32, 3) := by decide +kernel
theorem dX0_copyRow_32 : decode cX0_copyRow 32 = .ok (.iload_n 2, 1) := by decide +kernel
theorem dX0_copyRow_33 : decode cX0_copyRow 33 = .ok (.ireturn, 1) := by decide +kernel
theorem dX0_measure_0 : decode cX0_measure 0 = .ok (.iconst 0, 1) := by decide +kernel
theorem dX0_measure_1 : decode cX0_measure 1 = .ok (.istore_n 1, 1) := by decide +kernel
theorem dX0_measure_2 : decode cX0_measure 2 = .ok (.iload_n 1, 1) := by decide +kernel
theorem dX0_measure_3 : decode cX0_measure 3 = .ok (.aload_n 0, 1) := by decide +kernel
theorem dX0_measure_4 : decode cX0_measure 4 = .ok (.getfield 25, 3) := by decide +kernel
theorem dX0_measure_7 : decode cX0_measure 7 = .ok (.if_icmp .gt 24, 3) := by decide +kernel
theorem dX0_measure_10 : decode cX0_measure 10 = .ok (.aload_n 0, 1) := by decide +kernel
theorem dX0_measure_11 : decode cX0_measure 11 = .ok (.getfield 18, 3) := by decide +kernel
theorem dX0_measure_14 : decode cX0_measure 14 = .ok (.aload_n 0, 1) := by decide +kernel
theorem dX0_measure_15 : decode cX0_measure 15 = .ok (.getfield 21, 3) := by decide +kernel
theorem dX0_measure_18 : decode cX0_measure 18 = .ok (.bipush 15, 2) := by decide +kernel
theorem dX0_measure_20 : decode cX0_measure 20 = .ok (.imul, 1) := by decide +kernel
theorem dX0_measure_21 : decode cX0_measure 21 = .ok (.iload_n 1, 1) := by decide +kernel
theorem dX0_measure_22 : decode cX0_measure 22 = .ok (.iadd, 1) := by decide +kernel
theorem dX0_measure_23 : decode cX0_measure 23 = .ok (.iconst 0, 1) := by decide +kernel
theorem dX0_measure_24 : decode cX0_measure 24 = .ok (.iastore, 1) := by decide +kernel
theorem dX0_measure_25 : decode cX0_measure 25 = .ok (.iinc 1 1, 3) := by decide +kernel
theorem dX0_measure_28 : decode cX0_measure 28 = .ok (.goto (-26), 3) := by decide +kernel
theorem dX0_measure_31 : decode cX0_measure 31 = .ok (.aload_n 0, 1) := by decide +kernel
theorem dX0_measure_32 : decode cX0_measure 32 = .ok (.getfield 21, 3) := by decide +kernel
theorem dX0_measure_35 : decode cX0_measure 35 = .ok (.iconst 1, 1) := by decide +kernel
theorem dX0_measure_36 : decode cX0_measure 36 = .ok (.isub, 1) := by decide +kernel
theorem dX0_measure_37 : decode cX0_measure 37 = .ok (.istore_n 1, 1) := by decide +kernel
theorem dX0_measure_38 : decode cX0_measure 38 = .ok (.iload_n 1, 1) := by decide +kernel
theorem dX0_measure_39 : decode cX0_measure 39 = .ok (.ifCond .lt 129, 3) := by decide +kernel
theorem dX0_measure_42 : decode cX0_measure 42 = .ok (.aload_n 0, 1) := by decide +kernel
theorem dX0_measure_43 : decode cX0_measure 43 = .ok (.getfield 9, 3) := by decide +kernel
theorem dX0_measure_46 : decode cX0_measure 46 = .ok (.iload_n 1, 1) := by decide +kernel
theorem dX0_measure_47 : decode cX0_measure 47 = .ok (.iaload, 1) := by decide +kernel
theorem dX0_measure_48 : decode cX0_measure 48 = .ok (.istore_n 2, 1) := by decide +kernel
theorem dX0_measure_49 : decode cX0_measure 49 = .ok (.iload_n 1, 1) := by decide +kernel
theorem dX0_measure_50 : decode cX0_measure 50 = .ok (.bipush 15, 2) := by decide +kernel
theorem dX0_measure_52 : decode cX0_measure 52 = .ok (.imul, 1) := by decide +kernel
theorem dX0_measure_53 : decode cX0_measure 53 = .ok (.istore_n 3, 1) := by decide +kernel
theorem dX0_measure_54 : decode cX0_measure 54 = .ok (.iload_n 3, 1) := by decide +kernel
theorem dX0_measure_55 : decode cX0_measure 55 = .ok (.bipush 15, 2) := by decide +kernel
theorem dX0_measure_57 : decode cX0_measure 57 = .ok (.iadd, 1) := by decide +kernel
theorem dX0_measure_58 : decode cX0_measure 58 = .ok (.istore 4, 2) := by decide +kernel
theorem dX0_measure_60 : decode cX0_measure 60 = .ok (.iconst 0, 1) := by decide +kernel
theorem dX0_measure_61 : decode cX0_measure 61 = .ok (.istore 5, 2) := by decide +kernel
theorem dX0_measure_63 : decode cX0_measure 63 = .ok (.aload_n 0, 1) := by decide +kernel
theorem dX0_measure_64 : decode cX0_measure 64 = .ok (.getfield 18, 3) := by decide +kernel
theorem dX0_measure_67 : decode cX0_measure 67 = .ok (.iload_n 3, 1) := by decide +kernel
theorem dX0_measure_68 : decode cX0_measure 68 = .ok (.aload_n 0, 1) := by decide +kernel
theorem dX0_measure_69 : decode cX0_measure 69 = .ok (.getfield 25, 3) := by decide +kernel
theorem dX0_measure_72 : decode cX0_measure 72 = .ok (.iadd, 1) := by decide +kernel
theorem dX0_measure_73 : decode cX0_measure 73 = .ok (.iconst 0, 1) := by decide +kernel
theorem dX0_measure_74 : decode cX0_measure 74 = .ok (.iastore, 1) := by decide +kernel
theorem dX0_measure_75 : decode cX0_measure 75 = .ok (.aload_n 0, 1) := by decide +kernel
theorem dX0_measure_76 : decode cX0_measure 76 = .ok (.getfield 25, 3) := by decide +kernel
theorem dX0_measure_79 : decode cX0_measure 79 = .ok (.iconst 1, 1) := by decide +kernel
theorem dX0_measure_80 : decode cX0_measure 80 = .ok (.isub, 1) := by decide +kernel
theorem dX0_measure_81 : decode cX0_measure 81 = .ok (.istore 6, 2) := by decide +kernel
theorem dX0_measure_83 : decode cX0_measure 83 = .ok (.iload 6, 2) := by decide +kernel
theorem dX0_measure_85 : decode cX0_measure 85 = .ok (.ifCond .lt 77, 3) := by decide +kernel
theorem dX0_measure_88 : decode cX0_measure 88 = .ok (.iload_n 2, 1) := by decide +kernel
theorem dX0_measure_89 : decode cX0_measure 89 = .ok (.aload_n 0, 1) := by decide +kernel
theorem dX0_measure_90 : decode cX0_measure 90 = .ok (.getfield 15, 3) := by decide +kernel
theorem dX0_measure_93 : decode cX0_measure 93 = .ok (.iload 6, 2) := by decide +kernel
theorem dX0_measure_95 : decode cX0_measure 95 = .ok (.iaload, 1) := by decide +kernel
theorem dX0_measure_96 : decode cX0_measure 96 = .ok (.if_icmp .ne 22, 3) := by decide +kernel
theorem dX0_measure_99 : decode cX0_measure 99 = .ok (.aload_n 0, 1) := by decide +kernel
theorem dX0_measure_100 : decode cX0_measure 100 = .ok (.getfield 18, 3) := by decide +kernel
theorem dX0_measure_103 : decode cX0_measure 103 = .ok (.iload 4, 2) := by decide +kernel
theorem dX0_measure_105 : decode cX0_measure 105 = .ok (.iload 6, 2) := by decide +kernel
theorem dX0_measure_107 : decode cX0_measure 107 = .ok (.iadd, 1) := by decide +kernel
theorem dX0_measure_108 : decode cX0_measure 108 = .ok (.iconst 1, 1) := by decide +kernel
theorem dX0_measure_109 : decode cX0_measure 109 = .ok (.iadd, 1) := by decide +kernel
theorem dX0_measure_110 : decode cX0_measure 110 = .ok (.iaload, 1) := by decide +kernel
theorem dX0_measure_111 : decode cX0_measure 111 = .ok (.iconst 1, 1) := by decide +kernel
theorem dX0_measure_112 : decode cX0_measure 112 = .ok (.iadd, 1) := by decide +kernel
theorem dX0_measure_113 : decode cX0_measure 113 = .ok (.istore 5, 2) := by decide +kernel
theorem dX0_measure_115 : decode cX0_measure 115 = .ok (.goto 30, 3) := by decide +kernel
theorem dX0_measure_118 : decode cX0_measure 118 = .ok (.iload 5, 2) := by decide +kernel
theorem dX0_measure_120 : decode cX0_measure 120 = .ok (.aload_n 0, 1) := by decide +kernel
theorem dX0_measure_121 : decode cX0_measure 121 = .ok (.getfield 18, 3) := by decide +kernel
theorem dX0_measure_124 : decode cX0_measure 124 = .ok (.iload 4, 2) := by decide +kernel
theorem dX0_measure_126 : decode cX0_measure 126 = .ok (.iload 6, 2) := by decide +kernel
theorem dX0_measure_128 : decode cX0_measure 128 = .ok (.iadd, 1) := by decide +kernel
theorem dX0_measure_129 : decode cX0_measure 129 = .ok (.iaload, 1) := by decide +kernel
theorem dX0_measure_130 : decode cX0_measure 130 = .ok (.if_icmp .ge 15, 3) := by decide +kernel
theorem dX0_measure_133 : decode cX0_measure 133 = .ok (.aload_n 0, 1) := by decide +kernel
theorem dX0_measure_134 : decode cX0_measure 134 = .ok (.getfield 18, 3) := by decide +kernel
theorem dX0_measure_137 : decode cX0_measure 137 = .ok (.iload 4, 2) := by decide +kernel
theorem dX0_measure_139 : decode cX0_measure 139 = .ok (.iload 6, 2) := by decide +kernel
theorem dX0_measure_141 : decode cX0_measure 141 = .ok (.iadd, 1) := by decide +kernel
theorem dX0_measure_142 : decode cX0_measure 142 = .ok (.iaload, 1) := by decide +kernel
theorem dX0_measure_143 : decode cX0_measure 143 = .ok (.istore 5, 2) := by decide +kernel
theorem dX0_measure_145 : decode cX0_measure 145 = .ok (.aload_n 0, 1) := by decide +kernel
theorem dX0_measure_146 : decode cX0_measure 146 = .ok (.getfield 18, 3) := by decide +kernel
theorem dX0_measure_149 : decode cX0_measure 149 = .ok (.iload_n 3, 1) := by decide +kernel
theorem dX0_measure_150 : decode cX0_measure 150 = .ok (.iload 6, 2) := by decide +kernel
theorem dX0_measure_152 : decode cX0_measure 152 = .ok (.iadd, 1) := by decide +kernel
theorem dX0_measure_153 : decode cX0_measure 153 = .ok (.iload 5, 2) := by decide +kernel
theorem dX0_measure_155 : decode cX0_measure 155 = .ok (.iastore, 1) := by decide +kernel
theorem dX0_measure_156 : decode cX0_measure 156 = .ok (.iinc 6 (-1), 3) := by decide +kernel
theorem dX0_measure_159 : decode cX0_measure 159 = .ok (.goto (-76), 3) := by decide +kernel
theorem dX0_measure_162 : decode cX0_measure 162 = .ok (.iinc 1 (-1), 3) := by decide +kernel
theorem dX0_measure_165 : decode cX0_measure 165 = .ok (.goto (-127), 3) := by decide +kernel
theorem dX0_measure_168 : decode cX0_measure 168 = .ok (.aload_n 0, 1) := by decide +kernel
theorem dX0_measure_169 : decode cX0_measure 169 = .ok (.getfield 18, 3) := by decide +kernel
theorem dX0_measure_172 : decode cX0_measure 172 = .ok (.iconst 0, 1) := by decide +kernel
theorem dX0_measure_173 : decode cX0_measure 173 = .ok (.iaload, 1) := by decide +kernel
theorem dX0_measure_174 : decode cX0_measure 174 = .ok (.ireturn, 1) := by decide +kernel
theorem dX0_partnerOf_0 : decode cX0_partnerOf 0 = .ok (.aload_n 0, 1) := by decide +kernel
theorem dX0_partnerOf_1 : decode cX0_partnerOf 1 = .ok (.getfield 18, 3) := by decide +kernel
theorem dX0_partnerOf_4 : decode cX0_partnerOf 4 = .ok (.iconst 0, 1) := by decide +kernel
theorem dX0_partnerOf_5 : decode cX0_partnerOf 5 = .ok (.iaload, 1) := by decide +kernel
theorem dX0_partnerOf_6 : decode cX0_partnerOf 6 = .ok (.istore_n 2, 1) := by decide +kernel
theorem dX0_partnerOf_7 : decode cX0_partnerOf 7 = .ok (.iconst 0, 1) := by decide +kernel
theorem dX0_partnerOf_8 : decode cX0_partnerOf 8 = .ok (.istore_n 3, 1) := by decide +kernel
theorem dX0_partnerOf_9 : decode cX0_partnerOf 9 = .ok (.iconst 0, 1) := by decide +kernel
theorem dX0_partnerOf_10 : decode cX0_partnerOf 10 = .ok (.istore 4, 2) := by decide +kernel
theorem dX0_partnerOf_12 : decode cX0_partnerOf 12 = .ok (.iload 4, 2) := by decide +kernel
theorem dX0_partnerOf_14 : decode cX0_partnerOf 14 = .ok (.aload_n 0, 1) := by decide +kernel
theorem dX0_partnerOf_15 : decode cX0_partnerOf 15 = .ok (.getfield 21, 3) := by decide +kernel
theorem dX0_partnerOf_18 : decode cX0_partnerOf 18 = .ok (.if_icmp .ge 82, 3) := by decide +kernel
theorem dX0_partnerOf_21 : decode cX0_partnerOf 21 = .ok (.iload 4, 2) := by decide +kernel
theorem dX0_partnerOf_23 : decode cX0_partnerOf 23 = .ok (.iload_n 1, 1) := by decide +kernel
theorem dX0_partnerOf_24 : decode cX0_partnerOf 24 = .ok (.if_icmp .gt 76, 3) := by decide +kernel
theorem dX0_partnerOf_27 : decode cX0_partnerOf 27 = .ok (.iload_n 2, 1) := by decide +kernel
theorem dX0_partnerOf_28 : decode cX0_partnerOf 28 = .ok (.ifCond .le 72, 3) := by decide +kernel
theorem dX0_partnerOf_31 : decode cX0_partnerOf 31 = .ok (.aload_n 0, 1) := by decide +kernel
theorem dX0_partnerOf_32 : decode cX0_partnerOf 32 = .ok (.aload_n 0, 1) := by decide +kernel
theorem dX0_partnerOf_33 : decode cX0_partnerOf 33 = .ok (.getfield 9, 3) := by decide +kernel
theorem dX0_partnerOf_36 : decode cX0_partnerOf 36 = .ok (.iload 4, 2) := by decide +kernel
theorem dX0_partnerOf_38 : decode cX0_partnerOf 38 = .ok (.iaload, 1) := by decide +kernel
theorem dX0_partnerOf_39 : decode cX0_partnerOf 39 = .ok (.iload_n 3, 1) := by decide +kernel
theorem dX0_partnerOf_40 : decode cX0_partnerOf 40 = .ok (.invokevirtual 38, 3) := by decide +kernel
theorem dX0_partnerOf_43 : decode cX0_partnerOf 43 = .ok (.istore 5, 2) := by decide +kernel
theorem dX0_partnerOf_45 : decode cX0_partnerOf 45 = .ok (.iload 5, 2) := by decide +kernel
theorem dX0_partnerOf_47 : decode cX0_partnerOf 47 = .ok (.aload_n 0, 1) := by decide +kernel
theorem dX0_partnerOf_48 : decode cX0_partnerOf 48 = .ok (.getfield 25, 3) := by decide +kernel
theorem dX0_partnerOf_51 : decode cX0_partnerOf 51 = .ok (.if_icmp .ge 43, 3) := by decide +kernel
theorem dX0_partnerOf_54 : decode cX0_partnerOf 54 = .ok (.aload_n 0, 1) := by decide +kernel
theorem dX0_partnerOf_55 : decode cX0_partnerOf 55 = .ok (.getfield 18, 3) := by decide +kernel
theorem dX0_partnerOf_58 : decode cX0_partnerOf 58 = .ok (.iload 4, 2) := by decide +kernel
theorem dX0_partnerOf_60 : decode cX0_partnerOf 60 = .ok (.iconst 1, 1) := by decide +kernel
theorem dX0_partnerOf_61 : decode cX0_partnerOf 61 = .ok (.iadd, 1) := by decide +kernel
theorem dX0_partnerOf_62 : decode cX0_partnerOf 62 = .ok (.bipush 15, 2) := by decide +kernel
theorem dX0_partnerOf_64 : decode cX0_partnerOf 64 = .ok (.imul, 1) := by decide +kernel
theorem dX0_partnerOf_65 : decode cX0_partnerOf 65 = .ok (.iload 5, 2) := by decide +kernel
theorem dX0_partnerOf_67 : decode cX0_partnerOf 67 = .ok (.iadd, 1) := by decide +kernel
theorem dX0_partnerOf_68 : decode cX0_partnerOf 68 = .ok (.iconst 1, 1) := by decide +kernel
theorem dX0_partnerOf_69 : decode cX0_partnerOf 69 = .ok (.iadd, 1) := by decide +kernel
theorem dX0_partnerOf_70 : decode cX0_partnerOf 70 = .ok (.iaload, 1) := by decide +kernel
theorem dX0_partnerOf_71 : decode cX0_partnerOf 71 = .ok (.iload_n 2, 1) := by decide +kernel
theorem dX0_partnerOf_72 : decode cX0_partnerOf 72 = .ok (.iconst 1, 1) := by decide +kernel
theorem dX0_partnerOf_73 : decode cX0_partnerOf 73 = .ok (.isub, 1) := by decide +kernel
theorem dX0_partnerOf_74 : decode cX0_partnerOf 74 = .ok (.if_icmp .ne 20, 3) := by decide +kernel
theorem dX0_partnerOf_77 : decode cX0_partnerOf 77 = .ok (.iload 4, 2) := by decide +kernel
theorem dX0_partnerOf_79 : decode cX0_partnerOf 79 = .ok (.iload_n 1, 1) := by decide +kernel
theorem dX0_partnerOf_80 : decode cX0_partnerOf 80 = .ok (.if_icmp .ne 6, 3) := by decide +kernel
theorem dX0_partnerOf_83 : decode cX0_partnerOf 83 = .ok (.iload 5, 2) := by decide +kernel
theorem dX0_partnerOf_85 : decode cX0_partnerOf 85 = .ok (.ireturn, 1) := by decide +kernel
theorem dX0_partnerOf_86 : decode cX0_partnerOf 86 = .ok (.iinc 2 (-1), 3) := by decide +kernel
theorem dX0_partnerOf_89 : decode cX0_partnerOf 89 = .ok (.iload 5, 2) := by decide +kernel
theorem dX0_partnerOf_91 : decode cX0_partnerOf 91 = .ok (.iconst 1, 1) := by decide +kernel
theorem dX0_partnerOf_92 : decode cX0_partnerOf 92 = .ok (.iadd, 1) := by decide +kernel
theorem dX0_partnerOf_93 : decode cX0_partnerOf 93 = .ok (.istore_n 3, 1) := by decide +kernel
theorem dX0_partnerOf_94 : decode cX0_partnerOf 94 = .ok (.iinc 4 1, 3) := by decide +kernel
theorem dX0_partnerOf_97 : decode cX0_partnerOf 97 = .ok (.goto (-85), 3) := by decide +kernel
theorem dX0_partnerOf_100 : decode cX0_partnerOf 100 = .ok (.iconst (-1), 1) := by decide +kernel
theorem dX0_partnerOf_101 : decode cX0_partnerOf 101 = .ok (.ireturn, 1) := by decide +kernel
theorem dX0_nextLike_0 : decode cX0_nextLike 0 = .ok (.iload_n 2, 1) := by decide +kernel
theorem dX0_nextLike_1 : decode cX0_nextLike 1 = .ok (.istore_n 3, 1) := by decide +kernel
theorem dX0_nextLike_2 : decode cX0_nextLike 2 = .ok (.iload_n 3, 1) := by decide +kernel
theorem dX0_nextLike_3 : decode cX0_nextLike 3 = .ok (.aload_n 0, 1) := by decide +kernel
theorem dX0_nextLike_4 : decode cX0_nextLike 4 = .ok (.getfield 25, 3) := by decide +kernel
theorem dX0_nextLike_7 : decode cX0_nextLike 7 = .ok (.if_icmp .ge 19, 3) := by decide +kernel
theorem dX0_nextLike_10 : decode cX0_nextLike 10 = .ok (.aload_n 0, 1) := by decide +kernel
theorem dX0_nextLike_11 : decode cX0_nextLike 11 = .ok (.getfield 15, 3) := by decide +kernel
theorem dX0_nextLike_14 : decode cX0_nextLike 14 = .ok (.iload_n 3, 1) := by decide +kernel
theorem dX0_nextLike_15 : decode cX0_nextLike 15 = .ok (.iaload, 1) := by decide +kernel
theorem dX0_nextLike_16 : decode cX0_nextLike 16 = .ok (.iload_n 1, 1) := by decide +kernel
theorem dX0_nextLike_17 : decode cX0_nextLike 17 = .ok (.if_icmp .eq 9, 3) := by decide +kernel
theorem dX0_nextLike_20 : decode cX0_nextLike 20 = .ok (.iinc 3 1, 3) := by decide +kernel
theorem dX0_nextLike_23 : decode cX0_nextLike 23 = .ok (.goto (-21), 3) := by decide +kernel
theorem dX0_nextLike_26 : decode cX0_nextLike 26 = .ok (.iload_n 3, 1) := by decide +kernel
theorem dX0_nextLike_27 : decode cX0_nextLike 27 = .ok (.ireturn, 1) := by decide +kernel
theorem dX1_init_0 : decode cX1_init 0 = .ok (.aload_n 0, 1) := by decide +kernel
theorem dX1_init_1 : decode cX1_init 1 = .ok (.invokespecial 3, 3) := by decide +kernel
theorem dX1_init_4 : decode cX1_init 4 = .ok (.aload_n 0, 1) := by decide +kernel
theorem dX1_init_5 : decode cX1_init 5 = .ok (.new 9, 3) := by decide +kernel
theorem dX1_init_8 : decode cX1_init 8 = .ok (.dup, 1) := by decide +kernel
theorem dX1_init_9 : decode cX1_init 9 = .ok (.invokespecial 11, 3) := by decide +kernel
theorem dX1_init_12 : decode cX1_init 12 = .ok (.putfield 12, 3) := by decide +kernel
theorem dX1_init_15 : decode cX1_init 15 = .ok (.aload_n 0, 1) := by decide +kernel
theorem dX1_init_16 : decode cX1_init 16 = .ok (.new 18, 3) := by decide +kernel
theorem dX1_init_19 : decode cX1_init 19 = .ok (.dup, 1) := by decide +kernel
theorem dX1_init_20 : decode cX1_init 20 = .ok (.invokespecial 20, 3) := by decide +kernel
theorem dX1_init_23 : decode cX1_init 23 = .ok (.putfield 21, 3) := by decide +kernel
theorem dX1_init_26 : decode cX1_init 26 = .ok (.aload_n 0, 1) := by decide +kernel
theorem dX1_init_27 : decode cX1_init 27 = .ok (.new 25, 3) := by decide +kernel
theorem dX1_init_30 : decode cX1_init 30 = .ok (.dup, 1) := by decide +kernel
theorem dX1_init_31 : decode cX1_init 31 = .ok (.invokespecial 27, 3) := by decide +kernel
theorem dX1_init_34 : decode cX1_init 34 = .ok (.putfield 28, 3) := by decide +kernel
theorem dX1_init_37 : decode cX1_init 37 = .ok (.aload_n 0, 1) := by decide +kernel
theorem dX1_init_38 : decode cX1_init 38 = .ok (.bipush 14, 2) := by decide +kernel
theorem dX1_init_40 : decode cX1_init 40 = .ok (.bipush 14, 2) := by decide +kernel
theorem dX1_init_42 : decode cX1_init 42 = .ok (.multianewarray 32 2, 4) := by decide +kernel
theorem dX1_init_46 : decode cX1_init 46 = .ok (.putfield 34, 3) := by decide +kernel
theorem dX1_init_49 : decode cX1_init 49 = .ok (.return_, 1) := by decide +kernel
theorem dX1_compare_0 : decode cX1_compare 0 = .ok (.aload_n 0, 1) := by decide +kernel
theorem dX1_compare_1 : decode cX1_compare 1 = .ok (.getfield 12, 3) := by decide +kernel
theorem dX1_compare_4 : decode cX1_compare 4 = .ok (.aload_n 1, 1) := by decide +kernel
theorem dX1_compare_5 : decode cX1_compare 5 = .ok (.aload_n 2, 1) := by decide +kernel
theorem dX1_compare_6 : decode cX1_compare 6 = .ok (.invokevirtual 37, 3) := by decide +kernel
theorem dX1_compare_9 : decode cX1_compare 9 = .ok (.aload_n 3, 1) := by decide +kernel
theorem dX1_compare_10 : decode cX1_compare 10 = .ok (.invokevirtual 41, 3) := by decide +kernel
theorem dX1_compare_13 : decode cX1_compare 13 = .ok (.aload_n 0, 1) := by decide +kernel
theorem dX1_compare_14 : decode cX1_compare 14 = .ok (.getfield 21, 3) := by decide +kernel
theorem dX1_compare_17 : decode cX1_compare 17 = .ok (.aload_n 0, 1) := by decide +kernel
theorem dX1_compare_18 : decode cX1_compare 18 = .ok (.getfield 12, 3) := by decide +kernel
theorem dX1_compare_21 : decode cX1_compare 21 = .ok (.aload_n 3, 1) := by decide +kernel
theorem dX1_compare_22 : decode cX1_compare 22 = .ok (.invokevirtual 46, 3) := by decide +kernel
theorem dX1_compare_25 : decode cX1_compare 25 = .ok (.iconst 1, 1) := by decide +kernel
theorem dX1_compare_26 : decode cX1_compare 26 = .ok (.istore 4, 2) := by decide +kernel
theorem dX1_compare_28 : decode cX1_compare 28 = .ok (.iconst 0, 1) := by decide +kernel
theorem dX1_compare_29 : decode cX1_compare 29 = .ok (.istore 5, 2) := by decide +kernel
theorem dX1_compare_31 : decode cX1_compare 31 = .ok (.iload 5, 2) := by decide +kernel
theorem dX1_compare_33 : decode cX1_compare 33 = .ok (.bipush 14, 2) := by decide +kernel
theorem dX1_compare_35 : decode cX1_compare 35 = .ok (.if_icmp .ge 21, 3) := by decide +kernel
theorem dX1_compare_38 : decode cX1_compare 38 = .ok (.iload 4, 2) := by decide +kernel
theorem dX1_compare_40 : decode cX1_compare 40 = .ok (.ifCond .eq 16, 3) := by decide +kernel
theorem dX1_compare_43 : decode cX1_compare 43 = .ok (.aload_n 0, 1) := by decide +kernel
theorem dX1_compare_44 : decode cX1_compare 44 = .ok (.aload_n 3, 1) := by decide +kernel
theorem dX1_compare_45 : decode cX1_compare 45 = .ok (.invokevirtual 50, 3) := by decide +kernel
theorem dX1_compare_48 : decode cX1_compare 48 = .ok (.istore 4, 2) := by decide +kernel
theorem dX1_compare_50 : decode cX1_compare 50 = .ok (.iinc 5 1, 3) := by decide +kernel
theorem dX1_compare_53 : decode cX1_compare 53 = .ok (.goto (-22), 3) := by decide +kernel
theorem dX1_compare_56 : decode cX1_compare 56 = .ok (.aload_n 0, 1) := by decide +kernel
theorem dX1_compare_57 : decode cX1_compare 57 = .ok (.aload_n 1, 1) := by decide +kernel
theorem dX1_compare_58 : decode cX1_compare 58 = .ok (.aload_n 2, 1) := by decide +kernel
theorem dX1_compare_59 : decode cX1_compare 59 = .ok (.aload_n 3, 1) := by decide +kernel
theorem dX1_compare_60 : decode cX1_compare 60 = .ok (.invokevirtual 54, 3) := by decide +kernel
theorem dX1_compare_63 : decode cX1_compare 63 = .ok (.iconst 1, 1) := by decide +kernel
theorem dX1_compare_64 : decode cX1_compare 64 = .ok (.istore 4, 2) := by decide +kernel
theorem dX1_compare_66 : decode cX1_compare 66 = .ok (.iconst 0, 1) := by decide +kernel
theorem dX1_compare_67 : decode cX1_compare 67 = .ok (.istore 5, 2) := by decide +kernel
theorem dX1_compare_69 : decode cX1_compare 69 = .ok (.iload 5, 2) := by decide +kernel
theorem dX1_compare_71 : decode cX1_compare 71 = .ok (.bipush 14, 2) := by decide +kernel
theorem dX1_compare_73 : decode cX1_compare 73 = .ok (.if_icmp .ge 23, 3) := by decide +kernel
theorem dX1_compare_76 : decode cX1_compare 76 = .ok (.iload 4, 2) := by decide +kernel
theorem dX1_compare_78 : decode cX1_compare 78 = .ok (.ifCond .eq 18, 3) := by decide +kernel
theorem dX1_compare_81 : decode cX1_compare 81 = .ok (.aload_n 0, 1) := by decide +kernel
theorem dX1_compare_82 : decode cX1_compare 82 = .ok (.aload_n 1, 1) := by decide +kernel
theorem dX1_compare_83 : decode cX1_compare 83 = .ok (.aload_n 2, 1) := by decide +kernel
theorem dX1_compare_84 : decode cX1_compare 84 = .ok (.aload_n 3, 1) := by decide +kernel
theorem dX1_compare_85 : decode cX1_compare 85 = .ok (.invokevirtual 58, 3) := by decide +kernel
theorem dX1_compare_88 : decode cX1_compare 88 = .ok (.istore 4, 2) := by decide +kernel
theorem dX1_compare_90 : decode cX1_compare 90 = .ok (.iinc 5 1, 3) := by decide +kernel
theorem dX1_compare_93 : decode cX1_compare 93 = .ok (.goto (-24), 3) := by decide +kernel
theorem dX1_compare_96 : decode cX1_compare 96 = .ok (.aload_n 3, 1) := by decide +kernel
theorem dX1_compare_97 : decode cX1_compare 97 = .ok (.dup, 1) := by decide +kernel
theorem dX1_compare_98 : decode cX1_compare 98 = .ok (.getfield 62, 3) := by decide +kernel
theorem dX1_compare_101 : decode cX1_compare 101 = .ok (.iconst 0, 1) := by decide +kernel
theorem dX1_compare_102 : decode cX1_compare 102 = .ok (.aload_n 1, 1) := by decide +kernel
theorem dX1_compare_103 : decode cX1_compare 103 = .ok (.aload_n 3, 1) := by decide +kernel
theorem dX1_compare_104 : decode cX1_compare 104 = .ok (.invokestatic 66, 3) := by decide +kernel
theorem dX1_compare_107 : decode cX1_compare 107 = .ok (.iconst 1, 1) := by decide +kernel
theorem dX1_compare_108 : decode cX1_compare 108 = .ok (.aload_n 2, 1) := by decide +kernel
theorem dX1_compare_109 : decode cX1_compare 109 = .ok (.aload_n 3, 1) := by decide +kernel
theorem dX1_compare_110 : decode cX1_compare 110 = .ok (.invokestatic 66, 3) := by decide +kernel
theorem dX1_compare_113 : decode cX1_compare 113 = .ok (.iadd, 1) := by decide +kernel
theorem dX1_compare_114 : decode cX1_compare 114 = .ok (.iadd, 1) := by decide +kernel
theorem dX1_compare_115 : decode cX1_compare 115 = .ok (.putfield 62, 3) := by decide +kernel
theorem dX1_compare_118 : decode cX1_compare 118 = .ok (.return_, 1) := by decide +kernel
theorem dX1_mostLines_0 : decode cX1_mostLines 0 = .ok (.aload_n 0, 1) := by decide +kernel
theorem dX1_mostLines_1 : decode cX1_mostLines 1 = .ok (.getfield 12, 3) := by decide +kernel
theorem dX1_mostLines_4 : decode cX1_mostLines 4 = .ok (.aload_n 1, 1) := by decide +kernel
theorem dX1_mostLines_5 : decode cX1_mostLines 5 = .ok (.aload_n 2, 1) := by decide +kernel
theorem dX1_mostLines_6 : decode cX1_mostLines 6 = .ok (.invokevirtual 37, 3) := by decide +kernel
theorem dX1_mostLines_9 : decode cX1_mostLines 9 = .ok (.aload_n 0, 1) := by decide +kernel
theorem dX1_mostLines_10 : decode cX1_mostLines 10 = .ok (.getfield 28, 3) := by decide +kernel
theorem dX1_mostLines_13 : decode cX1_mostLines 13 = .ok (.aload_n 0, 1) := by decide +kernel
theorem dX1_mostLines_14 : decode cX1_mostLines 14 = .ok (.getfield 12, 3) := by decide +kernel
theorem dX1_mostLines_17 : decode cX1_mostLines 17 = .ok (.getfield 70, 3) := by decide +kernel
theorem dX1_mostLines_20 : decode cX1_mostLines 20 = .ok (.iconst 0, 1) := by decide +kernel
theorem dX1_mostLines_21 : decode cX1_mostLines 21 = .ok (.aload_n 0, 1) := by decide +kernel
theorem dX1_mostLines_22 : decode cX1_mostLines 22 = .ok (.getfield 12, 3) := by decide +kernel
theorem dX1_mostLines_25 : decode cX1_mostLines 25 = .ok (.getfield 74, 3) := by decide +kernel
theorem dX1_mostLines_28 : decode cX1_mostLines 28 = .ok (.invokevirtual 77, 3) := by decide +kernel
theorem dX1_mostLines_31 : decode cX1_mostLines 31 = .ok (.aload_n 0, 1) := by decide +kernel
theorem dX1_mostLines_32 : decode cX1_mostLines 32 = .ok (.getfield 28, 3) := by decide +kernel
theorem dX1_mostLines_35 : decode cX1_mostLines 35 = .ok (.aload_n 0, 1) := by decide +kernel
theorem dX1_mostLines_36 : decode cX1_mostLines 36 = .ok (.getfield 12, 3) := by decide +kernel
theorem dX1_mostLines_39 : decode cX1_mostLines 39 = .ok (.getfield 81, 3) := by decide +kernel
theorem dX1_mostLines_42 : decode cX1_mostLines 42 = .ok (.iconst 0, 1) := by decide +kernel
theorem dX1_mostLines_43 : decode cX1_mostLines 43 = .ok (.aload_n 0, 1) := by decide +kernel
theorem dX1_mostLines_44 : decode cX1_mostLines 44 = .ok (.getfield 12, 3) := by decide +kernel
theorem dX1_mostLines_47 : decode cX1_mostLines 47 = .ok (.getfield 84, 3) := by decide +kernel
theorem dX1_mostLines_50 : decode cX1_mostLines 50 = .ok (.invokevirtual 87, 3) := by decide +kernel
theorem dX1_mostLines_53 : decode cX1_mostLines 53 = .ok (.aload_n 0, 1) := by decide +kernel
theorem dX1_mostLines_54 : decode cX1_mostLines 54 = .ok (.getfield 28, 3) := by decide +kernel
theorem dX1_mostLines_57 : decode cX1_mostLines 57 = .ok (.invokevirtual 90, 3) := by decide +kernel
theorem dX1_mostLines_60 : decode cX1_mostLines 60 = .ok (.ireturn, 1) := by decide +kernel
theorem dX1_moveLongest_0 : decode cX1_moveLongest 0 = .ok (.iconst 0, 1) := by decide +kernel
theorem dX1_moveLongest_1 : decode cX1_moveLongest 1 = .ok (.istore_n 2, 1) := by decide +kernel
theorem dX1_moveLongest_2 : decode cX1_moveLongest 2 = .ok (.iconst 0, 1) := by decide +kernel
theorem dX1_moveLongest_3 : decode cX1_moveLongest 3 = .ok (.istore_n 3, 1) := by decide +kernel
theorem dX1_moveLongest_4 : decode cX1_moveLongest 4 = .ok (.iconst 0, 1) := by decide +kernel
theorem dX1_moveLongest_5 : decode cX1_moveLongest 5 = .ok (.istore 4, 2) := by decide +kernel
theorem dX1_moveLongest_7 : decode cX1_moveLongest 7 = .ok (.iconst 0, 1) := by decide +kernel
theorem dX1_moveLongest_8 : decode cX1_moveLongest 8 = .ok (.istore 5, 2) := by decide +kernel
theorem dX1_moveLongest_10 : decode cX1_moveLongest 10 = .ok (.iload 5, 2) := by decide +kernel
theorem dX1_moveLongest_12 : decode cX1_moveLongest 12 = .ok (.aload_n 0, 1) := by decide +kernel
theorem dX1_moveLongest_13 : decode cX1_moveLongest 13 = .ok (.getfield 12, 3) := by decide +kernel
theorem dX1_moveLongest_16 : decode cX1_moveLongest 16 = .ok (.getfield 74, 3) := by decide +kernel
theorem dX1_moveLongest_19 : decode cX1_moveLongest 19 = .ok (.if_icmp .ge 57, 3) := by decide +kernel
theorem dX1_moveLongest_22 : decode cX1_moveLongest 22 = .ok (.iconst 0, 1) := by decide +kernel
theorem dX1_moveLongest_23 : decode cX1_moveLongest 23 = .ok (.istore 6, 2) := by decide +kernel
theorem dX1_moveLongest_25 : decode cX1_moveLongest 25 = .ok (.iload 6, 2) := by decide +kernel
theorem dX1_moveLongest_27 : decode cX1_moveLongest 27 = .ok (.aload_n 0, 1) := by decide +kernel
theorem dX1_moveLongest_28 : decode cX1_moveLongest 28 = .ok (.getfield 12, 3) := by decide +kernel
theorem dX1_moveLongest_31 : decode cX1_moveLongest 31 = .ok (.getfield 84, 3) := by decide +kernel
theorem dX1_moveLongest_34 : decode cX1_moveLongest 34 = .ok (.if_icmp .ge 36, 3) := by decide +kernel
theorem dX1_moveLongest_37 : decode cX1_moveLongest 37 = .ok (.aload_n 0, 1) := by decide +kernel
theorem dX1_moveLongest_38 : decode cX1_moveLongest 38 = .ok (.iload 5, 2) := by decide +kernel
theorem dX1_moveLongest_40 : decode cX1_moveLongest 40 = .ok (.iload 6, 2) := by decide +kernel
theorem dX1_moveLongest_42 : decode cX1_moveLongest 42 = .ok (.aload_n 1, 1) := by decide +kernel
theorem dX1_moveLongest_43 : decode cX1_moveLongest 43 = .ok (.invokevirtual 94, 3) := by decide +kernel
theorem dX1_moveLongest_46 : decode cX1_moveLongest 46 = .ok (.istore 7, 2) := by decide +kernel
theorem dX1_moveLongest_48 : decode cX1_moveLongest 48 = .ok (.iload 7, 2) := by decide +kernel
theorem dX1_moveLongest_50 : decode cX1_moveLongest 50 = .ok (.iload_n 2, 1) := by decide +kernel
theorem dX1_moveLongest_51 : decode cX1_moveLongest 51 = .ok (.if_icmp .le 13, 3) := by decide +kernel
theorem dX1_moveLongest_54 : decode cX1_moveLongest 54 = .ok (.iload 7, 2) := by decide +kernel
theorem dX1_moveLongest_56 : decode cX1_moveLongest 56 = .ok (.istore_n 2, 1) := by decide +kernel
theorem dX1_moveLongest_57 : decode cX1_moveLongest 57 = .ok (.iload 5, 2) := by decide +kernel
theorem dX1_moveLongest_59 : decode cX1_moveLongest 59 = .ok (.istore_n 3, 1) := by decide +kernel
theorem dX1_moveLongest_60 : decode cX1_moveLongest 60 = .ok (.iload 6, 2) := by decide +kernel
theorem dX1_moveLongest_62 : decode cX1_moveLongest 62 = .ok (.istore 4, 2) := by decide +kernel
theorem dX1_moveLongest_64 : decode cX1_moveLongest 64 = .ok (.iinc 6 1, 3) := by decide +kernel
theorem dX1_moveLongest_67 : decode cX1_moveLongest 67 = .ok (.goto (-42), 3) := by decide +kernel
theorem dX1_moveLongest_70 : decode cX1_moveLongest 70 = .ok (.iinc 5 1, 3) := by decide +kernel
theorem dX1_moveLongest_73 : decode cX1_moveLongest 73 = .ok (.goto (-63), 3) := by decide +kernel
theorem dX1_moveLongest_76 : decode cX1_moveLongest 76 = .ok (.iload_n 2, 1) := by decide +kernel
theorem dX1_moveLongest_77 : decode cX1_moveLongest 77 = .ok (.ifCond .le 11, 3) := by decide +kernel
theorem dX1_moveLongest_80 : decode cX1_moveLongest 80 = .ok (.aload_n 1, 1) := by decide +kernel
theorem dX1_moveLongest_81 : decode cX1_moveLongest 81 = .ok (.iload_n 3, 1) := by decide +kernel
theorem dX1_moveLongest_82 : decode cX1_moveLongest 82 = .ok (.iload 4, 2) := by decide +kernel
theorem dX1_moveLongest_84 : decode cX1_moveLongest 84 = .ok (.iload_n 2, 1) := by decide +kernel
theorem dX1_moveLongest_85 : decode cX1_moveLongest 85 = .ok (.invokevirtual 98, 3) := by decide +kernel
theorem dX1_moveLongest_88 : decode cX1_moveLongest 88 = .ok (.iload_n 2, 1) := by decide +kernel
theorem dX1_moveLongest_89 : decode cX1_moveLongest 89 = .ok (.ifCond .le 7, 3) := by decide +kernel
theorem dX1_moveLongest_92 : decode cX1_moveLongest 92 = .ok (.iconst 1, 1) := by decide +kernel
theorem dX1_moveLongest_93 : decode cX1_moveLongest 93 = .ok (.goto 4, 3) := by decide +kernel
theorem dX1_moveLongest_96 : decode cX1_moveLongest 96 = .ok (.iconst 0, 1) := by decide +kernel
theorem dX1_moveLongest_97 : decode cX1_moveLongest 97 = .ok (.ireturn, 1) := by decide +kernel
theorem dX1_looseRow_0 : decode cX1_looseRow 0 = .ok (.iconst 0, 1) := by decide +kernel
theorem dX1_looseRow_1 : decode cX1_looseRow 1 = .ok (.istore 4, 2) := by decide +kernel
theorem dX1_looseRow_3 : decode cX1_looseRow 3 = .ok (.iload 4, 2) := by decide +kernel
theorem dX1_looseRow_5 : decode cX1_looseRow 5 = .ok (.bipush 14, 2) := by decide +kernel
theorem dX1_looseRow_7 : decode cX1_looseRow 7 = .ok (.if_icmp .ge 51, 3) := by decide +kernel
theorem dX1_looseRow_10 : decode cX1_looseRow 10 = .ok (.aload_n 0, 1) := by decide +kernel
theorem dX1_looseRow_11 : decode cX1_looseRow 11 = .ok (.getfield 12, 3) := by decide +kernel
theorem dX1_looseRow_14 : decode cX1_looseRow 14 = .ok (.iload_n 1, 1) := by decide +kernel
theorem dX1_looseRow_15 : decode cX1_looseRow 15 = .ok (.iload 4, 2) := by decide +kernel
theorem dX1_looseRow_17 : decode cX1_looseRow 17 = .ok (.iadd, 1) := by decide +kernel
theorem dX1_looseRow_18 : decode cX1_looseRow 18 = .ok (.iload_n 2, 1) := by decide +kernel
theorem dX1_looseRow_19 : decode cX1_looseRow 19 = .ok (.iload 4, 2) := by decide +kernel
theorem dX1_looseRow_21 : decode cX1_looseRow 21 = .ok (.iadd, 1) := by decide +kernel
theorem dX1_looseRow_22 : decode cX1_looseRow 22 = .ok (.invokevirtual 102, 3) := by decide +kernel
theorem dX1_looseRow_25 : decode cX1_looseRow 25 = .ok (.ifCond .eq 33, 3) := by decide +kernel
theorem dX1_looseRow_28 : decode cX1_looseRow 28 = .ok (.aload_n 3, 1) := by decide +kernel
theorem dX1_looseRow_29 : decode cX1_looseRow 29 = .ok (.iconst 0, 1) := by decide +kernel
theorem dX1_looseRow_30 : decode cX1_looseRow 30 = .ok (.iload_n 1, 1) := by decide +kernel
theorem dX1_looseRow_31 : decode cX1_looseRow 31 = .ok (.iload 4, 2) := by decide +kernel
theorem dX1_looseRow_33 : decode cX1_looseRow 33 = .ok (.iadd, 1) := by decide +kernel
theorem dX1_looseRow_34 : decode cX1_looseRow 34 = .ok (.invokevirtual 106, 3) := by decide +kernel
theorem dX1_looseRow_37 : decode cX1_looseRow 37 = .ok (.ifCond .eq 21, 3) := by decide +kernel
theorem dX1_looseRow_40 : decode cX1_looseRow 40 = .ok (.aload_n 3, 1) := by decide +kernel
theorem dX1_looseRow_41 : decode cX1_looseRow 41 = .ok (.iconst 1, 1) := by decide +kernel
theorem dX1_looseRow_42 : decode cX1_looseRow 42 = .ok (.iload_n 2, 1) := by decide +kernel
theorem dX1_looseRow_43 : decode cX1_looseRow 43 = .ok (.iload 4, 2) := by decide +kernel
theorem dX1_looseRow_45 : decode cX1_looseRow 45 = .ok (.iadd, 1) := by decide +kernel
theorem dX1_looseRow_46 : decode cX1_looseRow 46 = .ok (.invokevirtual 106, 3) := by decide +kernel
theorem dX1_looseRow_49 : decode cX1_looseRow 49 = .ok (.ifCond .eq 9, 3) := by decide +kernel
theorem dX1_looseRow_52 : decode cX1_looseRow 52 = .ok (.iinc 4 1, 3) := by decide +kernel
theorem dX1_looseRow_55 : decode cX1_looseRow 55 = .ok (.goto (-52), 3) := by decide +kernel
theorem dX1_looseRow_58 : decode cX1_looseRow 58 = .ok (.iload 4, 2) := by decide +kernel
theorem dX1_looseRow_60 : decode cX1_looseRow 60 = .ok (.ireturn, 1) := by decide +kernel
theorem dX1_measureLikeness_0 : decode cX1_measureLikeness 0 = .ok (.iconst 0, 1) := by decide +kernel
theorem dX1_measureLikeness_1 : decode cX1_measureLikeness 1 = .ok (.istore 4, 2) := by decide +kernel
theorem dX1_measureLikeness_3 : decode cX1_measureLikeness 3 = .ok (.iload 4, 2) := by decide +kernel
theorem dX1_measureLikeness_5 : decode cX1_measureLikeness 5 = .ok (.aload_n 1, 1) := by decide +kernel
theorem dX1_measureLikeness_6 : decode cX1_measureLikeness 6 = .ok (.getfield 109, 3) := by decide +kernel
theorem dX1_measureLikeness_9 : decode cX1_measureLikeness 9 = .ok (.if_icmp .ge 96, 3) := by decide +kernel
theorem dX1_measureLikeness_12 : decode cX1_measureLikeness 12 = .ok (.aload_n 3, 1) := by decide +kernel
theorem dX1_measureLikeness_13 : decode cX1_measureLikeness 13 = .ok (.iconst 0, 1) := by decide +kernel
theorem dX1_measureLikeness_14 : decode cX1_measureLikeness 14 = .ok (.iload 4, 2) := by decide +kernel
theorem dX1_measureLikeness_16 : decode cX1_measureLikeness 16 = .ok (.invokevirtual 106, 3) := by decide +kernel
theorem dX1_measureLikeness_19 : decode cX1_measureLikeness 19 = .ok (.ifCond .eq 80, 3) := by decide +kernel
theorem dX1_measureLikeness_22 : decode cX1_measureLikeness 22 = .ok (.aload_n 0, 1) := by decide +kernel
theorem dX1_measureLikeness_23 : decode cX1_measureLikeness 23 = .ok (.getfield 28, 3) := by decide +kernel
theorem dX1_measureLikeness_26 : decode cX1_measureLikeness 26 = .ok (.aload_n 1, 1) := by decide +kernel
theorem dX1_measureLikeness_27 : decode cX1_measureLikeness 27 = .ok (.getfield 114, 3) := by decide +kernel
theorem dX1_measureLikeness_30 : decode cX1_measureLikeness 30 = .ok (.iload 4, 2) := by decide +kernel
theorem dX1_measureLikeness_32 : decode cX1_measureLikeness 32 = .ok (.bipush 8, 2) := by decide +kernel
theorem dX1_measureLikeness_34 : decode cX1_measureLikeness 34 = .ok (.imul, 1) := by decide +kernel
theorem dX1_measureLikeness_35 : decode cX1_measureLikeness 35 = .ok (.aload_n 1, 1) := by decide +kernel
theorem dX1_measureLikeness_36 : decode cX1_measureLikeness 36 = .ok (.iload 4, 2) := by decide +kernel
theorem dX1_measureLikeness_38 : decode cX1_measureLikeness 38 = .ok (.invokevirtual 117, 3) := by decide +kernel
theorem dX1_measureLikeness_41 : decode cX1_measureLikeness 41 = .ok (.invokevirtual 77, 3) := by decide +kernel
theorem dX1_measureLikeness_44 : decode cX1_measureLikeness 44 = .ok (.iconst 0, 1) := by decide +kernel
theorem dX1_measureLikeness_45 : decode cX1_measureLikeness 45 = .ok (.istore 5, 2) := by decide +kernel
theorem dX1_measureLikeness_47 : decode cX1_measureLikeness 47 = .ok (.iload 5, 2) := by decide +kernel
theorem dX1_measureLikeness_49 : decode cX1_measureLikeness 49 = .ok (.aload_n 2, 1) := by decide +kernel
theorem dX1_measureLikeness_50 : decode cX1_measureLikeness 50 = .ok (.getfield 109, 3) := by decide +kernel
theorem dX1_measureLikeness_53 : decode cX1_measureLikeness 53 = .ok (.if_icmp .ge 46, 3) := by decide +kernel
theorem dX1_measureLikeness_56 : decode cX1_measureLikeness 56 = .ok (.aload_n 0, 1) := by decide +kernel
theorem dX1_measureLikeness_57 : decode cX1_measureLikeness 57 = .ok (.getfield 34, 3) := by decide +kernel
theorem dX1_measureLikeness_60 : decode cX1_measureLikeness 60 = .ok (.iload 4, 2) := by decide +kernel
theorem dX1_measureLikeness_62 : decode cX1_measureLikeness 62 = .ok (.aaload, 1) := by decide +kernel
theorem dX1_measureLikeness_63 : decode cX1_measureLikeness 63 = .ok (.iload 5, 2) := by decide +kernel
theorem dX1_measureLikeness_65 : decode cX1_measureLikeness 65 = .ok (.aload_n 3, 1) := by decide +kernel
theorem dX1_measureLikeness_66 : decode cX1_measureLikeness 66 = .ok (.iconst 1, 1) := by decide +kernel
theorem dX1_measureLikeness_67 : decode cX1_measureLikeness 67 = .ok (.iload 5, 2) := by decide +kernel
theorem dX1_measureLikeness_69 : decode cX1_measureLikeness 69 = .ok (.invokevirtual 106, 3) := by decide +kernel
theorem dX1_measureLikeness_72 : decode cX1_measureLikeness 72 = .ok (.ifCond .eq 19, 3) := by decide +kernel
theorem dX1_measureLikeness_75 : decode cX1_measureLikeness 75 = .ok (.aload_n 0, 1) := by decide +kernel
theorem dX1_measureLikeness_76 : decode cX1_measureLikeness 76 = .ok (.aload_n 2, 1) := by decide +kernel
theorem dX1_measureLikeness_77 : decode cX1_measureLikeness 77 = .ok (.iload 5, 2) := by decide +kernel
theorem dX1_measureLikeness_79 : decode cX1_measureLikeness 79 = .ok (.aload_n 1, 1) := by decide +kernel
theorem dX1_measureLikeness_80 : decode cX1_measureLikeness 80 = .ok (.iload 4, 2) := by decide +kernel
theorem dX1_measureLikeness_82 : decode cX1_measureLikeness 82 = .ok (.invokevirtual 117, 3) := by decide +kernel
theorem dX1_measureLikeness_85 : decode cX1_measureLikeness 85 = .ok (.invokevirtual 121, 3) := by decide +kernel
theorem dX1_measureLikeness_88 : decode cX1_measureLikeness 88 = .ok (.goto 4, 3) := by decide +kernel
theorem dX1_measureLikeness_91 : decode cX1_measureLikeness 91 = .ok (.iconst 0, 1) := by decide +kernel
theorem dX1_measureLikeness_92 : decode cX1_measureLikeness 92 = .ok (.iastore, 1) := by decide +kernel
theorem dX1_measureLikeness_93 : decode cX1_measureLikeness 93 = .ok (.iinc 5 1, 3) := by decide +kernel
theorem dX1_measureLikeness_96 : decode cX1_measureLikeness 96 = .ok (.goto (-49), 3) := by decide +kernel
theorem dX1_measureLikeness_99 : decode cX1_measureLikeness 99 = .ok (.iinc 4 1, 3) := by decide +kernel
theorem dX1_measureLikeness_102 : decode cX1_measureLikeness 102 = .ok (.goto (-99), 3) := by decide +kernel
theorem dX1_measureLikeness_105 : decode cX1_measureLikeness 105 = .ok (.return_, 1) := by decide +kernel
theorem dX1_likenessTo_0 : decode cX1_likenessTo 0 = .ok (.aload_n 1, 1) := by decide +kernel
theorem dX1_likenessTo_1 : decode cX1_likenessTo 1 = .ok (.iload_n 2, 1) := by decide +kernel
theorem dX1_likenessTo_2 : decode cX1_likenessTo 2 = .ok (.invokevirtual 117, 3) := by decide +kernel
theorem dX1_likenessTo_5 : decode cX1_likenessTo 5 = .ok (.istore 4, 2) := by decide +kernel
theorem dX1_likenessTo_7 : decode cX1_likenessTo 7 = .ok (.iload_n 3, 1) := by decide +kernel
theorem dX1_likenessTo_8 : decode cX1_likenessTo 8 = .ok (.iload 4, 2) := by decide +kernel
theorem dX1_likenessTo_10 : decode cX1_likenessTo 10 = .ok (.invokestatic 125, 3) := by decide +kernel
theorem dX1_likenessTo_13 : decode cX1_likenessTo 13 = .ok (.istore 5, 2) := by decide +kernel
theorem dX1_likenessTo_15 : decode cX1_likenessTo 15 = .ok (.iconst 2, 1) := by decide +kernel
theorem dX1_likenessTo_16 : decode cX1_likenessTo 16 = .ok (.iload_n 3, 1) := by decide +kernel
theorem dX1_likenessTo_17 : decode cX1_likenessTo 17 = .ok (.iload 4, 2) := by decide +kernel
theorem dX1_likenessTo_19 : decode cX1_likenessTo 19 = .ok (.invokestatic 131, 3) := by decide +kernel
theorem dX1_likenessTo_22 : decode cX1_likenessTo 22 = .ok (.imul, 1) := by decide +kernel
theorem dX1_likenessTo_23 : decode cX1_likenessTo 23 = .ok (.iload 5, 2) := by decide +kernel
theorem dX1_likenessTo_25 : decode cX1_likenessTo 25 = .ok (.if_icmp .ge 5, 3) := by decide +kernel
theorem dX1_likenessTo_28 : decode cX1_likenessTo 28 = .ok (.iconst 0, 1) := by decide +kernel
theorem dX1_likenessTo_29 : decode cX1_likenessTo 29 = .ok (.ireturn, 1) := by decide +kernel
theorem dX1_likenessTo_30 : decode cX1_likenessTo 30 = .ok (.aload_n 0, 1) := by decide +kernel
theorem dX1_likenessTo_31 : decode cX1_likenessTo 31 = .ok (.getfield 28, 3) := by decide +kernel
theorem dX1_likenessTo_34 : decode cX1_likenessTo 34 = .ok (.aload_n 1, 1) := by decide +kernel
theorem dX1_likenessTo_35 : decode cX1_likenessTo 35 = .ok (.getfield 114, 3) := by decide +kernel
theorem dX1_likenessTo_38 : decode cX1_likenessTo 38 = .ok (.iload_n 2, 1) := by decide +kernel
theorem dX1_likenessTo_39 : decode cX1_likenessTo 39 = .ok (.bipush 8, 2) := by decide +kernel
theorem dX1_likenessTo_41 : decode cX1_likenessTo 41 = .ok (.imul, 1) := by decide +kernel
theorem dX1_likenessTo_42 : decode cX1_likenessTo 42 = .ok (.iload 4, 2) := by decide +kernel
theorem dX1_likenessTo_44 : decode cX1_likenessTo 44 = .ok (.invokevirtual 87, 3) := by decide +kernel
theorem dX1_likenessTo_47 : decode cX1_likenessTo 47 = .ok (.aload_n 0, 1) := by decide +kernel
theorem dX1_likenessTo_48 : decode cX1_likenessTo 48 = .ok (.getfield 28, 3) := by decide +kernel
theorem dX1_likenessTo_51 : decode cX1_likenessTo 51 = .ok (.invokevirtual 90, 3) := by decide +kernel
theorem dX1_likenessTo_54 : decode cX1_likenessTo 54 = .ok (.istore 6, 2) := by decide +kernel
theorem dX1_likenessTo_56 : decode cX1_likenessTo 56 = .ok (.iconst 2, 1) := by decide +kernel
theorem dX1_likenessTo_57 : decode cX1_likenessTo 57 = .ok (.iload 6, 2) := by decide +kernel
theorem dX1_likenessTo_59 : decode cX1_likenessTo 59 = .ok (.imul, 1) := by decide +kernel
theorem dX1_likenessTo_60 : decode cX1_likenessTo 60 = .ok (.iload 5, 2) := by decide +kernel
theorem dX1_likenessTo_62 : decode cX1_likenessTo 62 = .ok (.if_icmp .lt 8, 3) := by decide +kernel
theorem dX1_likenessTo_65 : decode cX1_likenessTo 65 = .ok (.iload 6, 2) := by decide +kernel
theorem dX1_likenessTo_67 : decode cX1_likenessTo 67 = .ok (.goto 4, 3) := by decide +kernel
theorem dX1_likenessTo_70 : decode cX1_likenessTo 70 = .ok (.iconst 0, 1) := by decide +kernel
theorem dX1_likenessTo_71 : decode cX1_likenessTo 71 = .ok (.ireturn, 1) := by decide +kernel
theorem dX1_editLikest_0 : decode cX1_editLikest 0 = .ok (.iconst 0, 1) := by decide +kernel
theorem dX1_editLikest_1 : decode cX1_editLikest 1 = .ok (.istore 4, 2) := by decide +kernel
theorem dX1_editLikest_3 : decode cX1_editLikest 3 = .ok (.iconst 0, 1) := by decide +kernel
theorem dX1_editLikest_4 : decode cX1_editLikest 4 = .ok (.istore 5, 2) := by decide +kernel
theorem dX1_editLikest_6 : decode cX1_editLikest 6 = .ok (.iconst 0, 1) := by decide +kernel
theorem dX1_editLikest_7 : decode cX1_editLikest 7 = .ok (.istore 6, 2) := by decide +kernel
theorem dX1_editLikest_9 : decode cX1_editLikest 9 = .ok (.iconst 0, 1) := by decide +kernel
theorem dX1_editLikest_10 : decode cX1_editLikest 10 = .ok (.istore 7, 2) := by decide +kernel
theorem dX1_editLikest_12 : decode cX1_editLikest 12 = .ok (.iload 7, 2) := by decide +kernel
theorem dX1_editLikest_14 : decode cX1_editLikest 14 = .ok (.aload_n 1, 1) := by decide +kernel
theorem dX1_editLikest_15 : decode cX1_editLikest 15 = .ok (.getfield 109, 3) := by decide +kernel
theorem dX1_editLikest_18 : decode cX1_editLikest 18 = .ok (.if_icmp .ge 82, 3) := by decide +kernel
theorem dX1_editLikest_21 : decode cX1_editLikest 21 = .ok (.iconst 0, 1) := by decide +kernel
theorem dX1_editLikest_22 : decode cX1_editLikest 22 = .ok (.istore 8, 2) := by decide +kernel
theorem dX1_editLikest_24 : decode cX1_editLikest 24 = .ok (.iload 8, 2) := by decide +kernel
theorem dX1_editLikest_26 : decode cX1_editLikest 26 = .ok (.aload_n 2, 1) := by decide +kernel
theorem dX1_editLikest_27 : decode cX1_editLikest 27 = .ok (.getfield 109, 3) := by decide +kernel
theorem dX1_editLikest_30 : decode cX1_editLikest 30 = .ok (.if_icmp .ge 64, 3) := by decide +kernel
theorem dX1_editLikest_33 : decode cX1_editLikest 33 = .ok (.aload_n 3, 1) := by decide +kernel
theorem dX1_editLikest_34 : decode cX1_editLikest 34 = .ok (.iconst 0, 1) := by decide +kernel
theorem dX1_editLikest_35 : decode cX1_editLikest 35 = .ok (.iload 7, 2) := by decide +kernel
theorem dX1_editLikest_37 : decode cX1_editLikest 37 = .ok (.invokevirtual 106, 3) := by decide +kernel
theorem dX1_editLikest_40 : decode cX1_editLikest 40 = .ok (.ifCond .eq 48, 3) := by decide +kernel
theorem dX1_editLikest_43 : decode cX1_editLikest 43 = .ok (.aload_n 3, 1) := by decide +kernel
theorem dX1_editLikest_44 : decode cX1_editLikest 44 = .ok (.iconst 1, 1) := by decide +kernel
theorem dX1_editLikest_45 : decode cX1_editLikest 45 = .ok (.iload 8, 2) := by decide +kernel
theorem dX1_editLikest_47 : decode cX1_editLikest 47 = .ok (.invokevirtual 106, 3) := by decide +kernel
theorem dX1_editLikest_50 : decode cX1_editLikest 50 = .ok (.ifCond .eq 38, 3) := by decide +kernel
theorem dX1_editLikest_53 : decode cX1_editLikest 53 = .ok (.aload_n 0, 1) := by decide +kernel
theorem dX1_editLikest_54 : decode cX1_editLikest 54 = .ok (.getfield 34, 3) := by decide +kernel
theorem dX1_editLikest_57 : decode cX1_editLikest 57 = .ok (.iload 7, 2) := by decide +kernel
theorem dX1_editLikest_59 : decode cX1_editLikest 59 = .ok (.aaload, 1) := by decide +kernel
theorem dX1_editLikest_60 : decode cX1_editLikest 60 = .ok (.iload 8, 2) := by decide +kernel
theorem dX1_editLikest_62 : decode cX1_editLikest 62 = .ok (.iaload, 1) := by decide +kernel
theorem dX1_editLikest_63 : decode cX1_editLikest 63 = .ok (.iload 4, 2) := by decide +kernel
theorem dX1_editLikest_65 : decode cX1_editLikest 65 = .ok (.if_icmp .le 23, 3) := by decide +kernel
theorem dX1_editLikest_68 : decode cX1_editLikest 68 = .ok (.aload_n 0, 1) := by decide +kernel
theorem dX1_editLikest_69 : decode cX1_editLikest 69 = .ok (.getfield 34, 3) := by decide +kernel
theorem dX1_editLikest_72 : decode cX1_editLikest 72 = .ok (.iload 7, 2) := by decide +kernel
theorem dX1_editLikest_74 : decode cX1_editLikest 74 = .ok (.aaload, 1) := by decide +kernel
theorem dX1_editLikest_75 : decode cX1_editLikest 75 = .ok (.iload 8, 2) := by decide +kernel
theorem dX1_editLikest_77 : decode cX1_editLikest 77 = .ok (.iaload, 1) := by decide +kernel
theorem dX1_editLikest_78 : decode cX1_editLikest 78 = .ok (.istore 4, 2) := by decide +kernel
theorem dX1_editLikest_80 : decode cX1_editLikest 80 = .ok (.iload 7, 2) := by decide +kernel
theorem dX1_editLikest_82 : decode cX1_editLikest 82 = .ok (.istore 5, 2) := by decide +kernel
theorem dX1_editLikest_84 : decode cX1_editLikest 84 = .ok (.iload 8, 2) := by decide +kernel
theorem dX1_editLikest_86 : decode cX1_editLikest 86 = .ok (.istore 6, 2) := by decide +kernel
theorem dX1_editLikest_88 : decode cX1_editLikest 88 = .ok (.iinc 8 1, 3) := by decide +kernel
theorem dX1_editLikest_91 : decode cX1_editLikest 91 = .ok (.goto (-67), 3) := by decide +kernel
theorem dX1_editLikest_94 : decode cX1_editLikest 94 = .ok (.iinc 7 1, 3) := by decide +kernel
theorem dX1_editLikest_97 : decode cX1_editLikest 97 = .ok (.goto (-85), 3) := by decide +kernel
theorem dX1_editLikest_100 : decode cX1_editLikest 100 = .ok (.iload 4, 2) := by decide +kernel
theorem dX1_editLikest_102 : decode cX1_editLikest 102 = .ok (.ifCond .le 40, 3) := by decide +kernel
theorem dX1_editLikest_105 : decode cX1_editLikest 105 = .ok (.aload_n 3, 1) := by decide +kernel
theorem dX1_editLikest_106 : decode cX1_editLikest 106 = .ok (.iconst 2, 1) := by decide +kernel
theorem dX1_editLikest_107 : decode cX1_editLikest 107 = .ok (.iload 5, 2) := by decide +kernel
theorem dX1_editLikest_109 : decode cX1_editLikest 109 = .ok (.iload 6, 2) := by decide +kernel
theorem dX1_editLikest_111 : decode cX1_editLikest 111 = .ok (.iconst (-1), 1) := by decide +kernel
theorem dX1_editLikest_112 : decode cX1_editLikest 112 = .ok (.invokevirtual 134, 3) := by decide +kernel
theorem dX1_editLikest_115 : decode cX1_editLikest 115 = .ok (.aload_n 3, 1) := by decide +kernel
theorem dX1_editLikest_116 : decode cX1_editLikest 116 = .ok (.dup, 1) := by decide +kernel
theorem dX1_editLikest_117 : decode cX1_editLikest 117 = .ok (.getfield 62, 3) := by decide +kernel
theorem dX1_editLikest_120 : decode cX1_editLikest 120 = .ok (.aload_n 1, 1) := by decide +kernel
theorem dX1_editLikest_121 : decode cX1_editLikest 121 = .ok (.iload 5, 2) := by decide +kernel
theorem dX1_editLikest_123 : decode cX1_editLikest 123 = .ok (.invokevirtual 117, 3) := by decide +kernel
theorem dX1_editLikest_126 : decode cX1_editLikest 126 = .ok (.aload_n 2, 1) := by decide +kernel
theorem dX1_editLikest_127 : decode cX1_editLikest 127 = .ok (.iload 6, 2) := by decide +kernel
theorem dX1_editLikest_129 : decode cX1_editLikest 129 = .ok (.invokevirtual 117, 3) := by decide +kernel
theorem dX1_editLikest_132 : decode cX1_editLikest 132 = .ok (.iadd, 1) := by decide +kernel
theorem dX1_editLikest_133 : decode cX1_editLikest 133 = .ok (.iconst 2, 1) := by decide +kernel
theorem dX1_editLikest_134 : decode cX1_editLikest 134 = .ok (.iload 4, 2) := by decide +kernel
theorem dX1_editLikest_136 : decode cX1_editLikest 136 = .ok (.imul, 1) := by decide +kernel
theorem dX1_editLikest_137 : decode cX1_editLikest 137 = .ok (.isub, 1) := by decide +kernel
theorem dX1_editLikest_138 : decode cX1_editLikest 138 = .ok (.iadd, 1) := by decide +kernel
theorem dX1_editLikest_139 : decode cX1_editLikest 139 = .ok (.putfield 62, 3) := by decide +kernel
theorem dX1_editLikest_142 : decode cX1_editLikest 142 = .ok (.iload 4, 2) := by decide +kernel
theorem dX1_editLikest_144 : decode cX1_editLikest 144 = .ok (.ifCond .le 7, 3) := by decide +kernel
theorem dX1_editLikest_147 : decode cX1_editLikest 147 = .ok (.iconst 1, 1) := by decide +kernel
theorem dX1_editLikest_148 : decode cX1_editLikest 148 = .ok (.goto 4, 3) := by decide +kernel
theorem dX1_editLikest_151 : decode cX1_editLikest 151 = .ok (.iconst 0, 1) := by decide +kernel
theorem dX1_editLikest_152 : decode cX1_editLikest 152 = .ok (.ireturn, 1) := by decide +kernel
theorem dX1_looseWords_0 : decode cX1_looseWords 0 = .ok (.iconst 0, 1) := by decide +kernel
theorem dX1_looseWords_1 : decode cX1_looseWords 1 = .ok (.istore_n 3, 1) := by decide +kernel
theorem dX1_looseWords_2 : decode cX1_looseWords 2 = .ok (.iconst 0, 1) := by decide +kernel
theorem dX1_looseWords_3 : decode cX1_looseWords 3 = .ok (.istore 4, 2) := by decide +kernel
theorem dX1_looseWords_5 : decode cX1_looseWords 5 = .ok (.iload 4, 2) := by decide +kernel
theorem dX1_looseWords_7 : decode cX1_looseWords 7 = .ok (.aload_n 1, 1) := by decide +kernel
theorem dX1_looseWords_8 : decode cX1_looseWords 8 = .ok (.getfield 109, 3) := by decide +kernel
theorem dX1_looseWords_11 : decode cX1_looseWords 11 = .ok (.if_icmp .ge 32, 3) := by decide +kernel
theorem dX1_looseWords_14 : decode cX1_looseWords 14 = .ok (.iload_n 3, 1) := by decide +kernel
theorem dX1_looseWords_15 : decode cX1_looseWords 15 = .ok (.aload_n 2, 1) := by decide +kernel
theorem dX1_looseWords_16 : decode cX1_looseWords 16 = .ok (.iload_n 0, 1) := by decide +kernel
theorem dX1_looseWords_17 : decode cX1_looseWords 17 = .ok (.iload 4, 2) := by decide +kernel
theorem dX1_looseWords_19 : decode cX1_looseWords 19 = .ok (.invokevirtual 106, 3) := by decide +kernel
theorem dX1_looseWords_22 : decode cX1_looseWords 22 = .ok (.ifCond .eq 12, 3) := by decide +kernel
theorem dX1_looseWords_25 : decode cX1_looseWords 25 = .ok (.aload_n 1, 1) := by decide +kernel
theorem dX1_looseWords_26 : decode cX1_looseWords 26 = .ok (.iload 4, 2) := by decide +kernel
theorem dX1_looseWords_28 : decode cX1_looseWords 28 = .ok (.invokevirtual 117, 3) := by decide +kernel
theorem dX1_looseWords_31 : decode cX1_looseWords 31 = .ok (.goto 4, 3) := by decide +kernel
theorem dX1_looseWords_34 : decode cX1_looseWords 34 = .ok (.iconst 0, 1) := by decide +kernel
theorem dX1_looseWords_35 : decode cX1_looseWords 35 = .ok (.iadd, 1) := by decide +kernel
theorem dX1_looseWords_36 : decode cX1_looseWords 36 = .ok (.istore_n 3, 1) := by decide +kernel
theorem dX1_looseWords_37 : decode cX1_looseWords 37 = .ok (.iinc 4 1, 3) := by decide +kernel
theorem dX1_looseWords_40 : decode cX1_looseWords 40 = .ok (.goto (-35), 3) := by decide +kernel
theorem dX1_looseWords_43 : decode cX1_looseWords 43 = .ok (.iload_n 3, 1) := by decide +kernel
theorem dX1_looseWords_44 : decode cX1_looseWords 44 = .ok (.ireturn, 1) := by decide +kernel
theorem dX2_init_0 : decode cX2_init 0 = .ok (.aload_n 0, 1) := by decide +kernel
theorem dX2_init_1 : decode cX2_init 1 = .ok (.invokespecial 3, 3) := by decide +kernel
theorem dX2_init_4 : decode cX2_init 4 = .ok (.aload_n 0, 1) := by decide +kernel
theorem dX2_init_5 : decode cX2_init 5 = .ok (.bipush 14, 2) := by decide +kernel
theorem dX2_init_7 : decode cX2_init 7 = .ok (.newarray .int, 2) := by decide +kernel
theorem dX2_init_9 : decode cX2_init 9 = .ok (.putfield 9, 3) := by decide +kernel
theorem dX2_init_12 : decode cX2_init 12 = .ok (.aload_n 0, 1) := by decide +kernel
theorem dX2_init_13 : decode cX2_init 13 = .ok (.bipush 112, 2) := by decide +kernel
theorem dX2_init_15 : decode cX2_init 15 = .ok (.newarray .int, 2) := by decide +kernel
theorem dX2_init_17 : decode cX2_init 17 = .ok (.putfield 15, 3) := by decide +kernel
theorem dX2_init_20 : decode cX2_init 20 = .ok (.aload_n 0, 1) := by decide +kernel
theorem dX2_init_21 : decode cX2_init 21 = .ok (.iconst 0, 1) := by decide +kernel
theorem dX2_init_22 : decode cX2_init 22 = .ok (.putfield 18, 3) := by decide +kernel
theorem dX2_init_25 : decode cX2_init 25 = .ok (.return_, 1) := by decide +kernel
theorem dX2_has_0 : decode cX2_has 0 = .ok (.iload_n 1, 1) := by decide +kernel
theorem dX2_has_1 : decode cX2_has 1 = .ok (.ifCond .lt 15, 3) := by decide +kernel
theorem dX2_has_4 : decode cX2_has 4 = .ok (.iload_n 1, 1) := by decide +kernel
theorem dX2_has_5 : decode cX2_has 5 = .ok (.aload_n 0, 1) := by decide +kernel
theorem dX2_has_6 : decode cX2_has 6 = .ok (.getfield 18, 3) := by decide +kernel
theorem dX2_has_9 : decode cX2_has 9 = .ok (.if_icmp .ge 7, 3) := by decide +kernel
theorem dX2_has_12 : decode cX2_has 12 = .ok (.iconst 1, 1) := by decide +kernel
theorem dX2_has_13 : decode cX2_has 13 = .ok (.goto 4, 3) := by decide +kernel
theorem dX2_has_16 : decode cX2_has 16 = .ok (.iconst 0, 1) := by decide +kernel
theorem dX2_has_17 : decode cX2_has 17 = .ok (.ireturn, 1) := by decide +kernel
theorem dX2_sizeOf_0 : decode cX2_sizeOf 0 = .ok (.aload_n 0, 1) := by decide +kernel
theorem dX2_sizeOf_1 : decode cX2_sizeOf 1 = .ok (.iload_n 1, 1) := by decide +kernel
theorem dX2_sizeOf_2 : decode cX2_sizeOf 2 = .ok (.invokevirtual 22, 3) := by decide +kernel
theorem dX2_sizeOf_5 : decode cX2_sizeOf 5 = .ok (.ifCond .eq 12, 3) := by decide +kernel
theorem dX2_sizeOf_8 : decode cX2_sizeOf 8 = .ok (.aload_n 0, 1) := by decide +kernel
theorem dX2_sizeOf_9 : decode cX2_sizeOf 9 = .ok (.getfield 9, 3) := by decide +kernel
theorem dX2_sizeOf_12 : decode cX2_sizeOf 12 = .ok (.iload_n 1, 1) := by decide +kernel
theorem dX2_sizeOf_13 : decode cX2_sizeOf 13 = .ok (.iaload, 1) := by decide +kernel
theorem dX2_sizeOf_14 : decode cX2_sizeOf 14 = .ok (.goto 4, 3) := by decide +kernel
theorem dX2_sizeOf_17 : decode cX2_sizeOf 17 = .ok (.iconst 0, 1) := by decide +kernel
theorem dX2_sizeOf_18 : decode cX2_sizeOf 18 = .ok (.ireturn, 1) := by decide +kernel
theorem dX2_wordAt_0 : decode cX2_wordAt 0 = .ok (.iload_n 2, 1) := by decide +kernel
theorem dX2_wordAt_1 : decode cX2_wordAt 1 = .ok (.ifCond .lt 26, 3) := by decide +kernel
theorem dX2_wordAt_4 : decode cX2_wordAt 4 = .ok (.iload_n 2, 1) := by decide +kernel
theorem dX2_wordAt_5 : decode cX2_wordAt 5 = .ok (.aload_n 0, 1) := by decide +kernel
theorem dX2_wordAt_6 : decode cX2_wordAt 6 = .ok (.iload_n 1, 1) := by decide +kernel
theorem dX2_wordAt_7 : decode cX2_wordAt 7 = .ok (.invokevirtual 26, 3) := by decide +kernel
theorem dX2_wordAt_10 : decode cX2_wordAt 10 = .ok (.if_icmp .ge 17, 3) := by decide +kernel
theorem dX2_wordAt_13 : decode cX2_wordAt 13 = .ok (.aload_n 0, 1) := by decide +kernel
theorem dX2_wordAt_14 : decode cX2_wordAt 14 = .ok (.getfield 15, 3) := by decide +kernel
theorem dX2_wordAt_17 : decode cX2_wordAt 17 = .ok (.iload_n 1, 1) := by decide +kernel
theorem dX2_wordAt_18 : decode cX2_wordAt 18 = .ok (.bipush 8, 2) := by decide +kernel
theorem dX2_wordAt_20 : decode cX2_wordAt 20 = .ok (.imul, 1) := by decide +kernel
theorem dX2_wordAt_21 : decode cX2_wordAt 21 = .ok (.iload_n 2, 1) := by decide +kernel
theorem dX2_wordAt_22 : decode cX2_wordAt 22 = .ok (.iadd, 1) := by decide +kernel
theorem dX2_wordAt_23 : decode cX2_wordAt 23 = .ok (.iaload, 1) := by decide +kernel
theorem dX2_wordAt_24 : decode cX2_wordAt 24 = .ok (.goto 4, 3) := by decide +kernel
theorem dX2_wordAt_27 : decode cX2_wordAt 27 = .ok (.iconst 0, 1) := by decide +kernel
theorem dX2_wordAt_28 : decode cX2_wordAt 28 = .ok (.ireturn, 1) := by decide +kernel
theorem dX2_lettersOf_0 : decode cX2_lettersOf 0 = .ok (.aload_n 0, 1) := by decide +kernel
theorem dX2_lettersOf_1 : decode cX2_lettersOf 1 = .ok (.iload_n 1, 1) := by decide +kernel
theorem dX2_lettersOf_2 : decode cX2_lettersOf 2 = .ok (.iload_n 2, 1) := by decide +kernel
theorem dX2_lettersOf_3 : decode cX2_lettersOf 3 = .ok (.invokevirtual 30, 3) := by decide +kernel
theorem dX2_lettersOf_6 : decode cX2_lettersOf 6 = .ok (.istore_n 3, 1) := by decide +kernel
theorem dX2_lettersOf_7 : decode cX2_lettersOf 7 = .ok (.iconst 0, 1) := by decide +kernel
theorem dX2_lettersOf_8 : decode cX2_lettersOf 8 = .ok (.istore 4, 2) := by decide +kernel
theorem dX2_lettersOf_10 : decode cX2_lettersOf 10 = .ok (.iload 4, 2) := by decide +kernel
theorem dX2_lettersOf_12 : decode cX2_lettersOf 12 = .ok (.bipush 6, 2) := by decide +kernel
theorem dX2_lettersOf_14 : decode cX2_lettersOf 14 = .ok (.if_icmp .ge 18, 3) := by decide +kernel
theorem dX2_lettersOf_17 : decode cX2_lettersOf 17 = .ok (.iload_n 3, 1) := by decide +kernel
theorem dX2_lettersOf_18 : decode cX2_lettersOf 18 = .ok (.iload 4, 2) := by decide +kernel
theorem dX2_lettersOf_20 : decode cX2_lettersOf 20 = .ok (.invokestatic 34, 3) := by decide +kernel
theorem dX2_lettersOf_23 : decode cX2_lettersOf 23 = .ok (.ifCond .eq 9, 3) := by decide +kernel
theorem dX2_lettersOf_26 : decode cX2_lettersOf 26 = .ok (.iinc 4 1, 3) := by decide +kernel
theorem dX2_lettersOf_29 : decode cX2_lettersOf 29 = .ok (.goto (-19), 3) := by decide +kernel
theorem dX2_lettersOf_32 : decode cX2_lettersOf 32 = .ok (.iload 4, 2) := by decide +kernel
theorem dX2_lettersOf_34 : decode cX2_lettersOf 34 = .ok (.ireturn, 1) := by decide +kernel
theorem dX2_isLike_0 : decode cX2_isLike 0 = .ok (.aload_n 0, 1) := by decide +kernel
theorem dX2_isLike_1 : decode cX2_isLike 1 = .ok (.iload_n 1, 1) := by decide +kernel
theorem dX2_isLike_2 : decode cX2_isLike 2 = .ok (.invokevirtual 22, 3) := by decide +kernel
theorem dX2_isLike_5 : decode cX2_isLike 5 = .ok (.ifCond .eq 26, 3) := by decide +kernel
theorem dX2_isLike_8 : decode cX2_isLike 8 = .ok (.aload_n 2, 1) := by decide +kernel
theorem dX2_isLike_9 : decode cX2_isLike 9 = .ok (.iload_n 3, 1) := by decide +kernel
theorem dX2_isLike_10 : decode cX2_isLike 10 = .ok (.invokevirtual 22, 3) := by decide +kernel
theorem dX2_isLike_13 : decode cX2_isLike 13 = .ok (.ifCond .eq 18, 3) := by decide +kernel
theorem dX2_isLike_16 : decode cX2_isLike 16 = .ok (.aload_n 0, 1) := by decide +kernel
theorem dX2_isLike_17 : decode cX2_isLike 17 = .ok (.getfield 9, 3) := by decide +kernel
theorem dX2_isLike_20 : decode cX2_isLike 20 = .ok (.iload_n 1, 1) := by decide +kernel
theorem dX2_isLike_21 : decode cX2_isLike 21 = .ok (.iaload, 1) := by decide +kernel
theorem dX2_isLike_22 : decode cX2_isLike 22 = .ok (.aload_n 2, 1) := by decide +kernel
theorem dX2_isLike_23 : decode cX2_isLike 23 = .ok (.getfield 9, 3) := by decide +kernel
theorem dX2_isLike_26 : decode cX2_isLike 26 = .ok (.iload_n 3, 1) := by decide +kernel
theorem dX2_isLike_27 : decode cX2_isLike 27 = .ok (.iaload, 1) := by decide +kernel
theorem dX2_isLike_28 : decode cX2_isLike 28 = .ok (.if_icmp .eq 5, 3) := by decide +kernel
theorem dX2_isLike_31 : decode cX2_isLike 31 = .ok (.iconst 0, 1) := by decide +kernel
theorem dX2_isLike_32 : decode cX2_isLike 32 = .ok (.ireturn, 1) := by decide +kernel
theorem dX2_isLike_33 : decode cX2_isLike 33 = .ok (.iload_n 1, 1) := by decide +kernel
theorem dX2_isLike_34 : decode cX2_isLike 34 = .ok (.bipush 8, 2) := by decide +kernel
theorem dX2_isLike_36 : decode cX2_isLike 36 = .ok (.imul, 1) := by decide +kernel
theorem dX2_isLike_37 : decode cX2_isLike 37 = .ok (.istore 4, 2) := by decide +kernel
theorem dX2_isLike_39 : decode cX2_isLike 39 = .ok (.iload_n 3, 1) := by decide +kernel
theorem dX2_isLike_40 : decode cX2_isLike 40 = .ok (.bipush 8, 2) := by decide +kernel
theorem dX2_isLike_42 : decode cX2_isLike 42 = .ok (.imul, 1) := by decide +kernel
theorem dX2_isLike_43 : decode cX2_isLike 43 = .ok (.istore 5, 2) := by decide +kernel
theorem dX2_isLike_45 : decode cX2_isLike 45 = .ok (.iconst 0, 1) := by decide +kernel
theorem dX2_isLike_46 : decode cX2_isLike 46 = .ok (.istore 6, 2) := by decide +kernel
theorem dX2_isLike_48 : decode cX2_isLike 48 = .ok (.iload 6, 2) := by decide +kernel
theorem dX2_isLike_50 : decode cX2_isLike 50 = .ok (.aload_n 0, 1) := by decide +kernel
theorem dX2_isLike_51 : decode cX2_isLike 51 = .ok (.getfield 9, 3) := by decide +kernel
theorem dX2_isLike_54 : decode cX2_isLike 54 = .ok (.iload_n 1, 1) := by decide +kernel
theorem dX2_isLike_55 : decode cX2_isLike 55 = .ok (.iaload, 1) := by decide +kernel
theorem dX2_isLike_56 : decode cX2_isLike 56 = .ok (.if_icmp .ge 34, 3) := by decide +kernel
theorem dX2_isLike_59 : decode cX2_isLike 59 = .ok (.aload_n 0, 1) := by decide +kernel
theorem dX2_isLike_60 : decode cX2_isLike 60 = .ok (.getfield 15, 3) := by decide +kernel
theorem dX2_isLike_63 : decode cX2_isLike 63 = .ok (.iload 4, 2) := by decide +kernel
theorem dX2_isLike_65 : decode cX2_isLike 65 = .ok (.iload 6, 2) := by decide +kernel
theorem dX2_isLike_67 : decode cX2_isLike 67 = .ok (.iadd, 1) := by decide +kernel
theorem dX2_isLike_68 : decode cX2_isLike 68 = .ok (.iaload, 1) := by decide +kernel
theorem dX2_isLike_69 : decode cX2_isLike 69 = .ok (.aload_n 2, 1) := by decide +kernel
theorem dX2_isLike_70 : decode cX2_isLike 70 = .ok (.getfield 15, 3) := by decide +kernel
theorem dX2_isLike_73 : decode cX2_isLike 73 = .ok (.iload 5, 2) := by decide +kernel
theorem dX2_isLike_75 : decode cX2_isLike 75 = .ok (.iload 6, 2) := by decide +kernel
theorem dX2_isLike_77 : decode cX2_isLike 77 = .ok (.iadd, 1) := by decide +kernel
theorem dX2_isLike_78 : decode cX2_isLike 78 = .ok (.iaload, 1) := by decide +kernel
theorem dX2_isLike_79 : decode cX2_isLike 79 = .ok (.if_icmp .eq 5, 3) := by decide +kernel
theorem dX2_isLike_82 : decode cX2_isLike 82 = .ok (.iconst 0, 1) := by decide +kernel
theorem dX2_isLike_83 : decode cX2_isLike 83 = .ok (.ireturn, 1) := by decide +kernel
theorem dX2_isLike_84 : decode cX2_isLike 84 = .ok (.iinc 6 1, 3) := by decide +kernel
theorem dX2_isLike_87 : decode cX2_isLike 87 = .ok (.goto (-39), 3) := by decide +kernel
theorem dX2_isLike_90 : decode cX2_isLike 90 = .ok (.iconst 1, 1) := by decide +kernel
theorem dX2_isLike_91 : decode cX2_isLike 91 = .ok (.ireturn, 1) := by decide +kernel
theorem dX2_copyAll_0 : decode cX2_copyAll 0 = .ok (.aload_n 0, 1) := by decide +kernel
theorem dX2_copyAll_1 : decode cX2_copyAll 1 = .ok (.aload_n 1, 1) := by decide +kernel
theorem dX2_copyAll_2 : decode cX2_copyAll 2 = .ok (.getfield 18, 3) := by decide +kernel
theorem dX2_copyAll_5 : decode cX2_copyAll 5 = .ok (.putfield 18, 3) := by decide +kernel
theorem dX2_copyAll_8 : decode cX2_copyAll 8 = .ok (.iconst 0, 1) := by decide +kernel
theorem dX2_copyAll_9 : decode cX2_copyAll 9 = .ok (.istore_n 2, 1) := by decide +kernel
theorem dX2_copyAll_10 : decode cX2_copyAll 10 = .ok (.iload_n 2, 1) := by decide +kernel
theorem dX2_copyAll_11 : decode cX2_copyAll 11 = .ok (.aload_n 0, 1) := by decide +kernel
theorem dX2_copyAll_12 : decode cX2_copyAll 12 = .ok (.getfield 18, 3) := by decide +kernel
theorem dX2_copyAll_15 : decode cX2_copyAll 15 = .ok (.if_icmp .ge 16, 3) := by decide +kernel
theorem dX2_copyAll_18 : decode cX2_copyAll 18 = .ok (.aload_n 0, 1) := by decide +kernel
theorem dX2_copyAll_19 : decode cX2_copyAll 19 = .ok (.iload_n 2, 1) := by decide +kernel
theorem dX2_copyAll_20 : decode cX2_copyAll 20 = .ok (.aload_n 1, 1) := by decide +kernel
theorem dX2_copyAll_21 : decode cX2_copyAll 21 = .ok (.iload_n 2, 1) := by decide +kernel
theorem dX2_copyAll_22 : decode cX2_copyAll 22 = .ok (.invokevirtual 37, 3) := by decide +kernel
theorem dX2_copyAll_25 : decode cX2_copyAll 25 = .ok (.iinc 2 1, 3) := by decide +kernel
theorem dX2_copyAll_28 : decode cX2_copyAll 28 = .ok (.goto (-18), 3) := by decide +kernel
theorem dX2_copyAll_31 : decode cX2_copyAll 31 = .ok (.return_, 1) := by decide +kernel
theorem dX2_setLine_0 : decode cX2_setLine 0 = .ok (.aload_n 0, 1) := by decide +kernel
theorem dX2_setLine_1 : decode cX2_setLine 1 = .ok (.iload_n 1, 1) := by decide +kernel
theorem dX2_setLine_2 : decode cX2_setLine 2 = .ok (.invokevirtual 22, 3) := by decide +kernel
theorem dX2_setLine_5 : decode cX2_setLine 5 = .ok (.ifCond .eq 11, 3) := by decide +kernel
theorem dX2_setLine_8 : decode cX2_setLine 8 = .ok (.aload_n 2, 1) := by decide +kernel
theorem dX2_setLine_9 : decode cX2_setLine 9 = .ok (.iload_n 3, 1) := by decide +kernel
theorem dX2_setLine_10 : decode cX2_setLine 10 = .ok (.invokevirtual 22, 3) := by decide +kernel
theorem dX2_setLine_13 : decode cX2_setLine 13 = .ok (.ifCond .ne 4, 3) := by decide +kernel
theorem dX2_setLine_16 : decode cX2_setLine 16 = .ok (.return_, 1) := by decide +kernel
theorem dX2_setLine_17 : decode cX2_setLine 17 = .ok (.aload_n 0, 1) := by decide +kernel
theorem dX2_setLine_18 : decode cX2_setLine 18 = .ok (.getfield 9, 3) := by decide +kernel
theorem dX2_setLine_21 : decode cX2_setLine 21 = .ok (.iload_n 1, 1) := by decide +kernel
theorem dX2_setLine_22 : decode cX2_setLine 22 = .ok (.aload_n 2, 1) := by decide +kernel
theorem dX2_setLine_23 : decode cX2_setLine 23 = .ok (.getfield 9, 3) := by decide +kernel
theorem dX2_setLine_26 : decode cX2_setLine 26 = .ok (.iload_n 3, 1) := by decide +kernel
theorem dX2_setLine_27 : decode cX2_setLine 27 = .ok (.iaload, 1) := by decide +kernel
theorem dX2_setLine_28 : decode cX2_setLine 28 = .ok (.iastore, 1) := by decide +kernel
theorem dX2_setLine_29 : decode cX2_setLine 29 = .ok (.aload_n 2, 1) := by decide +kernel
theorem dX2_setLine_30 : decode cX2_setLine 30 = .ok (.getfield 15, 3) := by decide +kernel
theorem dX2_setLine_33 : decode cX2_setLine 33 = .ok (.iload_n 3, 1) := by decide +kernel
theorem dX2_setLine_34 : decode cX2_setLine 34 = .ok (.bipush 8, 2) := by decide +kernel
theorem dX2_setLine_36 : decode cX2_setLine 36 = .ok (.imul, 1) := by decide +kernel
theorem dX2_setLine_37 : decode cX2_setLine 37 = .ok (.aload_n 0, 1) := by decide +kernel
theorem dX2_setLine_38 : decode cX2_setLine 38 = .ok (.getfield 15, 3) := by decide +kernel
theorem dX2_setLine_41 : decode cX2_setLine 41 = .ok (.iload_n 1, 1) := by decide +kernel
theorem dX2_setLine_42 : decode cX2_setLine 42 = .ok (.bipush 8, 2) := by decide +kernel
theorem dX2_setLine_44 : decode cX2_setLine 44 = .ok (.imul, 1) := by decide +kernel
theorem dX2_setLine_45 : decode cX2_setLine 45 = .ok (.aload_n 0, 1) := by decide +kernel
theorem dX2_setLine_46 : decode cX2_setLine 46 = .ok (.getfield 9, 3) := by decide +kernel
theorem dX2_setLine_49 : decode cX2_setLine 49 = .ok (.iload_n 1, 1) := by decide +kernel
theorem dX2_setLine_50 : decode cX2_setLine 50 = .ok (.iaload, 1) := by decide +kernel
theorem dX2_setLine_51 : decode cX2_setLine 51 = .ok (.invokestatic 41, 3) := by decide +kernel
theorem dX2_setLine_54 : decode cX2_setLine 54 = .ok (.return_, 1) := by decide +kernel
theorem dX2_insertLine_0 : decode cX2_insertLine 0 = .ok (.aload_n 0, 1) := by decide +kernel
theorem dX2_insertLine_1 : decode cX2_insertLine 1 = .ok (.getfield 18, 3) := by decide +kernel
theorem dX2_insertLine_4 : decode cX2_insertLine 4 = .ok (.bipush 14, 2) := by decide +kernel
theorem dX2_insertLine_6 : decode cX2_insertLine 6 = .ok (.if_icmp .lt 4, 3) := by decide +kernel
theorem dX2_insertLine_9 : decode cX2_insertLine 9 = .ok (.return_, 1) := by decide +kernel
theorem dX2_insertLine_10 : decode cX2_insertLine 10 = .ok (.aload_n 0, 1) := by decide +kernel
theorem dX2_insertLine_11 : decode cX2_insertLine 11 = .ok (.dup, 1) := by decide +kernel
theorem dX2_insertLine_12 : decode cX2_insertLine 12 = .ok (.getfield 18, 3) := by decide +kernel
theorem dX2_insertLine_15 : decode cX2_insertLine 15 = .ok (.iconst 1, 1) := by decide +kernel
theorem dX2_insertLine_16 : decode cX2_insertLine 16 = .ok (.iadd, 1) := by decide +kernel
theorem dX2_insertLine_17 : decode cX2_insertLine 17 = .ok (.putfield 18, 3) := by decide +kernel
theorem dX2_insertLine_20 : decode cX2_insertLine 20 = .ok (.aload_n 0, 1) := by decide +kernel
theorem dX2_insertLine_21 : decode cX2_insertLine 21 = .ok (.getfield 18, 3) := by decide +kernel
theorem dX2_insertLine_24 : decode cX2_insertLine 24 = .ok (.iconst 1, 1) := by decide +kernel
theorem dX2_insertLine_25 : decode cX2_insertLine 25 = .ok (.isub, 1) := by decide +kernel
theorem dX2_insertLine_26 : decode cX2_insertLine 26 = .ok (.istore 4, 2) := by decide +kernel
theorem dX2_insertLine_28 : decode cX2_insertLine 28 = .ok (.iload 4, 2) := by decide +kernel
theorem dX2_insertLine_30 : decode cX2_insertLine 30 = .ok (.iload_n 1, 1) := by decide +kernel
theorem dX2_insertLine_31 : decode cX2_insertLine 31 = .ok (.if_icmp .le 20, 3) := by decide +kernel
theorem dX2_insertLine_34 : decode cX2_insertLine 34 = .ok (.aload_n 0, 1) := by decide +kernel
theorem dX2_insertLine_35 : decode cX2_insertLine 35 = .ok (.iload 4, 2) := by decide +kernel
theorem dX2_insertLine_37 : decode cX2_insertLine 37 = .ok (.aload_n 0, 1) := by decide +kernel
theorem dX2_insertLine_38 : decode cX2_insertLine 38 = .ok (.iload 4, 2) := by decide +kernel
theorem dX2_insertLine_40 : decode cX2_insertLine 40 = .ok (.iconst 1, 1) := by decide +kernel
theorem dX2_insertLine_41 : decode cX2_insertLine 41 = .ok (.isub, 1) := by decide +kernel
theorem dX2_insertLine_42 : decode cX2_insertLine 42 = .ok (.invokevirtual 37, 3) := by decide +kernel
theorem dX2_insertLine_45 : decode cX2_insertLine 45 = .ok (.iinc 4 (-1), 3) := by decide +kernel
theorem dX2_insertLine_48 : decode cX2_insertLine 48 = .ok (.goto (-20), 3) := by decide +kernel
theorem dX2_insertLine_51 : decode cX2_insertLine 51 = .ok (.aload_n 0, 1) := by decide +kernel
theorem dX2_insertLine_52 : decode cX2_insertLine 52 = .ok (.iload_n 1, 1) := by decide +kernel
theorem dX2_insertLine_53 : decode cX2_insertLine 53 = .ok (.aload_n 2, 1) := by decide +kernel
theorem dX2_insertLine_54 : decode cX2_insertLine 54 = .ok (.iload_n 3, 1) := by decide +kernel
theorem dX2_insertLine_55 : decode cX2_insertLine 55 = .ok (.invokevirtual 37, 3) := by decide +kernel
theorem dX2_insertLine_58 : decode cX2_insertLine 58 = .ok (.return_, 1) := by decide +kernel
theorem dX2_removeLine_0 : decode cX2_removeLine 0 = .ok (.aload_n 0, 1) := by decide +kernel
theorem dX2_removeLine_1 : decode cX2_removeLine 1 = .ok (.iload_n 1, 1) := by decide +kernel
theorem dX2_removeLine_2 : decode cX2_removeLine 2 = .ok (.invokevirtual 22, 3) := by decide +kernel
theorem dX2_removeLine_5 : decode cX2_removeLine 5 = .ok (.ifCond .ne 4, 3) := by decide +kernel
theorem dX2_removeLine_8 : decode cX2_removeLine 8 = .ok (.return_, 1) := by decide +kernel
theorem dX2_removeLine_9 : decode cX2_removeLine 9 = .ok (.iload_n 1, 1) := by decide +kernel
theorem dX2_removeLine_10 : decode cX2_removeLine 10 = .ok (.iconst 1, 1) := by decide +kernel
theorem dX2_removeLine_11 : decode cX2_removeLine 11 = .ok (.iadd, 1) := by decide +kernel
theorem dX2_removeLine_12 : decode cX2_removeLine 12 = .ok (.istore_n 2, 1) := by decide +kernel
theorem dX2_removeLine_13 : decode cX2_removeLine 13 = .ok (.iload_n 2, 1) := by decide +kernel
theorem dX2_removeLine_14 : decode cX2_removeLine 14 = .ok (.aload_n 0, 1) := by decide +kernel
theorem dX2_removeLine_15 : decode cX2_removeLine 15 = .ok (.getfield 18, 3) := by decide +kernel
theorem dX2_removeLine_18 : decode cX2_removeLine 18 = .ok (.if_icmp .ge 18, 3) := by decide +kernel
theorem dX2_removeLine_21 : decode cX2_removeLine 21 = .ok (.aload_n 0, 1) := by decide +kernel
theorem dX2_removeLine_22 : decode cX2_removeLine 22 = .ok (.iload_n 2, 1) := by decide +kernel
theorem dX2_removeLine_23 : decode cX2_removeLine 23 = .ok (.iconst 1, 1) := by decide +kernel
theorem dX2_removeLine_24 : decode cX2_removeLine 24 = .ok (.isub, 1) := by decide +kernel
theorem dX2_removeLine_25 : decode cX2_removeLine 25 = .ok (.aload_n 0, 1) := by decide +kernel
theorem dX2_removeLine_26 : decode cX2_removeLine 26 = .ok (.iload_n 2, 1) := by decide +kernel
theorem dX2_removeLine_27 : decode cX2_removeLine 27 = .ok (.invokevirtual 37, 3) := by decide +kernel
theorem dX2_removeLine_30 : decode cX2_removeLine 30 = .ok (.iinc 2 1, 3) := by decide +kernel
theorem dX2_removeLine_33 : decode cX2_removeLine 33 = .ok (.goto (-20), 3) := by decide +kernel
theorem dX2_removeLine_36 : decode cX2_removeLine 36 = .ok (.aload_n 0, 1) := by decide +kernel
theorem dX2_removeLine_37 : decode cX2_removeLine 37 = .ok (.dup, 1) := by decide +kernel
theorem dX2_removeLine_38 : decode cX2_removeLine 38 = .ok (.getfield 18, 3) := by decide +kernel
theorem dX2_removeLine_41 : decode cX2_removeLine 41 = .ok (.iconst 1, 1) := by decide +kernel
theorem dX2_removeLine_42 : decode cX2_removeLine 42 = .ok (.isub, 1) := by decide +kernel
theorem dX2_removeLine_43 : decode cX2_removeLine 43 = .ok (.putfield 18, 3) := by decide +kernel
theorem dX2_removeLine_46 : decode cX2_removeLine 46 = .ok (.return_, 1) := by decide +kernel
theorem dX2_arrangeFrom_0 : decode cX2_arrangeFrom 0 = .ok (.iconst 0, 1) := by decide +kernel
theorem dX2_arrangeFrom_1 : decode cX2_arrangeFrom 1 = .ok (.istore 5, 2) := by decide +kernel
theorem dX2_arrangeFrom_3 : decode cX2_arrangeFrom 3 = .ok (.iload 5, 2) := by decide +kernel
theorem dX2_arrangeFrom_5 : decode cX2_arrangeFrom 5 = .ok (.aload_n 0, 1) := by decide +kernel
theorem dX2_arrangeFrom_6 : decode cX2_arrangeFrom 6 = .ok (.getfield 18, 3) := by decide +kernel
theorem dX2_arrangeFrom_9 : decode cX2_arrangeFrom 9 = .ok (.if_icmp .ge 25, 3) := by decide +kernel
theorem dX2_arrangeFrom_12 : decode cX2_arrangeFrom 12 = .ok (.aload_n 0, 1) := by decide +kernel
theorem dX2_arrangeFrom_13 : decode cX2_arrangeFrom 13 = .ok (.iload 5, 2) := by decide +kernel
theorem dX2_arrangeFrom_15 : decode cX2_arrangeFrom 15 = .ok (.aload_n 1, 1) := by decide +kernel
theorem dX2_arrangeFrom_16 : decode cX2_arrangeFrom 16 = .ok (.iload 5, 2) := by decide +kernel
theorem dX2_arrangeFrom_18 : decode cX2_arrangeFrom 18 = .ok (.iload_n 2, 1) := by decide +kernel
theorem dX2_arrangeFrom_19 : decode cX2_arrangeFrom 19 = .ok (.iload_n 3, 1) := by decide +kernel
theorem dX2_arrangeFrom_20 : decode cX2_arrangeFrom 20 = .ok (.iload 4, 2) := by decide +kernel
theorem dX2_arrangeFrom_22 : decode cX2_arrangeFrom 22 = .ok (.invokestatic 47, 3) := by decide +kernel
theorem dX2_arrangeFrom_25 : decode cX2_arrangeFrom 25 = .ok (.invokevirtual 37, 3) := by decide +kernel
theorem dX2_arrangeFrom_28 : decode cX2_arrangeFrom 28 = .ok (.iinc 5 1, 3) := by decide +kernel
theorem dX2_arrangeFrom_31 : decode cX2_arrangeFrom 31 = .ok (.goto (-28), 3) := by decide +kernel
theorem dX2_arrangeFrom_34 : decode cX2_arrangeFrom 34 = .ok (.return_, 1) := by decide +kernel
theorem dX2_sourceOf_0 : decode cX2_sourceOf 0 = .ok (.iload_n 0, 1) := by decide +kernel
theorem dX2_sourceOf_1 : decode cX2_sourceOf 1 = .ok (.iload_n 3, 1) := by decide +kernel
theorem dX2_sourceOf_2 : decode cX2_sourceOf 2 = .ok (.if_icmp .lt 16, 3) := by decide +kernel
theorem dX2_sourceOf_5 : decode cX2_sourceOf 5 = .ok (.iload_n 0, 1) := by decide +kernel
theorem dX2_sourceOf_6 : decode cX2_sourceOf 6 = .ok (.iload_n 3, 1) := by decide +kernel
theorem dX2_sourceOf_7 : decode cX2_sourceOf 7 = .ok (.iload_n 2, 1) := by decide +kernel
theorem dX2_sourceOf_8 : decode cX2_sourceOf 8 = .ok (.iadd, 1) := by decide +kernel
theorem dX2_sourceOf_9 : decode cX2_sourceOf 9 = .ok (.if_icmp .ge 9, 3) := by decide +kernel
theorem dX2_sourceOf_12 : decode cX2_sourceOf 12 = .ok (.iload_n 1, 1) := by decide +kernel
theorem dX2_sourceOf_13 : decode cX2_sourceOf 13 = .ok (.iload_n 0, 1) := by decide +kernel
theorem dX2_sourceOf_14 : decode cX2_sourceOf 14 = .ok (.iadd, 1) := by decide +kernel
theorem dX2_sourceOf_15 : decode cX2_sourceOf 15 = .ok (.iload_n 3, 1) := by decide +kernel
theorem dX2_sourceOf_16 : decode cX2_sourceOf 16 = .ok (.isub, 1) := by decide +kernel
theorem dX2_sourceOf_17 : decode cX2_sourceOf 17 = .ok (.ireturn, 1) := by decide +kernel
theorem dX2_sourceOf_18 : decode cX2_sourceOf 18 = .ok (.iload_n 0, 1) := by decide +kernel
theorem dX2_sourceOf_19 : decode cX2_sourceOf 19 = .ok (.iload_n 3, 1) := by decide +kernel
theorem dX2_sourceOf_20 : decode cX2_sourceOf 20 = .ok (.if_icmp .ge 7, 3) := by decide +kernel
theorem dX2_sourceOf_23 : decode cX2_sourceOf 23 = .ok (.iload_n 0, 1) := by decide +kernel
theorem dX2_sourceOf_24 : decode cX2_sourceOf 24 = .ok (.goto 6, 3) := by decide +kernel
theorem dX2_sourceOf_27 : decode cX2_sourceOf 27 = .ok (.iload_n 0, 1) := by decide +kernel
theorem dX2_sourceOf_28 : decode cX2_sourceOf 28 = .ok (.iload_n 2, 1) := by decide +kernel
theorem dX2_sourceOf_29 : decode cX2_sourceOf 29 = .ok (.isub, 1) := by decide +kernel
theorem dX2_sourceOf_30 : decode cX2_sourceOf 30 = .ok (.istore 4, 2) := by decide +kernel
theorem dX2_sourceOf_32 : decode cX2_sourceOf 32 = .ok (.iload 4, 2) := by decide +kernel
theorem dX2_sourceOf_34 : decode cX2_sourceOf 34 = .ok (.iload_n 1, 1) := by decide +kernel
theorem dX2_sourceOf_35 : decode cX2_sourceOf 35 = .ok (.if_icmp .ge 8, 3) := by decide +kernel
theorem dX2_sourceOf_38 : decode cX2_sourceOf 38 = .ok (.iload 4, 2) := by decide +kernel
theorem dX2_sourceOf_40 : decode cX2_sourceOf 40 = .ok (.goto 7, 3) := by decide +kernel
theorem dX2_sourceOf_43 : decode cX2_sourceOf 43 = .ok (.iload 4, 2) := by decide +kernel
theorem dX2_sourceOf_45 : decode cX2_sourceOf 45 = .ok (.iload_n 2, 1) := by decide +kernel
theorem dX2_sourceOf_46 : decode cX2_sourceOf 46 = .ok (.iadd, 1) := by decide +kernel
theorem dX2_sourceOf_47 : decode cX2_sourceOf 47 = .ok (.ireturn, 1) := by decide +kernel
theorem dX3_init_0 : decode cX3_init 0 = .ok (.aload_n 0, 1) := by decide +kernel
theorem dX3_init_1 : decode cX3_init 1 = .ok (.invokespecial 3, 3) := by decide +kernel
theorem dX3_init_4 : decode cX3_init 4 = .ok (.aload_n 0, 1) := by decide +kernel
theorem dX3_init_5 : decode cX3_init 5 = .ok (.bipush 14, 2) := by decide +kernel
theorem dX3_init_7 : decode cX3_init 7 = .ok (.newarray .int, 2) := by decide +kernel
theorem dX3_init_9 : decode cX3_init 9 = .ok (.putfield 9, 3) := by decide +kernel
theorem dX3_init_12 : decode cX3_init 12 = .ok (.aload_n 0, 1) := by decide +kernel
theorem dX3_init_13 : decode cX3_init 13 = .ok (.bipush 14, 2) := by decide +kernel
theorem dX3_init_15 : decode cX3_init 15 = .ok (.newarray .int, 2) := by decide +kernel
theorem dX3_init_17 : decode cX3_init 17 = .ok (.putfield 15, 3) := by decide +kernel
theorem dX3_init_20 : decode cX3_init 20 = .ok (.aload_n 0, 1) := by decide +kernel
theorem dX3_init_21 : decode cX3_init 21 = .ok (.bipush 14, 2) := by decide +kernel
theorem dX3_init_23 : decode cX3_init 23 = .ok (.newarray .int, 2) := by decide +kernel
theorem dX3_init_25 : decode cX3_init 25 = .ok (.putfield 18, 3) := by decide +kernel
theorem dX3_init_28 : decode cX3_init 28 = .ok (.aload_n 0, 1) := by decide +kernel
theorem dX3_init_29 : decode cX3_init 29 = .ok (.bipush 14, 2) := by decide +kernel
theorem dX3_init_31 : decode cX3_init 31 = .ok (.newarray .int, 2) := by decide +kernel
theorem dX3_init_33 : decode cX3_init 33 = .ok (.putfield 21, 3) := by decide +kernel
theorem dX3_init_36 : decode cX3_init 36 = .ok (.aload_n 0, 1) := by decide +kernel
theorem dX3_init_37 : decode cX3_init 37 = .ok (.iconst 0, 1) := by decide +kernel
theorem dX3_init_38 : decode cX3_init 38 = .ok (.putfield 24, 3) := by decide +kernel
theorem dX3_init_41 : decode cX3_init 41 = .ok (.aload_n 0, 1) := by decide +kernel
theorem dX3_init_42 : decode cX3_init 42 = .ok (.bipush 14, 2) := by decide +kernel
theorem dX3_init_44 : decode cX3_init 44 = .ok (.newarray .int, 2) := by decide +kernel
theorem dX3_init_46 : decode cX3_init 46 = .ok (.putfield 28, 3) := by decide +kernel
theorem dX3_init_49 : decode cX3_init 49 = .ok (.aload_n 0, 1) := by decide +kernel
theorem dX3_init_50 : decode cX3_init 50 = .ok (.bipush 14, 2) := by decide +kernel
theorem dX3_init_52 : decode cX3_init 52 = .ok (.newarray .int, 2) := by decide +kernel
theorem dX3_init_54 : decode cX3_init 54 = .ok (.putfield 31, 3) := by decide +kernel
theorem dX3_init_57 : decode cX3_init 57 = .ok (.aload_n 0, 1) := by decide +kernel
theorem dX3_init_58 : decode cX3_init 58 = .ok (.bipush 14, 2) := by decide +kernel
theorem dX3_init_60 : decode cX3_init 60 = .ok (.newarray .int, 2) := by decide +kernel
theorem dX3_init_62 : decode cX3_init 62 = .ok (.putfield 34, 3) := by decide +kernel
theorem dX3_init_65 : decode cX3_init 65 = .ok (.aload_n 0, 1) := by decide +kernel
theorem dX3_init_66 : decode cX3_init 66 = .ok (.iconst 0, 1) := by decide +kernel
theorem dX3_init_67 : decode cX3_init 67 = .ok (.putfield 37, 3) := by decide +kernel
theorem dX3_init_70 : decode cX3_init 70 = .ok (.return_, 1) := by decide +kernel
theorem dX3_keep_0 : decode cX3_keep 0 = .ok (.aload_n 0, 1) := by decide +kernel
theorem dX3_keep_1 : decode cX3_keep 1 = .ok (.iconst 0, 1) := by decide +kernel
theorem dX3_keep_2 : decode cX3_keep 2 = .ok (.putfield 24, 3) := by decide +kernel
theorem dX3_keep_5 : decode cX3_keep 5 = .ok (.aload_n 0, 1) := by decide +kernel
theorem dX3_keep_6 : decode cX3_keep 6 = .ok (.iconst 0, 1) := by decide +kernel
theorem dX3_keep_7 : decode cX3_keep 7 = .ok (.aload_n 1, 1) := by decide +kernel
theorem dX3_keep_8 : decode cX3_keep 8 = .ok (.getfield 40, 3) := by decide +kernel
theorem dX3_keep_11 : decode cX3_keep 11 = .ok (.iconst 0, 1) := by decide +kernel
theorem dX3_keep_12 : decode cX3_keep 12 = .ok (.aload_n 1, 1) := by decide +kernel
theorem dX3_keep_13 : decode cX3_keep 13 = .ok (.getfield 45, 3) := by decide +kernel
theorem dX3_keep_16 : decode cX3_keep 16 = .ok (.invokevirtual 48, 3) := by decide +kernel
theorem dX3_keep_19 : decode cX3_keep 19 = .ok (.iconst 0, 1) := by decide +kernel
theorem dX3_keep_20 : decode cX3_keep 20 = .ok (.istore_n 3, 1) := by decide +kernel
theorem dX3_keep_21 : decode cX3_keep 21 = .ok (.iload_n 3, 1) := by decide +kernel
theorem dX3_keep_22 : decode cX3_keep 22 = .ok (.aload_n 0, 1) := by decide +kernel
theorem dX3_keep_23 : decode cX3_keep 23 = .ok (.getfield 24, 3) := by decide +kernel
theorem dX3_keep_26 : decode cX3_keep 26 = .ok (.if_icmp .ge 65, 3) := by decide +kernel
theorem dX3_keep_29 : decode cX3_keep 29 = .ok (.iload_n 3, 1) := by decide +kernel
theorem dX3_keep_30 : decode cX3_keep 30 = .ok (.bipush 14, 2) := by decide +kernel
theorem dX3_keep_32 : decode cX3_keep 32 = .ok (.if_icmp .ge 59, 3) := by decide +kernel
theorem dX3_keep_35 : decode cX3_keep 35 = .ok (.aload_n 0, 1) := by decide +kernel
theorem dX3_keep_36 : decode cX3_keep 36 = .ok (.iload_n 3, 1) := by decide +kernel
theorem dX3_keep_37 : decode cX3_keep 37 = .ok (.aload_n 1, 1) := by decide +kernel
theorem dX3_keep_38 : decode cX3_keep 38 = .ok (.aload_n 2, 1) := by decide +kernel
theorem dX3_keep_39 : decode cX3_keep 39 = .ok (.invokevirtual 52, 3) := by decide +kernel
theorem dX3_keep_42 : decode cX3_keep 42 = .ok (.aload_n 0, 1) := by decide +kernel
theorem dX3_keep_43 : decode cX3_keep 43 = .ok (.iload_n 3, 1) := by decide +kernel
theorem dX3_keep_44 : decode cX3_keep 44 = .ok (.aload_n 1, 1) := by decide +kernel
theorem dX3_keep_45 : decode cX3_keep 45 = .ok (.invokevirtual 56, 3) := by decide +kernel
theorem dX3_keep_48 : decode cX3_keep 48 = .ok (.aload_n 0, 1) := by decide +kernel
theorem dX3_keep_49 : decode cX3_keep 49 = .ok (.invokevirtual 60, 3) := by decide +kernel
