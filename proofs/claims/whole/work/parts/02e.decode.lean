theorem dX10_feed_32 : decode cX10_feed 32 = .ok (.invokevirtual 14, 3) := by decide +kernel
theorem dX10_feed_35 : decode cX10_feed 35 = .ok (.aload_n 0, 1) := by decide +kernel
theorem dX10_feed_36 : decode cX10_feed 36 = .ok (.iload 4, 2) := by decide +kernel
theorem dX10_feed_38 : decode cX10_feed 38 = .ok (.invokevirtual 14, 3) := by decide +kernel
theorem dX10_feed_41 : decode cX10_feed 41 = .ok (.aload_n 0, 1) := by decide +kernel
theorem dX10_feed_42 : decode cX10_feed 42 = .ok (.iload 5, 2) := by decide +kernel
theorem dX10_feed_44 : decode cX10_feed 44 = .ok (.invokevirtual 14, 3) := by decide +kernel
theorem dX10_feed_47 : decode cX10_feed 47 = .ok (.aload_n 0, 1) := by decide +kernel
theorem dX10_feed_48 : decode cX10_feed 48 = .ok (.getfield 11, 3) := by decide +kernel
theorem dX10_feed_51 : decode cX10_feed 51 = .ok (.ireturn, 1) := by decide +kernel
theorem dX10_end_0 : decode cX10_end 0 = .ok (.aload_n 0, 1) := by decide +kernel
theorem dX10_end_1 : decode cX10_end 1 = .ok (.iconst 0, 1) := by decide +kernel
theorem dX10_end_2 : decode cX10_end 2 = .ok (.putfield 1, 3) := by decide +kernel
theorem dX10_end_5 : decode cX10_end 5 = .ok (.iload_n 1, 1) := by decide +kernel
theorem dX10_end_6 : decode cX10_end 6 = .ok (.ifCond .lt 11, 3) := by decide +kernel
theorem dX10_end_9 : decode cX10_end 9 = .ok (.iload_n 1, 1) := by decide +kernel
theorem dX10_end_10 : decode cX10_end 10 = .ok (.aload_n 0, 1) := by decide +kernel
theorem dX10_end_11 : decode cX10_end 11 = .ok (.getfield 11, 3) := by decide +kernel
theorem dX10_end_14 : decode cX10_end 14 = .ok (.if_icmp .le 5, 3) := by decide +kernel
theorem dX10_end_17 : decode cX10_end 17 = .ok (.iconst 0, 1) := by decide +kernel
theorem dX10_end_18 : decode cX10_end 18 = .ok (.ireturn, 1) := by decide +kernel
theorem dX10_end_19 : decode cX10_end 19 = .ok (.aload_n 0, 1) := by decide +kernel
theorem dX10_end_20 : decode cX10_end 20 = .ok (.iload_n 1, 1) := by decide +kernel
theorem dX10_end_21 : decode cX10_end 21 = .ok (.putfield 11, 3) := by decide +kernel
theorem dX10_end_24 : decode cX10_end 24 = .ok (.iconst 1, 1) := by decide +kernel
theorem dX10_end_25 : decode cX10_end 25 = .ok (.ireturn, 1) := by decide +kernel
theorem dX10_init_0 : decode cX10_init 0 = .ok (.aload_n 0, 1) := by decide +kernel
theorem dX10_init_1 : decode cX10_init 1 = .ok (.invokespecial 18, 3) := by decide +kernel
theorem dX10_init_4 : decode cX10_init 4 = .ok (.aload_n 0, 1) := by decide +kernel
theorem dX10_init_5 : decode cX10_init 5 = .ok (.sipush 640, 3) := by decide +kernel
theorem dX10_init_8 : decode cX10_init 8 = .ok (.newarray .int, 2) := by decide +kernel
theorem dX10_init_10 : decode cX10_init 10 = .ok (.putfield 7, 3) := by decide +kernel
theorem dX10_init_13 : decode cX10_init 13 = .ok (.aload_n 0, 1) := by decide +kernel
theorem dX10_init_14 : decode cX10_init 14 = .ok (.sipush 254, 3) := by decide +kernel
theorem dX10_init_17 : decode cX10_init 17 = .ok (.newarray .int, 2) := by decide +kernel
theorem dX10_init_19 : decode cX10_init 19 = .ok (.putfield 24, 3) := by decide +kernel
theorem dX10_init_22 : decode cX10_init 22 = .ok (.aload_n 0, 1) := by decide +kernel
theorem dX10_init_23 : decode cX10_init 23 = .ok (.bipush 127, 2) := by decide +kernel
theorem dX10_init_25 : decode cX10_init 25 = .ok (.newarray .int, 2) := by decide +kernel
theorem dX10_init_27 : decode cX10_init 27 = .ok (.putfield 27, 3) := by decide +kernel
theorem dX10_init_30 : decode cX10_init 30 = .ok (.aload_n 0, 1) := by decide +kernel
theorem dX10_init_31 : decode cX10_init 31 = .ok (.sipush 2540, 3) := by decide +kernel
theorem dX10_init_34 : decode cX10_init 34 = .ok (.newarray .int, 2) := by decide +kernel
theorem dX10_init_36 : decode cX10_init 36 = .ok (.putfield 30, 3) := by decide +kernel
theorem dX10_init_39 : decode cX10_init 39 = .ok (.aload_n 0, 1) := by decide +kernel
theorem dX10_init_40 : decode cX10_init 40 = .ok (.bipush 28, 2) := by decide +kernel
theorem dX10_init_42 : decode cX10_init 42 = .ok (.newarray .int, 2) := by decide +kernel
theorem dX10_init_44 : decode cX10_init 44 = .ok (.putfield 33, 3) := by decide +kernel
theorem dX10_init_47 : decode cX10_init 47 = .ok (.aload_n 0, 1) := by decide +kernel
theorem dX10_init_48 : decode cX10_init 48 = .ok (.bipush 28, 2) := by decide +kernel
theorem dX10_init_50 : decode cX10_init 50 = .ok (.newarray .int, 2) := by decide +kernel
theorem dX10_init_52 : decode cX10_init 52 = .ok (.putfield 36, 3) := by decide +kernel
theorem dX10_init_55 : decode cX10_init 55 = .ok (.aload_n 0, 1) := by decide +kernel
theorem dX10_init_56 : decode cX10_init 56 = .ok (.bipush 28, 2) := by decide +kernel
theorem dX10_init_58 : decode cX10_init 58 = .ok (.newarray .int, 2) := by decide +kernel
theorem dX10_init_60 : decode cX10_init 60 = .ok (.putfield 39, 3) := by decide +kernel
theorem dX10_init_63 : decode cX10_init 63 = .ok (.aload_n 0, 1) := by decide +kernel
theorem dX10_init_64 : decode cX10_init 64 = .ok (.bipush 28, 2) := by decide +kernel
theorem dX10_init_66 : decode cX10_init 66 = .ok (.newarray .int, 2) := by decide +kernel
theorem dX10_init_68 : decode cX10_init 68 = .ok (.putfield 42, 3) := by decide +kernel
theorem dX10_init_71 : decode cX10_init 71 = .ok (.aload_n 0, 1) := by decide +kernel
theorem dX10_init_72 : decode cX10_init 72 = .ok (.bipush 28, 2) := by decide +kernel
theorem dX10_init_74 : decode cX10_init 74 = .ok (.newarray .int, 2) := by decide +kernel
theorem dX10_init_76 : decode cX10_init 76 = .ok (.putfield 45, 3) := by decide +kernel
theorem dX10_init_79 : decode cX10_init 79 = .ok (.aload_n 0, 1) := by decide +kernel
theorem dX10_init_80 : decode cX10_init 80 = .ok (.bipush 42, 2) := by decide +kernel
theorem dX10_init_82 : decode cX10_init 82 = .ok (.newarray .int, 2) := by decide +kernel
theorem dX10_init_84 : decode cX10_init 84 = .ok (.putfield 48, 3) := by decide +kernel
theorem dX10_init_87 : decode cX10_init 87 = .ok (.aload_n 0, 1) := by decide +kernel
theorem dX10_init_88 : decode cX10_init 88 = .ok (.bipush 81, 2) := by decide +kernel
theorem dX10_init_90 : decode cX10_init 90 = .ok (.newarray .int, 2) := by decide +kernel
theorem dX10_init_92 : decode cX10_init 92 = .ok (.putfield 51, 3) := by decide +kernel
theorem dX10_init_95 : decode cX10_init 95 = .ok (.return_, 1) := by decide +kernel
theorem dX10_lineAt_0 : decode cX10_lineAt 0 = .ok (.bipush 127, 2) := by decide +kernel
theorem dX10_lineAt_2 : decode cX10_lineAt 2 = .ok (.iload_n 0, 1) := by decide +kernel
theorem dX10_lineAt_3 : decode cX10_lineAt 3 = .ok (.imul, 1) := by decide +kernel
theorem dX10_lineAt_4 : decode cX10_lineAt 4 = .ok (.iconst 1, 1) := by decide +kernel
theorem dX10_lineAt_5 : decode cX10_lineAt 5 = .ok (.iadd, 1) := by decide +kernel
theorem dX10_lineAt_6 : decode cX10_lineAt 6 = .ok (.bipush 9, 2) := by decide +kernel
theorem dX10_lineAt_8 : decode cX10_lineAt 8 = .ok (.iload_n 1, 1) := by decide +kernel
theorem dX10_lineAt_9 : decode cX10_lineAt 9 = .ok (.imul, 1) := by decide +kernel
theorem dX10_lineAt_10 : decode cX10_lineAt 10 = .ok (.iadd, 1) := by decide +kernel
theorem dX10_lineAt_11 : decode cX10_lineAt 11 = .ok (.ireturn, 1) := by decide +kernel
theorem dX10_isEdition_0 : decode cX10_isEdition 0 = .ok (.iload_n 0, 1) := by decide +kernel
theorem dX10_isEdition_1 : decode cX10_isEdition 1 = .ok (.iconst 0, 1) := by decide +kernel
theorem dX10_isEdition_2 : decode cX10_isEdition 2 = .ok (.iconst 1, 1) := by decide +kernel
theorem dX10_isEdition_3 : decode cX10_isEdition 3 = .ok (.invokestatic 54, 3) := by decide +kernel
theorem dX10_isEdition_6 : decode cX10_isEdition 6 = .ok (.ireturn, 1) := by decide +kernel
theorem dX10_many_0 : decode cX10_many 0 = .ok (.aload_n 0, 1) := by decide +kernel
theorem dX10_many_1 : decode cX10_many 1 = .ok (.getfield 24, 3) := by decide +kernel
theorem dX10_many_4 : decode cX10_many 4 = .ok (.bipush 127, 2) := by decide +kernel
theorem dX10_many_6 : decode cX10_many 6 = .ok (.iload_n 1, 1) := by decide +kernel
theorem dX10_many_7 : decode cX10_many 7 = .ok (.imul, 1) := by decide +kernel
theorem dX10_many_8 : decode cX10_many 8 = .ok (.iaload, 1) := by decide +kernel
theorem dX10_many_9 : decode cX10_many 9 = .ok (.ireturn, 1) := by decide +kernel
theorem dX10_isLine_0 : decode cX10_isLine 0 = .ok (.iload_n 1, 1) := by decide +kernel
theorem dX10_isLine_1 : decode cX10_isLine 1 = .ok (.invokestatic 58, 3) := by decide +kernel
theorem dX10_isLine_4 : decode cX10_isLine 4 = .ok (.ifCond .eq 22, 3) := by decide +kernel
theorem dX10_isLine_7 : decode cX10_isLine 7 = .ok (.iload_n 2, 1) := by decide +kernel
theorem dX10_isLine_8 : decode cX10_isLine 8 = .ok (.iconst 0, 1) := by decide +kernel
theorem dX10_isLine_9 : decode cX10_isLine 9 = .ok (.aload_n 0, 1) := by decide +kernel
theorem dX10_isLine_10 : decode cX10_isLine 10 = .ok (.iload_n 1, 1) := by decide +kernel
theorem dX10_isLine_11 : decode cX10_isLine 11 = .ok (.invokevirtual 62, 3) := by decide +kernel
theorem dX10_isLine_14 : decode cX10_isLine 14 = .ok (.iconst 1, 1) := by decide +kernel
theorem dX10_isLine_15 : decode cX10_isLine 15 = .ok (.isub, 1) := by decide +kernel
theorem dX10_isLine_16 : decode cX10_isLine 16 = .ok (.invokestatic 54, 3) := by decide +kernel
theorem dX10_isLine_19 : decode cX10_isLine 19 = .ok (.ifCond .eq 7, 3) := by decide +kernel
theorem dX10_isLine_22 : decode cX10_isLine 22 = .ok (.iconst 1, 1) := by decide +kernel
theorem dX10_isLine_23 : decode cX10_isLine 23 = .ok (.goto 4, 3) := by decide +kernel
theorem dX10_isLine_26 : decode cX10_isLine 26 = .ok (.iconst 0, 1) := by decide +kernel
theorem dX10_isLine_27 : decode cX10_isLine 27 = .ok (.ireturn, 1) := by decide +kernel
theorem dX10_bad_0 : decode cX10_bad 0 = .ok (.aload_n 0, 1) := by decide +kernel
theorem dX10_bad_1 : decode cX10_bad 1 = .ok (.iload_n 1, 1) := by decide +kernel
theorem dX10_bad_2 : decode cX10_bad 2 = .ok (.putfield 66, 3) := by decide +kernel
theorem dX10_bad_5 : decode cX10_bad 5 = .ok (.aload_n 0, 1) := by decide +kernel
theorem dX10_bad_6 : decode cX10_bad 6 = .ok (.iload_n 2, 1) := by decide +kernel
theorem dX10_bad_7 : decode cX10_bad 7 = .ok (.putfield 69, 3) := by decide +kernel
theorem dX10_bad_10 : decode cX10_bad 10 = .ok (.iconst 0, 1) := by decide +kernel
theorem dX10_bad_11 : decode cX10_bad 11 = .ok (.ireturn, 1) := by decide +kernel
theorem dX10_isLetter_0 : decode cX10_isLetter 0 = .ok (.iload_n 0, 1) := by decide +kernel
theorem dX10_isLetter_1 : decode cX10_isLetter 1 = .ok (.bipush 97, 2) := by decide +kernel
theorem dX10_isLetter_3 : decode cX10_isLetter 3 = .ok (.if_icmp .lt 13, 3) := by decide +kernel
theorem dX10_isLetter_6 : decode cX10_isLetter 6 = .ok (.iload_n 0, 1) := by decide +kernel
theorem dX10_isLetter_7 : decode cX10_isLetter 7 = .ok (.bipush 122, 2) := by decide +kernel
theorem dX10_isLetter_9 : decode cX10_isLetter 9 = .ok (.if_icmp .gt 7, 3) := by decide +kernel
theorem dX10_isLetter_12 : decode cX10_isLetter 12 = .ok (.iconst 1, 1) := by decide +kernel
theorem dX10_isLetter_13 : decode cX10_isLetter 13 = .ok (.goto 4, 3) := by decide +kernel
theorem dX10_isLetter_16 : decode cX10_isLetter 16 = .ok (.iconst 0, 1) := by decide +kernel
theorem dX10_isLetter_17 : decode cX10_isLetter 17 = .ok (.ireturn, 1) := by decide +kernel
theorem dX10_readLetter_0 : decode cX10_readLetter 0 = .ok (.iconst 1, 1) := by decide +kernel
theorem dX10_readLetter_1 : decode cX10_readLetter 1 = .ok (.bipush 9, 2) := by decide +kernel
theorem dX10_readLetter_3 : decode cX10_readLetter 3 = .ok (.aload_n 0, 1) := by decide +kernel
theorem dX10_readLetter_4 : decode cX10_readLetter 4 = .ok (.getfield 27, 3) := by decide +kernel
theorem dX10_readLetter_7 : decode cX10_readLetter 7 = .ok (.iconst 0, 1) := by decide +kernel
theorem dX10_readLetter_8 : decode cX10_readLetter 8 = .ok (.iaload, 1) := by decide +kernel
theorem dX10_readLetter_9 : decode cX10_readLetter 9 = .ok (.imul, 1) := by decide +kernel
theorem dX10_readLetter_10 : decode cX10_readLetter 10 = .ok (.iadd, 1) := by decide +kernel
theorem dX10_readLetter_11 : decode cX10_readLetter 11 = .ok (.istore 4, 2) := by decide +kernel
theorem dX10_readLetter_13 : decode cX10_readLetter 13 = .ok (.aload_n 0, 1) := by decide +kernel
theorem dX10_readLetter_14 : decode cX10_readLetter 14 = .ok (.getfield 72, 3) := by decide +kernel
theorem dX10_readLetter_17 : decode cX10_readLetter 17 = .ok (.ifCond .ne 59, 3) := by decide +kernel
theorem dX10_readLetter_20 : decode cX10_readLetter 20 = .ok (.aload_n 0, 1) := by decide +kernel
theorem dX10_readLetter_21 : decode cX10_readLetter 21 = .ok (.getfield 27, 3) := by decide +kernel
theorem dX10_readLetter_24 : decode cX10_readLetter 24 = .ok (.iconst 0, 1) := by decide +kernel
theorem dX10_readLetter_25 : decode cX10_readLetter 25 = .ok (.iaload, 1) := by decide +kernel
theorem dX10_readLetter_26 : decode cX10_readLetter 26 = .ok (.iload_n 3, 1) := by decide +kernel
theorem dX10_readLetter_27 : decode cX10_readLetter 27 = .ok (.if_icmp .eq 15, 3) := by decide +kernel
theorem dX10_readLetter_30 : decode cX10_readLetter 30 = .ok (.aload_n 0, 1) := by decide +kernel
theorem dX10_readLetter_31 : decode cX10_readLetter 31 = .ok (.getfield 27, 3) := by decide +kernel
theorem dX10_readLetter_34 : decode cX10_readLetter 34 = .ok (.iload 4, 2) := by decide +kernel
theorem dX10_readLetter_36 : decode cX10_readLetter 36 = .ok (.iaload, 1) := by decide +kernel
theorem dX10_readLetter_37 : decode cX10_readLetter 37 = .ok (.bipush 8, 2) := by decide +kernel
theorem dX10_readLetter_39 : decode cX10_readLetter 39 = .ok (.if_icmp .ne 10, 3) := by decide +kernel
theorem dX10_readLetter_42 : decode cX10_readLetter 42 = .ok (.aload_n 0, 1) := by decide +kernel
theorem dX10_readLetter_43 : decode cX10_readLetter 43 = .ok (.iconst 2, 1) := by decide +kernel
theorem dX10_readLetter_44 : decode cX10_readLetter 44 = .ok (.iload_n 2, 1) := by decide +kernel
theorem dX10_readLetter_45 : decode cX10_readLetter 45 = .ok (.invokevirtual 75, 3) := by decide +kernel
theorem dX10_readLetter_48 : decode cX10_readLetter 48 = .ok (.ireturn, 1) := by decide +kernel
theorem dX10_readLetter_49 : decode cX10_readLetter 49 = .ok (.aload_n 0, 1) := by decide +kernel
theorem dX10_readLetter_50 : decode cX10_readLetter 50 = .ok (.getfield 27, 3) := by decide +kernel
theorem dX10_readLetter_53 : decode cX10_readLetter 53 = .ok (.iload 4, 2) := by decide +kernel
theorem dX10_readLetter_55 : decode cX10_readLetter 55 = .ok (.dup2, 1) := by decide +kernel
theorem dX10_readLetter_56 : decode cX10_readLetter 56 = .ok (.iaload, 1) := by decide +kernel
theorem dX10_readLetter_57 : decode cX10_readLetter 57 = .ok (.iconst 1, 1) := by decide +kernel
theorem dX10_readLetter_58 : decode cX10_readLetter 58 = .ok (.iadd, 1) := by decide +kernel
theorem dX10_readLetter_59 : decode cX10_readLetter 59 = .ok (.iastore, 1) := by decide +kernel
theorem dX10_readLetter_60 : decode cX10_readLetter 60 = .ok (.aload_n 0, 1) := by decide +kernel
theorem dX10_readLetter_61 : decode cX10_readLetter 61 = .ok (.getfield 27, 3) := by decide +kernel
theorem dX10_readLetter_64 : decode cX10_readLetter 64 = .ok (.iload 4, 2) := by decide +kernel
theorem dX10_readLetter_66 : decode cX10_readLetter 66 = .ok (.aload_n 0, 1) := by decide +kernel
theorem dX10_readLetter_67 : decode cX10_readLetter 67 = .ok (.getfield 27, 3) := by decide +kernel
theorem dX10_readLetter_70 : decode cX10_readLetter 70 = .ok (.iload 4, 2) := by decide +kernel
theorem dX10_readLetter_72 : decode cX10_readLetter 72 = .ok (.iaload, 1) := by decide +kernel
theorem dX10_readLetter_73 : decode cX10_readLetter 73 = .ok (.iadd, 1) := by decide +kernel
theorem dX10_readLetter_74 : decode cX10_readLetter 74 = .ok (.iconst 0, 1) := by decide +kernel
theorem dX10_readLetter_75 : decode cX10_readLetter 75 = .ok (.iastore, 1) := by decide +kernel
theorem dX10_readLetter_76 : decode cX10_readLetter 76 = .ok (.aload_n 0, 1) := by decide +kernel
theorem dX10_readLetter_77 : decode cX10_readLetter 77 = .ok (.getfield 72, 3) := by decide +kernel
theorem dX10_readLetter_80 : decode cX10_readLetter 80 = .ok (.bipush 6, 2) := by decide +kernel
theorem dX10_readLetter_82 : decode cX10_readLetter 82 = .ok (.if_icmp .ne 10, 3) := by decide +kernel
theorem dX10_readLetter_85 : decode cX10_readLetter 85 = .ok (.aload_n 0, 1) := by decide +kernel
theorem dX10_readLetter_86 : decode cX10_readLetter 86 = .ok (.iconst 2, 1) := by decide +kernel
theorem dX10_readLetter_87 : decode cX10_readLetter 87 = .ok (.iload_n 2, 1) := by decide +kernel
theorem dX10_readLetter_88 : decode cX10_readLetter 88 = .ok (.invokevirtual 75, 3) := by decide +kernel
theorem dX10_readLetter_91 : decode cX10_readLetter 91 = .ok (.ireturn, 1) := by decide +kernel
theorem dX10_readLetter_92 : decode cX10_readLetter 92 = .ok (.aload_n 0, 1) := by decide +kernel
theorem dX10_readLetter_93 : decode cX10_readLetter 93 = .ok (.dup, 1) := by decide +kernel
theorem dX10_readLetter_94 : decode cX10_readLetter 94 = .ok (.getfield 72, 3) := by decide +kernel
theorem dX10_readLetter_97 : decode cX10_readLetter 97 = .ok (.iconst 1, 1) := by decide +kernel
theorem dX10_readLetter_98 : decode cX10_readLetter 98 = .ok (.iadd, 1) := by decide +kernel
theorem dX10_readLetter_99 : decode cX10_readLetter 99 = .ok (.putfield 72, 3) := by decide +kernel
theorem dX10_readLetter_102 : decode cX10_readLetter 102 = .ok (.aload_n 0, 1) := by decide +kernel
theorem dX10_readLetter_103 : decode cX10_readLetter 103 = .ok (.getfield 27, 3) := by decide +kernel
theorem dX10_readLetter_106 : decode cX10_readLetter 106 = .ok (.iload 4, 2) := by decide +kernel
theorem dX10_readLetter_108 : decode cX10_readLetter 108 = .ok (.aload_n 0, 1) := by decide +kernel
theorem dX10_readLetter_109 : decode cX10_readLetter 109 = .ok (.getfield 27, 3) := by decide +kernel
theorem dX10_readLetter_112 : decode cX10_readLetter 112 = .ok (.iload 4, 2) := by decide +kernel
theorem dX10_readLetter_114 : decode cX10_readLetter 114 = .ok (.iaload, 1) := by decide +kernel
theorem dX10_readLetter_115 : decode cX10_readLetter 115 = .ok (.iadd, 1) := by decide +kernel
theorem dX10_readLetter_116 : decode cX10_readLetter 116 = .ok (.bipush 27, 2) := by decide +kernel
theorem dX10_readLetter_118 : decode cX10_readLetter 118 = .ok (.aload_n 0, 1) := by decide +kernel
theorem dX10_readLetter_119 : decode cX10_readLetter 119 = .ok (.getfield 27, 3) := by decide +kernel
theorem dX10_readLetter_122 : decode cX10_readLetter 122 = .ok (.iload 4, 2) := by decide +kernel
theorem dX10_readLetter_124 : decode cX10_readLetter 124 = .ok (.aload_n 0, 1) := by decide +kernel
theorem dX10_readLetter_125 : decode cX10_readLetter 125 = .ok (.getfield 27, 3) := by decide +kernel
theorem dX10_readLetter_128 : decode cX10_readLetter 128 = .ok (.iload 4, 2) := by decide +kernel
theorem dX10_readLetter_130 : decode cX10_readLetter 130 = .ok (.iaload, 1) := by decide +kernel
theorem dX10_readLetter_131 : decode cX10_readLetter 131 = .ok (.iadd, 1) := by decide +kernel
theorem dX10_readLetter_132 : decode cX10_readLetter 132 = .ok (.iaload, 1) := by decide +kernel
theorem dX10_readLetter_133 : decode cX10_readLetter 133 = .ok (.imul, 1) := by decide +kernel
theorem dX10_readLetter_134 : decode cX10_readLetter 134 = .ok (.iload_n 1, 1) := by decide +kernel
theorem dX10_readLetter_135 : decode cX10_readLetter 135 = .ok (.iadd, 1) := by decide +kernel
theorem dX10_readLetter_136 : decode cX10_readLetter 136 = .ok (.bipush 96, 2) := by decide +kernel
theorem dX10_readLetter_138 : decode cX10_readLetter 138 = .ok (.isub, 1) := by decide +kernel
theorem dX10_readLetter_139 : decode cX10_readLetter 139 = .ok (.iastore, 1) := by decide +kernel
theorem dX10_readLetter_140 : decode cX10_readLetter 140 = .ok (.iconst 1, 1) := by decide +kernel
theorem dX10_readLetter_141 : decode cX10_readLetter 141 = .ok (.ireturn, 1) := by decide +kernel
theorem dX10_readEnd_0 : decode cX10_readEnd 0 = .ok (.aload_n 0, 1) := by decide +kernel
theorem dX10_readEnd_1 : decode cX10_readEnd 1 = .ok (.iconst 0, 1) := by decide +kernel
theorem dX10_readEnd_2 : decode cX10_readEnd 2 = .ok (.putfield 72, 3) := by decide +kernel
theorem dX10_readEnd_5 : decode cX10_readEnd 5 = .ok (.aload_n 0, 1) := by decide +kernel
theorem dX10_readEnd_6 : decode cX10_readEnd 6 = .ok (.getfield 27, 3) := by decide +kernel
theorem dX10_readEnd_9 : decode cX10_readEnd 9 = .ok (.iconst 0, 1) := by decide +kernel
theorem dX10_readEnd_10 : decode cX10_readEnd 10 = .ok (.iaload, 1) := by decide +kernel
theorem dX10_readEnd_11 : decode cX10_readEnd 11 = .ok (.bipush 14, 2) := by decide +kernel
theorem dX10_readEnd_13 : decode cX10_readEnd 13 = .ok (.if_icmp .eq 22, 3) := by decide +kernel
theorem dX10_readEnd_16 : decode cX10_readEnd 16 = .ok (.aload_n 0, 1) := by decide +kernel
theorem dX10_readEnd_17 : decode cX10_readEnd 17 = .ok (.getfield 27, 3) := by decide +kernel
theorem dX10_readEnd_20 : decode cX10_readEnd 20 = .ok (.iconst 1, 1) := by decide +kernel
theorem dX10_readEnd_21 : decode cX10_readEnd 21 = .ok (.bipush 9, 2) := by decide +kernel
theorem dX10_readEnd_23 : decode cX10_readEnd 23 = .ok (.aload_n 0, 1) := by decide +kernel
theorem dX10_readEnd_24 : decode cX10_readEnd 24 = .ok (.getfield 27, 3) := by decide +kernel
theorem dX10_readEnd_27 : decode cX10_readEnd 27 = .ok (.iconst 0, 1) := by decide +kernel
theorem dX10_readEnd_28 : decode cX10_readEnd 28 = .ok (.iaload, 1) := by decide +kernel
theorem dX10_readEnd_29 : decode cX10_readEnd 29 = .ok (.imul, 1) := by decide +kernel
theorem dX10_readEnd_30 : decode cX10_readEnd 30 = .ok (.iadd, 1) := by decide +kernel
theorem dX10_readEnd_31 : decode cX10_readEnd 31 = .ok (.iaload, 1) := by decide +kernel
theorem dX10_readEnd_32 : decode cX10_readEnd 32 = .ok (.ifCond .ne 10, 3) := by decide +kernel
theorem dX10_readEnd_35 : decode cX10_readEnd 35 = .ok (.aload_n 0, 1) := by decide +kernel
theorem dX10_readEnd_36 : decode cX10_readEnd 36 = .ok (.iconst 1, 1) := by decide +kernel
theorem dX10_readEnd_37 : decode cX10_readEnd 37 = .ok (.iload_n 1, 1) := by decide +kernel
theorem dX10_readEnd_38 : decode cX10_readEnd 38 = .ok (.invokevirtual 75, 3) := by decide +kernel
theorem dX10_readEnd_41 : decode cX10_readEnd 41 = .ok (.ireturn, 1) := by decide +kernel
theorem dX10_readEnd_42 : decode cX10_readEnd 42 = .ok (.aload_n 0, 1) := by decide +kernel
theorem dX10_readEnd_43 : decode cX10_readEnd 43 = .ok (.getfield 27, 3) := by decide +kernel
theorem dX10_readEnd_46 : decode cX10_readEnd 46 = .ok (.iconst 0, 1) := by decide +kernel
theorem dX10_readEnd_47 : decode cX10_readEnd 47 = .ok (.dup2, 1) := by decide +kernel
theorem dX10_readEnd_48 : decode cX10_readEnd 48 = .ok (.iaload, 1) := by decide +kernel
theorem dX10_readEnd_49 : decode cX10_readEnd 49 = .ok (.iconst 1, 1) := by decide +kernel
theorem dX10_readEnd_50 : decode cX10_readEnd 50 = .ok (.iadd, 1) := by decide +kernel
theorem dX10_readEnd_51 : decode cX10_readEnd 51 = .ok (.iastore, 1) := by decide +kernel
theorem dX10_readEnd_52 : decode cX10_readEnd 52 = .ok (.iconst 1, 1) := by decide +kernel
theorem dX10_readEnd_53 : decode cX10_readEnd 53 = .ok (.ireturn, 1) := by decide +kernel
theorem dX10_reads_0 : decode cX10_reads 0 = .ok (.aload_n 0, 1) := by decide +kernel
theorem dX10_reads_1 : decode cX10_reads 1 = .ok (.getfield 11, 3) := by decide +kernel
theorem dX10_reads_4 : decode cX10_reads 4 = .ok (.istore_n 3, 1) := by decide +kernel
theorem dX10_reads_5 : decode cX10_reads 5 = .ok (.aload_n 0, 1) := by decide +kernel
theorem dX10_reads_6 : decode cX10_reads 6 = .ok (.iconst 0, 1) := by decide +kernel
theorem dX10_reads_7 : decode cX10_reads 7 = .ok (.putfield 11, 3) := by decide +kernel
theorem dX10_reads_10 : decode cX10_reads 10 = .ok (.aload_n 0, 1) := by decide +kernel
theorem dX10_reads_11 : decode cX10_reads 11 = .ok (.iconst 0, 1) := by decide +kernel
theorem dX10_reads_12 : decode cX10_reads 12 = .ok (.putfield 66, 3) := by decide +kernel
theorem dX10_reads_15 : decode cX10_reads 15 = .ok (.aload_n 0, 1) := by decide +kernel
theorem dX10_reads_16 : decode cX10_reads 16 = .ok (.iconst 0, 1) := by decide +kernel
theorem dX10_reads_17 : decode cX10_reads 17 = .ok (.putfield 72, 3) := by decide +kernel
theorem dX10_reads_20 : decode cX10_reads 20 = .ok (.iconst 0, 1) := by decide +kernel
theorem dX10_reads_21 : decode cX10_reads 21 = .ok (.istore 4, 2) := by decide +kernel
theorem dX10_reads_23 : decode cX10_reads 23 = .ok (.iload 4, 2) := by decide +kernel
theorem dX10_reads_25 : decode cX10_reads 25 = .ok (.bipush 127, 2) := by decide +kernel
theorem dX10_reads_27 : decode cX10_reads 27 = .ok (.if_icmp .ge 17, 3) := by decide +kernel
theorem dX10_reads_30 : decode cX10_reads 30 = .ok (.aload_n 0, 1) := by decide +kernel
theorem dX10_reads_31 : decode cX10_reads 31 = .ok (.getfield 27, 3) := by decide +kernel
theorem dX10_reads_34 : decode cX10_reads 34 = .ok (.iload 4, 2) := by decide +kernel
theorem dX10_reads_36 : decode cX10_reads 36 = .ok (.iconst 0, 1) := by decide +kernel
theorem dX10_reads_37 : decode cX10_reads 37 = .ok (.iastore, 1) := by decide +kernel
theorem dX10_reads_38 : decode cX10_reads 38 = .ok (.iinc 4 1, 3) := by decide +kernel
theorem dX10_reads_41 : decode cX10_reads 41 = .ok (.goto (-18), 3) := by decide +kernel
theorem dX10_reads_44 : decode cX10_reads 44 = .ok (.iconst 0, 1) := by decide +kernel
theorem dX10_reads_45 : decode cX10_reads 45 = .ok (.istore 4, 2) := by decide +kernel
theorem dX10_reads_47 : decode cX10_reads 47 = .ok (.iload 4, 2) := by decide +kernel
theorem dX10_reads_49 : decode cX10_reads 49 = .ok (.iload_n 3, 1) := by decide +kernel
theorem dX10_reads_50 : decode cX10_reads 50 = .ok (.if_icmp .ge 144, 3) := by decide +kernel
theorem dX10_reads_53 : decode cX10_reads 53 = .ok (.iload 4, 2) := by decide +kernel
theorem dX10_reads_55 : decode cX10_reads 55 = .ok (.iload_n 1, 1) := by decide +kernel
theorem dX10_reads_56 : decode cX10_reads 56 = .ok (.if_icmp .ne 11, 3) := by decide +kernel
theorem dX10_reads_59 : decode cX10_reads 59 = .ok (.aload_n 0, 1) := by decide +kernel
theorem dX10_reads_60 : decode cX10_reads 60 = .ok (.iconst 1, 1) := by decide +kernel
theorem dX10_reads_61 : decode cX10_reads 61 = .ok (.iload 4, 2) := by decide +kernel
theorem dX10_reads_63 : decode cX10_reads 63 = .ok (.invokevirtual 75, 3) := by decide +kernel
theorem dX10_reads_66 : decode cX10_reads 66 = .ok (.ireturn, 1) := by decide +kernel
theorem dX10_reads_67 : decode cX10_reads 67 = .ok (.aload_n 0, 1) := by decide +kernel
theorem dX10_reads_68 : decode cX10_reads 68 = .ok (.getfield 7, 3) := by decide +kernel
theorem dX10_reads_71 : decode cX10_reads 71 = .ok (.iload 4, 2) := by decide +kernel
theorem dX10_reads_73 : decode cX10_reads 73 = .ok (.iaload, 1) := by decide +kernel
theorem dX10_reads_74 : decode cX10_reads 74 = .ok (.istore 5, 2) := by decide +kernel
theorem dX10_reads_76 : decode cX10_reads 76 = .ok (.iload 5, 2) := by decide +kernel
theorem dX10_reads_78 : decode cX10_reads 78 = .ok (.bipush 32, 2) := by decide +kernel
theorem dX10_reads_80 : decode cX10_reads 80 = .ok (.if_icmp .eq 10, 3) := by decide +kernel
theorem dX10_reads_83 : decode cX10_reads 83 = .ok (.iload 5, 2) := by decide +kernel
theorem dX10_reads_85 : decode cX10_reads 85 = .ok (.bipush 10, 2) := by decide +kernel
theorem dX10_reads_87 : decode cX10_reads 87 = .ok (.if_icmp .ne 7, 3) := by decide +kernel
theorem dX10_reads_90 : decode cX10_reads 90 = .ok (.iconst 1, 1) := by decide +kernel
theorem dX10_reads_91 : decode cX10_reads 91 = .ok (.goto 4, 3) := by decide +kernel
theorem dX10_reads_94 : decode cX10_reads 94 = .ok (.iconst 0, 1) := by decide +kernel
theorem dX10_reads_95 : decode cX10_reads 95 = .ok (.istore 6, 2) := by decide +kernel
theorem dX10_reads_97 : decode cX10_reads 97 = .ok (.iload 5, 2) := by decide +kernel
theorem dX10_reads_99 : decode cX10_reads 99 = .ok (.invokestatic 79, 3) := by decide +kernel
theorem dX10_reads_102 : decode cX10_reads 102 = .ok (.ifCond .ne 27, 3) := by decide +kernel
theorem dX10_reads_105 : decode cX10_reads 105 = .ok (.iload 6, 2) := by decide +kernel
theorem dX10_reads_107 : decode cX10_reads 107 = .ok (.ifCond .ne 22, 3) := by decide +kernel
theorem dX10_reads_110 : decode cX10_reads 110 = .ok (.iload_n 2, 1) := by decide +kernel
theorem dX10_reads_111 : decode cX10_reads 111 = .ok (.ifCond .ne 10, 3) := by decide +kernel
theorem dX10_reads_114 : decode cX10_reads 114 = .ok (.iload 5, 2) := by decide +kernel
theorem dX10_reads_116 : decode cX10_reads 116 = .ok (.bipush 59, 2) := by decide +kernel
theorem dX10_reads_118 : decode cX10_reads 118 = .ok (.if_icmp .eq 11, 3) := by decide +kernel
theorem dX10_reads_121 : decode cX10_reads 121 = .ok (.aload_n 0, 1) := by decide +kernel
theorem dX10_reads_122 : decode cX10_reads 122 = .ok (.iconst 1, 1) := by decide +kernel
theorem dX10_reads_123 : decode cX10_reads 123 = .ok (.iload 4, 2) := by decide +kernel
theorem dX10_reads_125 : decode cX10_reads 125 = .ok (.invokevirtual 75, 3) := by decide +kernel
theorem dX10_reads_128 : decode cX10_reads 128 = .ok (.ireturn, 1) := by decide +kernel
theorem dX10_reads_129 : decode cX10_reads 129 = .ok (.iload 5, 2) := by decide +kernel
theorem dX10_reads_131 : decode cX10_reads 131 = .ok (.invokestatic 79, 3) := by decide +kernel
theorem dX10_reads_134 : decode cX10_reads 134 = .ok (.ifCond .eq 26, 3) := by decide +kernel
theorem dX10_reads_137 : decode cX10_reads 137 = .ok (.aload_n 0, 1) := by decide +kernel
theorem dX10_reads_138 : decode cX10_reads 138 = .ok (.iload 5, 2) := by decide +kernel
theorem dX10_reads_140 : decode cX10_reads 140 = .ok (.iload 4, 2) := by decide +kernel
theorem dX10_reads_142 : decode cX10_reads 142 = .ok (.iload_n 2, 1) := by decide +kernel
theorem dX10_reads_143 : decode cX10_reads 143 = .ok (.ifCond .eq 7, 3) := by decide +kernel
theorem dX10_reads_146 : decode cX10_reads 146 = .ok (.iconst 1, 1) := by decide +kernel
theorem dX10_reads_147 : decode cX10_reads 147 = .ok (.goto 5, 3) := by decide +kernel
theorem dX10_reads_150 : decode cX10_reads 150 = .ok (.bipush 14, 2) := by decide +kernel
theorem dX10_reads_152 : decode cX10_reads 152 = .ok (.invokevirtual 82, 3) := by decide +kernel
theorem dX10_reads_155 : decode cX10_reads 155 = .ok (.ifCond .ne 5, 3) := by decide +kernel
theorem dX10_reads_158 : decode cX10_reads 158 = .ok (.iconst 0, 1) := by decide +kernel
theorem dX10_reads_159 : decode cX10_reads 159 = .ok (.ireturn, 1) := by decide +kernel
theorem dX10_reads_160 : decode cX10_reads 160 = .ok (.iload 6, 2) := by decide +kernel
theorem dX10_reads_162 : decode cX10_reads 162 = .ok (.ifCond .eq 8, 3) := by decide +kernel
theorem dX10_reads_165 : decode cX10_reads 165 = .ok (.aload_n 0, 1) := by decide +kernel
theorem dX10_reads_166 : decode cX10_reads 166 = .ok (.iconst 0, 1) := by decide +kernel
theorem dX10_reads_167 : decode cX10_reads 167 = .ok (.putfield 72, 3) := by decide +kernel
theorem dX10_reads_170 : decode cX10_reads 170 = .ok (.iload 5, 2) := by decide +kernel
theorem dX10_reads_172 : decode cX10_reads 172 = .ok (.bipush 59, 2) := by decide +kernel
theorem dX10_reads_174 : decode cX10_reads 174 = .ok (.if_icmp .ne 14, 3) := by decide +kernel
theorem dX10_reads_177 : decode cX10_reads 177 = .ok (.aload_n 0, 1) := by decide +kernel
theorem dX10_reads_178 : decode cX10_reads 178 = .ok (.iload 4, 2) := by decide +kernel
theorem dX10_reads_180 : decode cX10_reads 180 = .ok (.invokevirtual 85, 3) := by decide +kernel
theorem dX10_reads_183 : decode cX10_reads 183 = .ok (.ifCond .ne 5, 3) := by decide +kernel
theorem dX10_reads_186 : decode cX10_reads 186 = .ok (.iconst 0, 1) := by decide +kernel
theorem dX10_reads_187 : decode cX10_reads 187 = .ok (.ireturn, 1) := by decide +kernel
theorem dX10_reads_188 : decode cX10_reads 188 = .ok (.iinc 4 1, 3) := by decide +kernel
theorem dX10_reads_191 : decode cX10_reads 191 = .ok (.goto (-144), 3) := by decide +kernel
theorem dX10_reads_194 : decode cX10_reads 194 = .ok (.iload_n 2, 1) := by decide +kernel
theorem dX10_reads_195 : decode cX10_reads 195 = .ok (.ifCond .eq 9, 3) := by decide +kernel
theorem dX10_reads_198 : decode cX10_reads 198 = .ok (.aload_n 0, 1) := by decide +kernel
theorem dX10_reads_199 : decode cX10_reads 199 = .ok (.iload_n 3, 1) := by decide +kernel
theorem dX10_reads_200 : decode cX10_reads 200 = .ok (.invokevirtual 85, 3) := by decide +kernel
theorem dX10_reads_203 : decode cX10_reads 203 = .ok (.ireturn, 1) := by decide +kernel
theorem dX10_reads_204 : decode cX10_reads 204 = .ok (.aload_n 0, 1) := by decide +kernel
theorem dX10_reads_205 : decode cX10_reads 205 = .ok (.getfield 27, 3) := by decide +kernel
theorem dX10_reads_208 : decode cX10_reads 208 = .ok (.iconst 0, 1) := by decide +kernel
theorem dX10_reads_209 : decode cX10_reads 209 = .ok (.iaload, 1) := by decide +kernel
theorem dX10_reads_210 : decode cX10_reads 210 = .ok (.bipush 14, 2) := by decide +kernel
theorem dX10_reads_212 : decode cX10_reads 212 = .ok (.if_icmp .eq 31, 3) := by decide +kernel
theorem dX10_reads_215 : decode cX10_reads 215 = .ok (.aload_n 0, 1) := by decide +kernel
theorem dX10_reads_216 : decode cX10_reads 216 = .ok (.getfield 27, 3) := by decide +kernel
theorem dX10_reads_219 : decode cX10_reads 219 = .ok (.iconst 1, 1) := by decide +kernel
theorem dX10_reads_220 : decode cX10_reads 220 = .ok (.bipush 9, 2) := by decide +kernel
theorem dX10_reads_222 : decode cX10_reads 222 = .ok (.aload_n 0, 1) := by decide +kernel
theorem dX10_reads_223 : decode cX10_reads 223 = .ok (.getfield 27, 3) := by decide +kernel
theorem dX10_reads_226 : decode cX10_reads 226 = .ok (.iconst 0, 1) := by decide +kernel
theorem dX10_reads_227 : decode cX10_reads 227 = .ok (.iaload, 1) := by decide +kernel
theorem dX10_reads_228 : decode cX10_reads 228 = .ok (.imul, 1) := by decide +kernel
theorem dX10_reads_229 : decode cX10_reads 229 = .ok (.iadd, 1) := by decide +kernel
theorem dX10_reads_230 : decode cX10_reads 230 = .ok (.iaload, 1) := by decide +kernel
theorem dX10_reads_231 : decode cX10_reads 231 = .ok (.ifCond .eq 12, 3) := by decide +kernel
theorem dX10_reads_234 : decode cX10_reads 234 = .ok (.aload_n 0, 1) := by decide +kernel
theorem dX10_reads_235 : decode cX10_reads 235 = .ok (.iconst 1, 1) := by decide +kernel
theorem dX10_reads_236 : decode cX10_reads 236 = .ok (.iload_n 3, 1) := by decide +kernel
theorem dX10_reads_237 : decode cX10_reads 237 = .ok (.invokevirtual 75, 3) := by decide +kernel
theorem dX10_reads_240 : decode cX10_reads 240 = .ok (.ifCond .eq 7, 3) := by decide +kernel
theorem dX10_reads_243 : decode cX10_reads 243 = .ok (.iconst 1, 1) := by decide +kernel
theorem dX10_reads_244 : decode cX10_reads 244 = .ok (.goto 4, 3) := by decide +kernel
theorem dX10_reads_247 : decode cX10_reads 247 = .ok (.iconst 0, 1) := by decide +kernel
theorem dX10_reads_248 : decode cX10_reads 248 = .ok (.ireturn, 1) := by decide +kernel
theorem dX10_edition_0 : decode cX10_edition 0 = .ok (.aload_n 0, 1) := by decide +kernel
theorem dX10_edition_1 : decode cX10_edition 1 = .ok (.iconst 0, 1) := by decide +kernel
theorem dX10_edition_2 : decode cX10_edition 2 = .ok (.putfield 1, 3) := by decide +kernel
theorem dX10_edition_5 : decode cX10_edition 5 = .ok (.iload_n 1, 1) := by decide +kernel
theorem dX10_edition_6 : decode cX10_edition 6 = .ok (.invokestatic 58, 3) := by decide +kernel
theorem dX10_edition_9 : decode cX10_edition 9 = .ok (.ifCond .ne 5, 3) := by decide +kernel
theorem dX10_edition_12 : decode cX10_edition 12 = .ok (.iconst (-1), 1) := by decide +kernel
theorem dX10_edition_13 : decode cX10_edition 13 = .ok (.ireturn, 1) := by decide +kernel
theorem dX10_edition_14 : decode cX10_edition 14 = .ok (.aload_n 0, 1) := by decide +kernel
theorem dX10_edition_15 : decode cX10_edition 15 = .ok (.sipush 600, 3) := by decide +kernel
theorem dX10_edition_18 : decode cX10_edition 18 = .ok (.iconst 0, 1) := by decide +kernel
theorem dX10_edition_19 : decode cX10_edition 19 = .ok (.invokevirtual 88, 3) := by decide +kernel
theorem dX10_edition_22 : decode cX10_edition 22 = .ok (.ifCond .ne 11, 3) := by decide +kernel
theorem dX10_edition_25 : decode cX10_edition 25 = .ok (.bipush (-2), 2) := by decide +kernel
theorem dX10_edition_27 : decode cX10_edition 27 = .ok (.aload_n 0, 1) := by decide +kernel
theorem dX10_edition_28 : decode cX10_edition 28 = .ok (.getfield 69, 3) := by decide +kernel
theorem dX10_edition_31 : decode cX10_edition 31 = .ok (.isub, 1) := by decide +kernel
theorem dX10_edition_32 : decode cX10_edition 32 = .ok (.ireturn, 1) := by decide +kernel
theorem dX10_edition_33 : decode cX10_edition 33 = .ok (.iconst 0, 1) := by decide +kernel
theorem dX10_edition_34 : decode cX10_edition 34 = .ok (.istore_n 2, 1) := by decide +kernel
theorem dX10_edition_35 : decode cX10_edition 35 = .ok (.iload_n 2, 1) := by decide +kernel
theorem dX10_edition_36 : decode cX10_edition 36 = .ok (.bipush 127, 2) := by decide +kernel
theorem dX10_edition_38 : decode cX10_edition 38 = .ok (.if_icmp .ge 26, 3) := by decide +kernel
theorem dX10_edition_41 : decode cX10_edition 41 = .ok (.aload_n 0, 1) := by decide +kernel
theorem dX10_edition_42 : decode cX10_edition 42 = .ok (.getfield 24, 3) := by decide +kernel
theorem dX10_edition_45 : decode cX10_edition 45 = .ok (.bipush 127, 2) := by decide +kernel
theorem dX10_edition_47 : decode cX10_edition 47 = .ok (.iload_n 1, 1) := by decide +kernel
theorem dX10_edition_48 : decode cX10_edition 48 = .ok (.imul, 1) := by decide +kernel
theorem dX10_edition_49 : decode cX10_edition 49 = .ok (.iload_n 2, 1) := by decide +kernel
theorem dX10_edition_50 : decode cX10_edition 50 = .ok (.iadd, 1) := by decide +kernel
theorem dX10_edition_51 : decode cX10_edition 51 = .ok (.aload_n 0, 1) := by decide +kernel
theorem dX10_edition_52 : decode cX10_edition 52 = .ok (.getfield 27, 3) := by decide +kernel
theorem dX10_edition_55 : decode cX10_edition 55 = .ok (.iload_n 2, 1) := by decide +kernel
theorem dX10_edition_56 : decode cX10_edition 56 = .ok (.iaload, 1) := by decide +kernel
theorem dX10_edition_57 : decode cX10_edition 57 = .ok (.iastore, 1) := by decide +kernel
theorem dX10_edition_58 : decode cX10_edition 58 = .ok (.iinc 2 1, 3) := by decide +kernel
theorem dX10_edition_61 : decode cX10_edition 61 = .ok (.goto (-26), 3) := by decide +kernel
theorem dX10_edition_64 : decode cX10_edition 64 = .ok (.aload_n 0, 1) := by decide +kernel
theorem dX10_edition_65 : decode cX10_edition 65 = .ok (.iconst 0, 1) := by decide +kernel
theorem dX10_edition_66 : decode cX10_edition 66 = .ok (.putfield 92, 3) := by decide +kernel
theorem dX10_edition_69 : decode cX10_edition 69 = .ok (.aload_n 0, 1) := by decide +kernel
theorem dX10_edition_70 : decode cX10_edition 70 = .ok (.iload_n 1, 1) := by decide +kernel
theorem dX10_edition_71 : decode cX10_edition 71 = .ok (.invokevirtual 62, 3) := by decide +kernel
theorem dX10_edition_74 : decode cX10_edition 74 = .ok (.ireturn, 1) := by decide +kernel
theorem dX10_fault_0 : decode cX10_fault 0 = .ok (.aload_n 0, 1) := by decide +kernel
theorem dX10_fault_1 : decode cX10_fault 1 = .ok (.iconst 0, 1) := by decide +kernel
theorem dX10_fault_2 : decode cX10_fault 2 = .ok (.putfield 1, 3) := by decide +kernel
theorem dX10_fault_5 : decode cX10_fault 5 = .ok (.aload_n 0, 1) := by decide +kernel
theorem dX10_fault_6 : decode cX10_fault 6 = .ok (.getfield 66, 3) := by decide +kernel
theorem dX10_fault_9 : decode cX10_fault 9 = .ok (.ireturn, 1) := by decide +kernel
theorem dX10_wordsOf_0 : decode cX10_wordsOf 0 = .ok (.aload_n 0, 1) := by decide +kernel
theorem dX10_wordsOf_1 : decode cX10_wordsOf 1 = .ok (.getfield 24, 3) := by decide +kernel
theorem dX10_wordsOf_4 : decode cX10_wordsOf 4 = .ok (.iload_n 1, 1) := by decide +kernel
theorem dX10_wordsOf_5 : decode cX10_wordsOf 5 = .ok (.iload_n 2, 1) := by decide +kernel
theorem dX10_wordsOf_6 : decode cX10_wordsOf 6 = .ok (.invokestatic 95, 3) := by decide +kernel
theorem dX10_wordsOf_9 : decode cX10_wordsOf 9 = .ok (.iaload, 1) := by decide +kernel
theorem dX10_wordsOf_10 : decode cX10_wordsOf 10 = .ok (.ireturn, 1) := by decide +kernel
theorem dX10_word_0 : decode cX10_word 0 = .ok (.aload_n 0, 1) := by decide +kernel
theorem dX10_word_1 : decode cX10_word 1 = .ok (.getfield 24, 3) := by decide +kernel
theorem dX10_word_4 : decode cX10_word 4 = .ok (.iload_n 1, 1) := by decide +kernel
theorem dX10_word_5 : decode cX10_word 5 = .ok (.iload_n 2, 1) := by decide +kernel
theorem dX10_word_6 : decode cX10_word 6 = .ok (.invokestatic 95, 3) := by decide +kernel
theorem dX10_word_9 : decode cX10_word 9 = .ok (.iconst 1, 1) := by decide +kernel
theorem dX10_word_10 : decode cX10_word 10 = .ok (.iadd, 1) := by decide +kernel
theorem dX10_word_11 : decode cX10_word 11 = .ok (.iload_n 3, 1) := by decide +kernel
theorem dX10_word_12 : decode cX10_word 12 = .ok (.iadd, 1) := by decide +kernel
theorem dX10_word_13 : decode cX10_word 13 = .ok (.iaload, 1) := by decide +kernel
theorem dX10_word_14 : decode cX10_word 14 = .ok (.ireturn, 1) := by decide +kernel
theorem dX10_areAlike_0 : decode cX10_areAlike 0 = .ok (.aload_n 0, 1) := by decide +kernel
theorem dX10_areAlike_1 : decode cX10_areAlike 1 = .ok (.iload_n 1, 1) := by decide +kernel
theorem dX10_areAlike_2 : decode cX10_areAlike 2 = .ok (.iload_n 2, 1) := by decide +kernel
theorem dX10_areAlike_3 : decode cX10_areAlike 3 = .ok (.invokevirtual 99, 3) := by decide +kernel
theorem dX10_areAlike_6 : decode cX10_areAlike 6 = .ok (.aload_n 0, 1) := by decide +kernel
theorem dX10_areAlike_7 : decode cX10_areAlike 7 = .ok (.iload_n 3, 1) := by decide +kernel
theorem dX10_areAlike_8 : decode cX10_areAlike 8 = .ok (.iload 4, 2) := by decide +kernel
theorem dX10_areAlike_10 : decode cX10_areAlike 10 = .ok (.invokevirtual 99, 3) := by decide +kernel
theorem dX10_areAlike_13 : decode cX10_areAlike 13 = .ok (.if_icmp .ne 7, 3) := by decide +kernel
theorem dX10_areAlike_16 : decode cX10_areAlike 16 = .ok (.iconst 1, 1) := by decide +kernel
theorem dX10_areAlike_17 : decode cX10_areAlike 17 = .ok (.goto 4, 3) := by decide +kernel
theorem dX10_areAlike_20 : decode cX10_areAlike 20 = .ok (.iconst 0, 1) := by decide +kernel
theorem dX10_areAlike_21 : decode cX10_areAlike 21 = .ok (.istore 5, 2) := by decide +kernel
theorem dX10_areAlike_23 : decode cX10_areAlike 23 = .ok (.iconst 0, 1) := by decide +kernel
theorem dX10_areAlike_24 : decode cX10_areAlike 24 = .ok (.istore 6, 2) := by decide +kernel
theorem dX10_areAlike_26 : decode cX10_areAlike 26 = .ok (.iload 6, 2) := by decide +kernel
theorem dX10_areAlike_28 : decode cX10_areAlike 28 = .ok (.bipush 8, 2) := by decide +kernel
theorem dX10_areAlike_30 : decode cX10_areAlike 30 = .ok (.if_icmp .ge 52, 3) := by decide +kernel
theorem dX10_areAlike_33 : decode cX10_areAlike 33 = .ok (.iload 5, 2) := by decide +kernel
theorem dX10_areAlike_35 : decode cX10_areAlike 35 = .ok (.ifCond .eq 47, 3) := by decide +kernel
theorem dX10_areAlike_38 : decode cX10_areAlike 38 = .ok (.iload 6, 2) := by decide +kernel
theorem dX10_areAlike_40 : decode cX10_areAlike 40 = .ok (.aload_n 0, 1) := by decide +kernel
theorem dX10_areAlike_41 : decode cX10_areAlike 41 = .ok (.iload_n 1, 1) := by decide +kernel
theorem dX10_areAlike_42 : decode cX10_areAlike 42 = .ok (.iload_n 2, 1) := by decide +kernel
theorem dX10_areAlike_43 : decode cX10_areAlike 43 = .ok (.invokevirtual 99, 3) := by decide +kernel
theorem dX10_areAlike_46 : decode cX10_areAlike 46 = .ok (.if_icmp .ge 23, 3) := by decide +kernel
theorem dX10_areAlike_49 : decode cX10_areAlike 49 = .ok (.aload_n 0, 1) := by decide +kernel
theorem dX10_areAlike_50 : decode cX10_areAlike 50 = .ok (.iload_n 1, 1) := by decide +kernel
theorem dX10_areAlike_51 : decode cX10_areAlike 51 = .ok (.iload_n 2, 1) := by decide +kernel
theorem dX10_areAlike_52 : decode cX10_areAlike 52 = .ok (.iload 6, 2) := by decide +kernel
theorem dX10_areAlike_54 : decode cX10_areAlike 54 = .ok (.invokevirtual 102, 3) := by decide +kernel
theorem dX10_areAlike_57 : decode cX10_areAlike 57 = .ok (.aload_n 0, 1) := by decide +kernel
theorem dX10_areAlike_58 : decode cX10_areAlike 58 = .ok (.iload_n 3, 1) := by decide +kernel
theorem dX10_areAlike_59 : decode cX10_areAlike 59 = .ok (.iload 4, 2) := by decide +kernel
theorem dX10_areAlike_61 : decode cX10_areAlike 61 = .ok (.iload 6, 2) := by decide +kernel
theorem dX10_areAlike_63 : decode cX10_areAlike 63 = .ok (.invokevirtual 102, 3) := by decide +kernel
theorem dX10_areAlike_66 : decode cX10_areAlike 66 = .ok (.if_icmp .ne 7, 3) := by decide +kernel
theorem dX10_areAlike_69 : decode cX10_areAlike 69 = .ok (.iconst 1, 1) := by decide +kernel
theorem dX10_areAlike_70 : decode cX10_areAlike 70 = .ok (.goto 4, 3) := by decide +kernel
theorem dX10_areAlike_73 : decode cX10_areAlike 73 = .ok (.iconst 0, 1) := by decide +kernel
theorem dX10_areAlike_74 : decode cX10_areAlike 74 = .ok (.istore 5, 2) := by decide +kernel
theorem dX10_areAlike_76 : decode cX10_areAlike 76 = .ok (.iinc 6 1, 3) := by decide +kernel
theorem dX10_areAlike_79 : decode cX10_areAlike 79 = .ok (.goto (-53), 3) := by decide +kernel
theorem dX10_areAlike_82 : decode cX10_areAlike 82 = .ok (.iload 5, 2) := by decide +kernel
theorem dX10_areAlike_84 : decode cX10_areAlike 84 = .ok (.ireturn, 1) := by decide +kernel
theorem dX10_areAlike__0 : decode cX10_areAlike_ 0 = .ok (.aload_n 0, 1) := by decide +kernel
theorem dX10_areAlike__1 : decode cX10_areAlike_ 1 = .ok (.iconst 0, 1) := by decide +kernel
theorem dX10_areAlike__2 : decode cX10_areAlike_ 2 = .ok (.iload_n 1, 1) := by decide +kernel
theorem dX10_areAlike__3 : decode cX10_areAlike_ 3 = .ok (.iconst 1, 1) := by decide +kernel
theorem dX10_areAlike__4 : decode cX10_areAlike_ 4 = .ok (.iload_n 2, 1) := by decide +kernel
theorem dX10_areAlike__5 : decode cX10_areAlike_ 5 = .ok (.invokevirtual 106, 3) := by decide +kernel
theorem dX10_areAlike__8 : decode cX10_areAlike_ 8 = .ok (.ireturn, 1) := by decide +kernel
theorem dX10_couples_0 : decode cX10_couples 0 = .ok (.aload_n 0, 1) := by decide +kernel
theorem dX10_couples_1 : decode cX10_couples 1 = .ok (.getfield 33, 3) := by decide +kernel
theorem dX10_couples_4 : decode cX10_couples 4 = .ok (.iload_n 1, 1) := by decide +kernel
theorem dX10_couples_5 : decode cX10_couples 5 = .ok (.iload_n 3, 1) := by decide +kernel
theorem dX10_couples_6 : decode cX10_couples 6 = .ok (.iastore, 1) := by decide +kernel
theorem dX10_couples_7 : decode cX10_couples 7 = .ok (.aload_n 0, 1) := by decide +kernel
theorem dX10_couples_8 : decode cX10_couples 8 = .ok (.getfield 33, 3) := by decide +kernel
theorem dX10_couples_11 : decode cX10_couples 11 = .ok (.bipush 14, 2) := by decide +kernel
theorem dX10_couples_13 : decode cX10_couples 13 = .ok (.iload_n 2, 1) := by decide +kernel
theorem dX10_couples_14 : decode cX10_couples 14 = .ok (.iadd, 1) := by decide +kernel
theorem dX10_couples_15 : decode cX10_couples 15 = .ok (.iload_n 3, 1) := by decide +kernel
theorem dX10_couples_16 : decode cX10_couples 16 = .ok (.iastore, 1) := by decide +kernel
theorem dX10_couples_17 : decode cX10_couples 17 = .ok (.aload_n 0, 1) := by decide +kernel
theorem dX10_couples_18 : decode cX10_couples 18 = .ok (.getfield 36, 3) := by decide +kernel
theorem dX10_couples_21 : decode cX10_couples 21 = .ok (.iload_n 1, 1) := by decide +kernel
theorem dX10_couples_22 : decode cX10_couples 22 = .ok (.iload_n 2, 1) := by decide +kernel
theorem dX10_couples_23 : decode cX10_couples 23 = .ok (.iastore, 1) := by decide +kernel
theorem dX10_couples_24 : decode cX10_couples 24 = .ok (.aload_n 0, 1) := by decide +kernel
theorem dX10_couples_25 : decode cX10_couples 25 = .ok (.getfield 36, 3) := by decide +kernel
theorem dX10_couples_28 : decode cX10_couples 28 = .ok (.bipush 14, 2) := by decide +kernel
theorem dX10_couples_30 : decode cX10_couples 30 = .ok (.iload_n 2, 1) := by decide +kernel
theorem dX10_couples_31 : decode cX10_couples 31 = .ok (.iadd, 1) := by decide +kernel
theorem dX10_couples_32 : decode cX10_couples 32 = .ok (.iload_n 1, 1) := by decide +kernel
theorem dX10_couples_33 : decode cX10_couples 33 = .ok (.iastore, 1) := by decide +kernel
theorem dX10_couples_34 : decode cX10_couples 34 = .ok (.return_, 1) := by decide +kernel
theorem dX10_anchorOf_0 : decode cX10_anchorOf 0 = .ok (.iload_n 2, 1) := by decide +kernel
theorem dX10_anchorOf_1 : decode cX10_anchorOf 1 = .ok (.istore 6, 2) := by decide +kernel
theorem dX10_anchorOf_3 : decode cX10_anchorOf 3 = .ok (.iload 6, 2) := by decide +kernel
theorem dX10_anchorOf_5 : decode cX10_anchorOf 5 = .ok (.iload_n 3, 1) := by decide +kernel
theorem dX10_anchorOf_6 : decode cX10_anchorOf 6 = .ok (.if_icmp .ge 29, 3) := by decide +kernel
theorem dX10_anchorOf_9 : decode cX10_anchorOf 9 = .ok (.iload 6, 2) := by decide +kernel
theorem dX10_anchorOf_11 : decode cX10_anchorOf 11 = .ok (.iload_n 1, 1) := by decide +kernel
theorem dX10_anchorOf_12 : decode cX10_anchorOf 12 = .ok (.if_icmp .eq 17, 3) := by decide +kernel
theorem dX10_anchorOf_15 : decode cX10_anchorOf 15 = .ok (.aload_n 0, 1) := by decide +kernel
theorem dX10_anchorOf_16 : decode cX10_anchorOf 16 = .ok (.iconst 0, 1) := by decide +kernel
theorem dX10_anchorOf_17 : decode cX10_anchorOf 17 = .ok (.iload_n 1, 1) := by decide +kernel
theorem dX10_anchorOf_18 : decode cX10_anchorOf 18 = .ok (.iconst 0, 1) := by decide +kernel
theorem dX10_anchorOf_19 : decode cX10_anchorOf 19 = .ok (.iload 6, 2) := by decide +kernel
theorem dX10_anchorOf_21 : decode cX10_anchorOf 21 = .ok (.invokevirtual 106, 3) := by decide +kernel
theorem dX10_anchorOf_24 : decode cX10_anchorOf 24 = .ok (.ifCond .eq 5, 3) := by decide +kernel
theorem dX10_anchorOf_27 : decode cX10_anchorOf 27 = .ok (.iconst (-1), 1) := by decide +kernel
theorem dX10_anchorOf_28 : decode cX10_anchorOf 28 = .ok (.ireturn, 1) := by decide +kernel
theorem dX10_anchorOf_29 : decode cX10_anchorOf 29 = .ok (.iinc 6 1, 3) := by decide +kernel
theorem dX10_anchorOf_32 : decode cX10_anchorOf 32 = .ok (.goto (-29), 3) := by decide +kernel
theorem dX10_anchorOf_35 : decode cX10_anchorOf 35 = .ok (.iconst (-1), 1) := by decide +kernel
theorem dX10_anchorOf_36 : decode cX10_anchorOf 36 = .ok (.istore 6, 2) := by decide +kernel
theorem dX10_anchorOf_38 : decode cX10_anchorOf 38 = .ok (.iload 4, 2) := by decide +kernel
theorem dX10_anchorOf_40 : decode cX10_anchorOf 40 = .ok (.istore 7, 2) := by decide +kernel
theorem dX10_anchorOf_42 : decode cX10_anchorOf 42 = .ok (.iload 7, 2) := by decide +kernel
theorem dX10_anchorOf_44 : decode cX10_anchorOf 44 = .ok (.iload 5, 2) := by decide +kernel
theorem dX10_anchorOf_46 : decode cX10_anchorOf 46 = .ok (.if_icmp .ge 34, 3) := by decide +kernel
theorem dX10_anchorOf_49 : decode cX10_anchorOf 49 = .ok (.aload_n 0, 1) := by decide +kernel
theorem dX10_anchorOf_50 : decode cX10_anchorOf 50 = .ok (.iload_n 1, 1) := by decide +kernel
theorem dX10_anchorOf_51 : decode cX10_anchorOf 51 = .ok (.iload 7, 2) := by decide +kernel
theorem dX10_anchorOf_53 : decode cX10_anchorOf 53 = .ok (.invokevirtual 110, 3) := by decide +kernel
theorem dX10_anchorOf_56 : decode cX10_anchorOf 56 = .ok (.ifCond .ne 6, 3) := by decide +kernel
theorem dX10_anchorOf_59 : decode cX10_anchorOf 59 = .ok (.goto 15, 3) := by decide +kernel
theorem dX10_anchorOf_62 : decode cX10_anchorOf 62 = .ok (.iload 6, 2) := by decide +kernel
theorem dX10_anchorOf_64 : decode cX10_anchorOf 64 = .ok (.iconst (-1), 1) := by decide +kernel
theorem dX10_anchorOf_65 : decode cX10_anchorOf 65 = .ok (.if_icmp .eq 5, 3) := by decide +kernel
theorem dX10_anchorOf_68 : decode cX10_anchorOf 68 = .ok (.iconst (-1), 1) := by decide +kernel
theorem dX10_anchorOf_69 : decode cX10_anchorOf 69 = .ok (.ireturn, 1) := by decide +kernel
theorem dX10_anchorOf_70 : decode cX10_anchorOf 70 = .ok (.iload 7, 2) := by decide +kernel
theorem dX10_anchorOf_72 : decode cX10_anchorOf 72 = .ok (.istore 6, 2) := by decide +kernel
theorem dX10_anchorOf_74 : decode cX10_anchorOf 74 = .ok (.iinc 7 1, 3) := by decide +kernel
theorem dX10_anchorOf_77 : decode cX10_anchorOf 77 = .ok (.goto (-35), 3) := by decide +kernel
theorem dX10_anchorOf_80 : decode cX10_anchorOf 80 = .ok (.iload 6, 2) := by decide +kernel
theorem dX10_anchorOf_82 : decode cX10_anchorOf 82 = .ok (.ireturn, 1) := by decide +kernel
theorem dX10_goesInto_0 : decode cX10_goesInto 0 = .ok (.iload_n 1, 1) := by decide +kernel
theorem dX10_goesInto_1 : decode cX10_goesInto 1 = .ok (.istore 6, 2) := by decide +kernel
theorem dX10_goesInto_3 : decode cX10_goesInto 3 = .ok (.iload_n 2, 1) := by decide +kernel
theorem dX10_goesInto_4 : decode cX10_goesInto 4 = .ok (.istore 7, 2) := by decide +kernel
theorem dX10_goesInto_6 : decode cX10_goesInto 6 = .ok (.iload_n 3, 1) := by decide +kernel
theorem dX10_goesInto_7 : decode cX10_goesInto 7 = .ok (.istore 8, 2) := by decide +kernel
theorem dX10_goesInto_9 : decode cX10_goesInto 9 = .ok (.iload 4, 2) := by decide +kernel
theorem dX10_goesInto_11 : decode cX10_goesInto 11 = .ok (.istore 9, 2) := by decide +kernel
theorem dX10_goesInto_13 : decode cX10_goesInto 13 = .ok (.iload 6, 2) := by decide +kernel
theorem dX10_goesInto_15 : decode cX10_goesInto 15 = .ok (.iload 7, 2) := by decide +kernel
theorem dX10_goesInto_17 : decode cX10_goesInto 17 = .ok (.if_icmp .ge 39, 3) := by decide +kernel
theorem dX10_goesInto_20 : decode cX10_goesInto 20 = .ok (.iload 8, 2) := by decide +kernel
theorem dX10_goesInto_22 : decode cX10_goesInto 22 = .ok (.iload 9, 2) := by decide +kernel
theorem dX10_goesInto_24 : decode cX10_goesInto 24 = .ok (.if_icmp .ge 32, 3) := by decide +kernel
theorem dX10_goesInto_27 : decode cX10_goesInto 27 = .ok (.aload_n 0, 1) := by decide +kernel
theorem dX10_goesInto_28 : decode cX10_goesInto 28 = .ok (.iload 6, 2) := by decide +kernel
theorem dX10_goesInto_30 : decode cX10_goesInto 30 = .ok (.iload 8, 2) := by decide +kernel
theorem dX10_goesInto_32 : decode cX10_goesInto 32 = .ok (.invokevirtual 110, 3) := by decide +kernel
theorem dX10_goesInto_35 : decode cX10_goesInto 35 = .ok (.ifCond .eq 21, 3) := by decide +kernel
theorem dX10_goesInto_38 : decode cX10_goesInto 38 = .ok (.aload_n 0, 1) := by decide +kernel
theorem dX10_goesInto_39 : decode cX10_goesInto 39 = .ok (.iload 6, 2) := by decide +kernel
theorem dX10_goesInto_41 : decode cX10_goesInto 41 = .ok (.iload 8, 2) := by decide +kernel
theorem dX10_goesInto_43 : decode cX10_goesInto 43 = .ok (.iconst 0, 1) := by decide +kernel
theorem dX10_goesInto_44 : decode cX10_goesInto 44 = .ok (.invokevirtual 112, 3) := by decide +kernel
theorem dX10_goesInto_47 : decode cX10_goesInto 47 = .ok (.iinc 6 1, 3) := by decide +kernel
theorem dX10_goesInto_50 : decode cX10_goesInto 50 = .ok (.iinc 8 1, 3) := by decide +kernel
theorem dX10_goesInto_53 : decode cX10_goesInto 53 = .ok (.goto (-40), 3) := by decide +kernel
theorem dX10_goesInto_56 : decode cX10_goesInto 56 = .ok (.iload 6, 2) := by decide +kernel
theorem dX10_goesInto_58 : decode cX10_goesInto 58 = .ok (.iload 7, 2) := by decide +kernel
theorem dX10_goesInto_60 : decode cX10_goesInto 60 = .ok (.if_icmp .ge 43, 3) := by decide +kernel
theorem dX10_goesInto_63 : decode cX10_goesInto 63 = .ok (.iload 8, 2) := by decide +kernel
theorem dX10_goesInto_65 : decode cX10_goesInto 65 = .ok (.iload 9, 2) := by decide +kernel
theorem dX10_goesInto_67 : decode cX10_goesInto 67 = .ok (.if_icmp .ge 36, 3) := by decide +kernel
theorem dX10_goesInto_70 : decode cX10_goesInto 70 = .ok (.aload_n 0, 1) := by decide +kernel
theorem dX10_goesInto_71 : decode cX10_goesInto 71 = .ok (.iload 7, 2) := by decide +kernel
theorem dX10_goesInto_73 : decode cX10_goesInto 73 = .ok (.iconst 1, 1) := by decide +kernel
theorem dX10_goesInto_74 : decode cX10_goesInto 74 = .ok (.isub, 1) := by decide +kernel
theorem dX10_goesInto_75 : decode cX10_goesInto 75 = .ok (.iload 9, 2) := by decide +kernel
theorem dX10_goesInto_77 : decode cX10_goesInto 77 = .ok (.iconst 1, 1) := by decide +kernel
theorem dX10_goesInto_78 : decode cX10_goesInto 78 = .ok (.isub, 1) := by decide +kernel
theorem dX10_goesInto_79 : decode cX10_goesInto 79 = .ok (.invokevirtual 110, 3) := by decide +kernel
theorem dX10_goesInto_82 : decode cX10_goesInto 82 = .ok (.ifCond .eq 21, 3) := by decide +kernel
theorem dX10_goesInto_85 : decode cX10_goesInto 85 = .ok (.iinc 7 (-1), 3) := by decide +kernel
theorem dX10_goesInto_88 : decode cX10_goesInto 88 = .ok (.iinc 9 (-1), 3) := by decide +kernel
theorem dX10_goesInto_91 : decode cX10_goesInto 91 = .ok (.aload_n 0, 1) := by decide +kernel
theorem dX10_goesInto_92 : decode cX10_goesInto 92 = .ok (.iload 7, 2) := by decide +kernel
theorem dX10_goesInto_94 : decode cX10_goesInto 94 = .ok (.iload 9, 2) := by decide +kernel
theorem dX10_goesInto_96 : decode cX10_goesInto 96 = .ok (.iconst 0, 1) := by decide +kernel
theorem dX10_goesInto_97 : decode cX10_goesInto 97 = .ok (.invokevirtual 112, 3) := by decide +kernel
theorem dX10_goesInto_100 : decode cX10_goesInto 100 = .ok (.goto (-44), 3) := by decide +kernel
theorem dX10_goesInto_103 : decode cX10_goesInto 103 = .ok (.bipush 14, 2) := by decide +kernel
theorem dX10_goesInto_105 : decode cX10_goesInto 105 = .ok (.newarray .int, 2) := by decide +kernel
theorem dX10_goesInto_107 : decode cX10_goesInto 107 = .ok (.astore 10, 2) := by decide +kernel
theorem dX10_goesInto_109 : decode cX10_goesInto 109 = .ok (.bipush 14, 2) := by decide +kernel
theorem dX10_goesInto_111 : decode cX10_goesInto 111 = .ok (.newarray .int, 2) := by decide +kernel
theorem dX10_goesInto_113 : decode cX10_goesInto 113 = .ok (.astore 11, 2) := by decide +kernel
theorem dX10_goesInto_115 : decode cX10_goesInto 115 = .ok (.iconst 0, 1) := by decide +kernel
theorem dX10_goesInto_116 : decode cX10_goesInto 116 = .ok (.istore 12, 2) := by decide +kernel
theorem dX10_goesInto_118 : decode cX10_goesInto 118 = .ok (.iconst 0, 1) := by decide +kernel
theorem dX10_goesInto_119 : decode cX10_goesInto 119 = .ok (.istore 13, 2) := by decide +kernel
theorem dX10_goesInto_121 : decode cX10_goesInto 121 = .ok (.iload 7, 2) := by decide +kernel
theorem dX10_goesInto_123 : decode cX10_goesInto 123 = .ok (.iconst 1, 1) := by decide +kernel
theorem dX10_goesInto_124 : decode cX10_goesInto 124 = .ok (.isub, 1) := by decide +kernel
theorem dX10_goesInto_125 : decode cX10_goesInto 125 = .ok (.istore 14, 2) := by decide +kernel
theorem dX10_goesInto_127 : decode cX10_goesInto 127 = .ok (.iload 14, 2) := by decide +kernel
theorem dX10_goesInto_129 : decode cX10_goesInto 129 = .ok (.iload 6, 2) := by decide +kernel
theorem dX10_goesInto_131 : decode cX10_goesInto 131 = .ok (.if_icmp .lt 144, 3) := by decide +kernel
theorem dX10_goesInto_134 : decode cX10_goesInto 134 = .ok (.aload 10, 2) := by decide +kernel
theorem dX10_goesInto_136 : decode cX10_goesInto 136 = .ok (.iload 14, 2) := by decide +kernel
theorem dX10_goesInto_138 : decode cX10_goesInto 138 = .ok (.aload_n 0, 1) := by decide +kernel
theorem dX10_goesInto_139 : decode cX10_goesInto 139 = .ok (.iload 14, 2) := by decide +kernel
theorem dX10_goesInto_141 : decode cX10_goesInto 141 = .ok (.iload 6, 2) := by decide +kernel
theorem dX10_goesInto_143 : decode cX10_goesInto 143 = .ok (.iload 7, 2) := by decide +kernel
theorem dX10_goesInto_145 : decode cX10_goesInto 145 = .ok (.iload 8, 2) := by decide +kernel
theorem dX10_goesInto_147 : decode cX10_goesInto 147 = .ok (.iload 9, 2) := by decide +kernel
theorem dX10_goesInto_149 : decode cX10_goesInto 149 = .ok (.invokevirtual 116, 3) := by decide +kernel
theorem dX10_goesInto_152 : decode cX10_goesInto 152 = .ok (.iastore, 1) := by decide +kernel
theorem dX10_goesInto_153 : decode cX10_goesInto 153 = .ok (.aload 11, 2) := by decide +kernel
theorem dX10_goesInto_155 : decode cX10_goesInto 155 = .ok (.iload 14, 2) := by decide +kernel
theorem dX10_goesInto_157 : decode cX10_goesInto 157 = .ok (.aload 10, 2) := by decide +kernel
theorem dX10_goesInto_159 : decode cX10_goesInto 159 = .ok (.iload 14, 2) := by decide +kernel
theorem dX10_goesInto_161 : decode cX10_goesInto 161 = .ok (.iaload, 1) := by decide +kernel
theorem dX10_goesInto_162 : decode cX10_goesInto 162 = .ok (.iconst (-1), 1) := by decide +kernel
theorem dX10_goesInto_163 : decode cX10_goesInto 163 = .ok (.if_icmp .ne 7, 3) := by decide +kernel
theorem dX10_goesInto_166 : decode cX10_goesInto 166 = .ok (.iconst 0, 1) := by decide +kernel
theorem dX10_goesInto_167 : decode cX10_goesInto 167 = .ok (.goto 4, 3) := by decide +kernel
theorem dX10_goesInto_170 : decode cX10_goesInto 170 = .ok (.iconst 1, 1) := by decide +kernel
theorem dX10_goesInto_171 : decode cX10_goesInto 171 = .ok (.iastore, 1) := by decide +kernel
theorem dX10_goesInto_172 : decode cX10_goesInto 172 = .ok (.aload 10, 2) := by decide +kernel
theorem dX10_goesInto_174 : decode cX10_goesInto 174 = .ok (.iload 14, 2) := by decide +kernel
theorem dX10_goesInto_176 : decode cX10_goesInto 176 = .ok (.iaload, 1) := by decide +kernel
theorem dX10_goesInto_177 : decode cX10_goesInto 177 = .ok (.iconst (-1), 1) := by decide +kernel
theorem dX10_goesInto_178 : decode cX10_goesInto 178 = .ok (.if_icmp .eq 6, 3) := by decide +kernel
theorem dX10_goesInto_181 : decode cX10_goesInto 181 = .ok (.iinc 13 1, 3) := by decide +kernel
theorem dX10_goesInto_184 : decode cX10_goesInto 184 = .ok (.iload 14, 2) := by decide +kernel
theorem dX10_goesInto_186 : decode cX10_goesInto 186 = .ok (.iconst 1, 1) := by decide +kernel
theorem dX10_goesInto_187 : decode cX10_goesInto 187 = .ok (.iadd, 1) := by decide +kernel
theorem dX10_goesInto_188 : decode cX10_goesInto 188 = .ok (.istore 15, 2) := by decide +kernel
theorem dX10_goesInto_190 : decode cX10_goesInto 190 = .ok (.iload 15, 2) := by decide +kernel
theorem dX10_goesInto_192 : decode cX10_goesInto 192 = .ok (.iload 7, 2) := by decide +kernel
theorem dX10_goesInto_194 : decode cX10_goesInto 194 = .ok (.if_icmp .ge 58, 3) := by decide +kernel
theorem dX10_goesInto_197 : decode cX10_goesInto 197 = .ok (.aload 10, 2) := by decide +kernel
theorem dX10_goesInto_199 : decode cX10_goesInto 199 = .ok (.iload 14, 2) := by decide +kernel
theorem dX10_goesInto_201 : decode cX10_goesInto 201 = .ok (.iaload, 1) := by decide +kernel
theorem dX10_goesInto_202 : decode cX10_goesInto 202 = .ok (.iconst (-1), 1) := by decide +kernel
theorem dX10_goesInto_203 : decode cX10_goesInto 203 = .ok (.if_icmp .eq 49, 3) := by decide +kernel
theorem dX10_goesInto_206 : decode cX10_goesInto 206 = .ok (.aload 10, 2) := by decide +kernel
theorem dX10_goesInto_208 : decode cX10_goesInto 208 = .ok (.iload 15, 2) := by decide +kernel
theorem dX10_goesInto_210 : decode cX10_goesInto 210 = .ok (.iaload, 1) := by decide +kernel
theorem dX10_goesInto_211 : decode cX10_goesInto 211 = .ok (.aload 10, 2) := by decide +kernel
theorem dX10_goesInto_213 : decode cX10_goesInto 213 = .ok (.iload 14, 2) := by decide +kernel
theorem dX10_goesInto_215 : decode cX10_goesInto 215 = .ok (.iaload, 1) := by decide +kernel
theorem dX10_goesInto_216 : decode cX10_goesInto 216 = .ok (.if_icmp .le 30, 3) := by decide +kernel
theorem dX10_goesInto_219 : decode cX10_goesInto 219 = .ok (.aload 11, 2) := by decide +kernel
theorem dX10_goesInto_221 : decode cX10_goesInto 221 = .ok (.iload 15, 2) := by decide +kernel
theorem dX10_goesInto_223 : decode cX10_goesInto 223 = .ok (.iaload, 1) := by decide +kernel
theorem dX10_goesInto_224 : decode cX10_goesInto 224 = .ok (.iconst 1, 1) := by decide +kernel
theorem dX10_goesInto_225 : decode cX10_goesInto 225 = .ok (.iadd, 1) := by decide +kernel
theorem dX10_goesInto_226 : decode cX10_goesInto 226 = .ok (.aload 11, 2) := by decide +kernel
theorem dX10_goesInto_228 : decode cX10_goesInto 228 = .ok (.iload 14, 2) := by decide +kernel
theorem dX10_goesInto_230 : decode cX10_goesInto 230 = .ok (.iaload, 1) := by decide +kernel
theorem dX10_goesInto_231 : decode cX10_goesInto 231 = .ok (.if_icmp .le 15, 3) := by decide +kernel
theorem dX10_goesInto_234 : decode cX10_goesInto 234 = .ok (.aload 11, 2) := by decide +kernel
theorem dX10_goesInto_236 : decode cX10_goesInto 236 = .ok (.iload 14, 2) := by decide +kernel
theorem dX10_goesInto_238 : decode cX10_goesInto 238 = .ok (.aload 11, 2) := by decide +kernel
theorem dX10_goesInto_240 : decode cX10_goesInto 240 = .ok (.iload 15, 2) := by decide +kernel
theorem dX10_goesInto_242 : decode cX10_goesInto 242 = .ok (.iaload, 1) := by decide +kernel
theorem dX10_goesInto_243 : decode cX10_goesInto 243 = .ok (.iconst 1, 1) := by decide +kernel
theorem dX10_goesInto_244 : decode cX10_goesInto 244 = .ok (.iadd, 1) := by decide +kernel
theorem dX10_goesInto_245 : decode cX10_goesInto 245 = .ok (.iastore, 1) := by decide +kernel
theorem dX10_goesInto_246 : decode cX10_goesInto 246 = .ok (.iinc 15 1, 3) := by decide +kernel
theorem dX10_goesInto_249 : decode cX10_goesInto 249 = .ok (.goto (-59), 3) := by decide +kernel
theorem dX10_goesInto_252 : decode cX10_goesInto 252 = .ok (.aload 11, 2) := by decide +kernel
theorem dX10_goesInto_254 : decode cX10_goesInto 254 = .ok (.iload 14, 2) := by decide +kernel
theorem dX10_goesInto_256 : decode cX10_goesInto 256 = .ok (.iaload, 1) := by decide +kernel
theorem dX10_goesInto_257 : decode cX10_goesInto 257 = .ok (.iload 12, 2) := by decide +kernel
theorem dX10_goesInto_259 : decode cX10_goesInto 259 = .ok (.if_icmp .le 10, 3) := by decide +kernel
theorem dX10_goesInto_262 : decode cX10_goesInto 262 = .ok (.aload 11, 2) := by decide +kernel
theorem dX10_goesInto_264 : decode cX10_goesInto 264 = .ok (.iload 14, 2) := by decide +kernel
theorem dX10_goesInto_266 : decode cX10_goesInto 266 = .ok (.iaload, 1) := by decide +kernel
theorem dX10_goesInto_267 : decode cX10_goesInto 267 = .ok (.istore 12, 2) := by decide +kernel
theorem dX10_goesInto_269 : decode cX10_goesInto 269 = .ok (.iinc 14 (-1), 3) := by decide +kernel
theorem dX10_goesInto_272 : decode cX10_goesInto 272 = .ok (.goto (-145), 3) := by decide +kernel
theorem dX10_goesInto_275 : decode cX10_goesInto 275 = .ok (.iload 5, 2) := by decide +kernel
theorem dX10_goesInto_277 : decode cX10_goesInto 277 = .ok (.ifCond .eq 15, 3) := by decide +kernel
theorem dX10_goesInto_280 : decode cX10_goesInto 280 = .ok (.aload_n 0, 1) := by decide +kernel
theorem dX10_goesInto_281 : decode cX10_goesInto 281 = .ok (.iload 13, 2) := by decide +kernel
theorem dX10_goesInto_283 : decode cX10_goesInto 283 = .ok (.putfield 120, 3) := by decide +kernel
theorem dX10_goesInto_286 : decode cX10_goesInto 286 = .ok (.aload_n 0, 1) := by decide +kernel
theorem dX10_goesInto_287 : decode cX10_goesInto 287 = .ok (.iload 12, 2) := by decide +kernel
theorem dX10_goesInto_289 : decode cX10_goesInto 289 = .ok (.putfield 123, 3) := by decide +kernel
theorem dX10_goesInto_292 : decode cX10_goesInto 292 = .ok (.iload 12, 2) := by decide +kernel
theorem dX10_goesInto_294 : decode cX10_goesInto 294 = .ok (.ifCond .ne 4, 3) := by decide +kernel
theorem dX10_goesInto_297 : decode cX10_goesInto 297 = .ok (.return_, 1) := by decide +kernel
theorem dX10_goesInto_298 : decode cX10_goesInto 298 = .ok (.iload 12, 2) := by decide +kernel
theorem dX10_goesInto_300 : decode cX10_goesInto 300 = .ok (.istore 14, 2) := by decide +kernel
theorem dX10_goesInto_302 : decode cX10_goesInto 302 = .ok (.iconst (-1), 1) := by decide +kernel
theorem dX10_goesInto_303 : decode cX10_goesInto 303 = .ok (.istore 15, 2) := by decide +kernel
theorem dX10_goesInto_305 : decode cX10_goesInto 305 = .ok (.iload 6, 2) := by decide +kernel
theorem dX10_goesInto_307 : decode cX10_goesInto 307 = .ok (.istore 16, 2) := by decide +kernel
theorem dX10_goesInto_309 : decode cX10_goesInto 309 = .ok (.iload 8, 2) := by decide +kernel
theorem dX10_goesInto_311 : decode cX10_goesInto 311 = .ok (.istore 17, 2) := by decide +kernel
theorem dX10_goesInto_313 : decode cX10_goesInto 313 = .ok (.iload 6, 2) := by decide +kernel
theorem dX10_goesInto_315 : decode cX10_goesInto 315 = .ok (.istore 18, 2) := by decide +kernel
theorem dX10_goesInto_317 : decode cX10_goesInto 317 = .ok (.iload 18, 2) := by decide +kernel
theorem dX10_goesInto_319 : decode cX10_goesInto 319 = .ok (.iload 7, 2) := by decide +kernel
theorem dX10_goesInto_321 : decode cX10_goesInto 321 = .ok (.if_icmp .ge 90, 3) := by decide +kernel
theorem dX10_goesInto_324 : decode cX10_goesInto 324 = .ok (.iload 14, 2) := by decide +kernel
theorem dX10_goesInto_326 : decode cX10_goesInto 326 = .ok (.ifCond .le 85, 3) := by decide +kernel
theorem dX10_goesInto_329 : decode cX10_goesInto 329 = .ok (.aload 11, 2) := by decide +kernel
theorem dX10_goesInto_331 : decode cX10_goesInto 331 = .ok (.iload 18, 2) := by decide +kernel
theorem dX10_goesInto_333 : decode cX10_goesInto 333 = .ok (.iaload, 1) := by decide +kernel
theorem dX10_goesInto_334 : decode cX10_goesInto 334 = .ok (.iload 14, 2) := by decide +kernel
theorem dX10_goesInto_336 : decode cX10_goesInto 336 = .ok (.if_icmp .ne 69, 3) := by decide +kernel
theorem dX10_goesInto_339 : decode cX10_goesInto 339 = .ok (.aload 10, 2) := by decide +kernel
theorem dX10_goesInto_341 : decode cX10_goesInto 341 = .ok (.iload 18, 2) := by decide +kernel
theorem dX10_goesInto_343 : decode cX10_goesInto 343 = .ok (.iaload, 1) := by decide +kernel
theorem dX10_goesInto_344 : decode cX10_goesInto 344 = .ok (.iload 15, 2) := by decide +kernel
theorem dX10_goesInto_346 : decode cX10_goesInto 346 = .ok (.if_icmp .gt 6, 3) := by decide +kernel
theorem dX10_goesInto_349 : decode cX10_goesInto 349 = .ok (.goto 56, 3) := by decide +kernel
theorem dX10_goesInto_352 : decode cX10_goesInto 352 = .ok (.aload_n 0, 1) := by decide +kernel
theorem dX10_goesInto_353 : decode cX10_goesInto 353 = .ok (.iload 16, 2) := by decide +kernel
theorem dX10_goesInto_355 : decode cX10_goesInto 355 = .ok (.iload 18, 2) := by decide +kernel
theorem dX10_goesInto_357 : decode cX10_goesInto 357 = .ok (.iload 17, 2) := by decide +kernel
theorem dX10_goesInto_359 : decode cX10_goesInto 359 = .ok (.aload 10, 2) := by decide +kernel
theorem dX10_goesInto_361 : decode cX10_goesInto 361 = .ok (.iload 18, 2) := by decide +kernel
theorem dX10_goesInto_363 : decode cX10_goesInto 363 = .ok (.iaload, 1) := by decide +kernel
theorem dX10_goesInto_364 : decode cX10_goesInto 364 = .ok (.iconst 0, 1) := by decide +kernel
theorem dX10_goesInto_365 : decode cX10_goesInto 365 = .ok (.invokevirtual 126, 3) := by decide +kernel
theorem dX10_goesInto_368 : decode cX10_goesInto 368 = .ok (.aload_n 0, 1) := by decide +kernel
theorem dX10_goesInto_369 : decode cX10_goesInto 369 = .ok (.iload 18, 2) := by decide +kernel
theorem dX10_goesInto_371 : decode cX10_goesInto 371 = .ok (.aload 10, 2) := by decide +kernel
theorem dX10_goesInto_373 : decode cX10_goesInto 373 = .ok (.iload 18, 2) := by decide +kernel
theorem dX10_goesInto_375 : decode cX10_goesInto 375 = .ok (.iaload, 1) := by decide +kernel
theorem dX10_goesInto_376 : decode cX10_goesInto 376 = .ok (.iconst 0, 1) := by decide +kernel
theorem dX10_goesInto_377 : decode cX10_goesInto 377 = .ok (.invokevirtual 112, 3) := by decide +kernel
theorem dX10_goesInto_380 : decode cX10_goesInto 380 = .ok (.aload 10, 2) := by decide +kernel
theorem dX10_goesInto_382 : decode cX10_goesInto 382 = .ok (.iload 18, 2) := by decide +kernel
theorem dX10_goesInto_384 : decode cX10_goesInto 384 = .ok (.iaload, 1) := by decide +kernel
theorem dX10_goesInto_385 : decode cX10_goesInto 385 = .ok (.istore 15, 2) := by decide +kernel
theorem dX10_goesInto_387 : decode cX10_goesInto 387 = .ok (.iload 18, 2) := by decide +kernel
theorem dX10_goesInto_389 : decode cX10_goesInto 389 = .ok (.iconst 1, 1) := by decide +kernel
theorem dX10_goesInto_390 : decode cX10_goesInto 390 = .ok (.iadd, 1) := by decide +kernel
theorem dX10_goesInto_391 : decode cX10_goesInto 391 = .ok (.istore 16, 2) := by decide +kernel
theorem dX10_goesInto_393 : decode cX10_goesInto 393 = .ok (.aload 10, 2) := by decide +kernel
theorem dX10_goesInto_395 : decode cX10_goesInto 395 = .ok (.iload 18, 2) := by decide +kernel
theorem dX10_goesInto_397 : decode cX10_goesInto 397 = .ok (.iaload, 1) := by decide +kernel
theorem dX10_goesInto_398 : decode cX10_goesInto 398 = .ok (.iconst 1, 1) := by decide +kernel
theorem dX10_goesInto_399 : decode cX10_goesInto 399 = .ok (.iadd, 1) := by decide +kernel
theorem dX10_goesInto_400 : decode cX10_goesInto 400 = .ok (.istore 17, 2) := by decide +kernel
theorem dX10_goesInto_402 : decode cX10_goesInto 402 = .ok (.iinc 14 (-1), 3) := by decide +kernel
theorem dX10_goesInto_405 : decode cX10_goesInto 405 = .ok (.iinc 18 1, 3) := by decide +kernel
theorem dX10_goesInto_408 : decode cX10_goesInto 408 = .ok (.goto (-91), 3) := by decide +kernel
theorem dX10_goesInto_411 : decode cX10_goesInto 411 = .ok (.aload_n 0, 1) := by decide +kernel
theorem dX10_goesInto_412 : decode cX10_goesInto 412 = .ok (.iload 16, 2) := by decide +kernel
theorem dX10_goesInto_414 : decode cX10_goesInto 414 = .ok (.iload 7, 2) := by decide +kernel
theorem dX10_goesInto_416 : decode cX10_goesInto 416 = .ok (.iload 17, 2) := by decide +kernel
theorem dX10_goesInto_418 : decode cX10_goesInto 418 = .ok (.iload 9, 2) := by decide +kernel
theorem dX10_goesInto_420 : decode cX10_goesInto 420 = .ok (.iconst 0, 1) := by decide +kernel
theorem dX10_goesInto_421 : decode cX10_goesInto 421 = .ok (.invokevirtual 126, 3) := by decide +kernel
theorem dX10_goesInto_424 : decode cX10_goesInto 424 = .ok (.return_, 1) := by decide +kernel
theorem dX10_isLoose_0 : decode cX10_isLoose 0 = .ok (.iload_n 2, 1) := by decide +kernel
theorem dX10_isLoose_1 : decode cX10_isLoose 1 = .ok (.aload_n 0, 1) := by decide +kernel
theorem dX10_isLoose_2 : decode cX10_isLoose 2 = .ok (.iload_n 1, 1) := by decide +kernel
theorem dX10_isLoose_3 : decode cX10_isLoose 3 = .ok (.invokevirtual 62, 3) := by decide +kernel
theorem dX10_isLoose_6 : decode cX10_isLoose 6 = .ok (.if_icmp .ge 22, 3) := by decide +kernel
theorem dX10_isLoose_9 : decode cX10_isLoose 9 = .ok (.aload_n 0, 1) := by decide +kernel
theorem dX10_isLoose_10 : decode cX10_isLoose 10 = .ok (.getfield 33, 3) := by decide +kernel
theorem dX10_isLoose_13 : decode cX10_isLoose 13 = .ok (.bipush 14, 2) := by decide +kernel
theorem dX10_isLoose_15 : decode cX10_isLoose 15 = .ok (.iload_n 1, 1) := by decide +kernel
theorem dX10_isLoose_16 : decode cX10_isLoose 16 = .ok (.imul, 1) := by decide +kernel
theorem dX10_isLoose_17 : decode cX10_isLoose 17 = .ok (.iload_n 2, 1) := by decide +kernel
theorem dX10_isLoose_18 : decode cX10_isLoose 18 = .ok (.iadd, 1) := by decide +kernel
theorem dX10_isLoose_19 : decode cX10_isLoose 19 = .ok (.iaload, 1) := by decide +kernel
theorem dX10_isLoose_20 : decode cX10_isLoose 20 = .ok (.iconst 3, 1) := by decide +kernel
theorem dX10_isLoose_21 : decode cX10_isLoose 21 = .ok (.if_icmp .ne 7, 3) := by decide +kernel
theorem dX10_isLoose_24 : decode cX10_isLoose 24 = .ok (.iconst 1, 1) := by decide +kernel
theorem dX10_isLoose_25 : decode cX10_isLoose 25 = .ok (.goto 4, 3) := by decide +kernel
theorem dX10_isLoose_28 : decode cX10_isLoose 28 = .ok (.iconst 0, 1) := by decide +kernel
theorem dX10_isLoose_29 : decode cX10_isLoose 29 = .ok (.ireturn, 1) := by decide +kernel
theorem dX10_blockFrom_0 : decode cX10_blockFrom 0 = .ok (.iconst 0, 1) := by decide +kernel
theorem dX10_blockFrom_1 : decode cX10_blockFrom 1 = .ok (.istore_n 3, 1) := by decide +kernel
theorem dX10_blockFrom_2 : decode cX10_blockFrom 2 = .ok (.aload_n 0, 1) := by decide +kernel
theorem dX10_blockFrom_3 : decode cX10_blockFrom 3 = .ok (.iconst 0, 1) := by decide +kernel
theorem dX10_blockFrom_4 : decode cX10_blockFrom 4 = .ok (.iload_n 1, 1) := by decide +kernel
theorem dX10_blockFrom_5 : decode cX10_blockFrom 5 = .ok (.iload_n 3, 1) := by decide +kernel
theorem dX10_blockFrom_6 : decode cX10_blockFrom 6 = .ok (.iadd, 1) := by decide +kernel
theorem dX10_blockFrom_7 : decode cX10_blockFrom 7 = .ok (.invokevirtual 130, 3) := by decide +kernel
theorem dX10_blockFrom_10 : decode cX10_blockFrom 10 = .ok (.ifCond .eq 33, 3) := by decide +kernel
theorem dX10_blockFrom_13 : decode cX10_blockFrom 13 = .ok (.aload_n 0, 1) := by decide +kernel
theorem dX10_blockFrom_14 : decode cX10_blockFrom 14 = .ok (.iconst 1, 1) := by decide +kernel
theorem dX10_blockFrom_15 : decode cX10_blockFrom 15 = .ok (.iload_n 2, 1) := by decide +kernel
theorem dX10_blockFrom_16 : decode cX10_blockFrom 16 = .ok (.iload_n 3, 1) := by decide +kernel
theorem dX10_blockFrom_17 : decode cX10_blockFrom 17 = .ok (.iadd, 1) := by decide +kernel
theorem dX10_blockFrom_18 : decode cX10_blockFrom 18 = .ok (.invokevirtual 130, 3) := by decide +kernel
theorem dX10_blockFrom_21 : decode cX10_blockFrom 21 = .ok (.ifCond .eq 22, 3) := by decide +kernel
theorem dX10_blockFrom_24 : decode cX10_blockFrom 24 = .ok (.aload_n 0, 1) := by decide +kernel
theorem dX10_blockFrom_25 : decode cX10_blockFrom 25 = .ok (.iload_n 1, 1) := by decide +kernel
theorem dX10_blockFrom_26 : decode cX10_blockFrom 26 = .ok (.iload_n 3, 1) := by decide +kernel
theorem dX10_blockFrom_27 : decode cX10_blockFrom 27 = .ok (.iadd, 1) := by decide +kernel
theorem dX10_blockFrom_28 : decode cX10_blockFrom 28 = .ok (.iload_n 2, 1) := by decide +kernel
theorem dX10_blockFrom_29 : decode cX10_blockFrom 29 = .ok (.iload_n 3, 1) := by decide +kernel
theorem dX10_blockFrom_30 : decode cX10_blockFrom 30 = .ok (.iadd, 1) := by decide +kernel
theorem dX10_blockFrom_31 : decode cX10_blockFrom 31 = .ok (.invokevirtual 110, 3) := by decide +kernel
theorem dX10_blockFrom_34 : decode cX10_blockFrom 34 = .ok (.ifCond .eq 9, 3) := by decide +kernel
theorem dX10_blockFrom_37 : decode cX10_blockFrom 37 = .ok (.iinc 3 1, 3) := by decide +kernel
theorem dX10_blockFrom_40 : decode cX10_blockFrom 40 = .ok (.goto (-38), 3) := by decide +kernel
theorem dX10_blockFrom_43 : decode cX10_blockFrom 43 = .ok (.iload_n 3, 1) := by decide +kernel
theorem dX10_blockFrom_44 : decode cX10_blockFrom 44 = .ok (.ireturn, 1) := by decide +kernel
theorem dX10_laysBlocks_0 : decode cX10_laysBlocks 0 = .ok (.aload_n 0, 1) := by decide +kernel
theorem dX10_laysBlocks_1 : decode cX10_laysBlocks 1 = .ok (.iconst 0, 1) := by decide +kernel
theorem dX10_laysBlocks_2 : decode cX10_laysBlocks 2 = .ok (.putfield 133, 3) := by decide +kernel
theorem dX10_laysBlocks_5 : decode cX10_laysBlocks 5 = .ok (.iconst 1, 1) := by decide +kernel
theorem dX10_laysBlocks_6 : decode cX10_laysBlocks 6 = .ok (.istore_n 1, 1) := by decide +kernel
theorem dX10_laysBlocks_7 : decode cX10_laysBlocks 7 = .ok (.iload_n 1, 1) := by decide +kernel
theorem dX10_laysBlocks_8 : decode cX10_laysBlocks 8 = .ok (.ifCond .le 177, 3) := by decide +kernel
theorem dX10_laysBlocks_11 : decode cX10_laysBlocks 11 = .ok (.iconst 0, 1) := by decide +kernel
theorem dX10_laysBlocks_12 : decode cX10_laysBlocks 12 = .ok (.istore_n 1, 1) := by decide +kernel
theorem dX10_laysBlocks_13 : decode cX10_laysBlocks 13 = .ok (.iconst 0, 1) := by decide +kernel
theorem dX10_laysBlocks_14 : decode cX10_laysBlocks 14 = .ok (.istore_n 2, 1) := by decide +kernel
theorem dX10_laysBlocks_15 : decode cX10_laysBlocks 15 = .ok (.iconst 0, 1) := by decide +kernel
theorem dX10_laysBlocks_16 : decode cX10_laysBlocks 16 = .ok (.istore_n 3, 1) := by decide +kernel
theorem dX10_laysBlocks_17 : decode cX10_laysBlocks 17 = .ok (.iload_n 3, 1) := by decide +kernel
theorem dX10_laysBlocks_18 : decode cX10_laysBlocks 18 = .ok (.sipush 196, 3) := by decide +kernel
theorem dX10_laysBlocks_21 : decode cX10_laysBlocks 21 = .ok (.if_icmp .ge 37, 3) := by decide +kernel
theorem dX10_laysBlocks_24 : decode cX10_laysBlocks 24 = .ok (.aload_n 0, 1) := by decide +kernel
theorem dX10_laysBlocks_25 : decode cX10_laysBlocks 25 = .ok (.iload_n 3, 1) := by decide +kernel
theorem dX10_laysBlocks_26 : decode cX10_laysBlocks 26 = .ok (.bipush 14, 2) := by decide +kernel
theorem dX10_laysBlocks_28 : decode cX10_laysBlocks 28 = .ok (.idiv, 1) := by decide +kernel
theorem dX10_laysBlocks_29 : decode cX10_laysBlocks 29 = .ok (.iload_n 3, 1) := by decide +kernel
theorem dX10_laysBlocks_30 : decode cX10_laysBlocks 30 = .ok (.bipush 14, 2) := by decide +kernel
theorem dX10_laysBlocks_32 : decode cX10_laysBlocks 32 = .ok (.irem, 1) := by decide +kernel
theorem dX10_laysBlocks_33 : decode cX10_laysBlocks 33 = .ok (.invokevirtual 136, 3) := by decide +kernel
theorem dX10_laysBlocks_36 : decode cX10_laysBlocks 36 = .ok (.istore 4, 2) := by decide +kernel
theorem dX10_laysBlocks_38 : decode cX10_laysBlocks 38 = .ok (.iload 4, 2) := by decide +kernel
theorem dX10_laysBlocks_40 : decode cX10_laysBlocks 40 = .ok (.iload_n 1, 1) := by decide +kernel
theorem dX10_laysBlocks_41 : decode cX10_laysBlocks 41 = .ok (.if_icmp .gt 6, 3) := by decide +kernel
theorem dX10_laysBlocks_44 : decode cX10_laysBlocks 44 = .ok (.goto 8, 3) := by decide +kernel
theorem dX10_laysBlocks_47 : decode cX10_laysBlocks 47 = .ok (.iload 4, 2) := by decide +kernel
theorem dX10_laysBlocks_49 : decode cX10_laysBlocks 49 = .ok (.istore_n 1, 1) := by decide +kernel
theorem dX10_laysBlocks_50 : decode cX10_laysBlocks 50 = .ok (.iload_n 3, 1) := by decide +kernel
theorem dX10_laysBlocks_51 : decode cX10_laysBlocks 51 = .ok (.istore_n 2, 1) := by decide +kernel
theorem dX10_laysBlocks_52 : decode cX10_laysBlocks 52 = .ok (.iinc 3 1, 3) := by decide +kernel
theorem dX10_laysBlocks_55 : decode cX10_laysBlocks 55 = .ok (.goto (-38), 3) := by decide +kernel
theorem dX10_laysBlocks_58 : decode cX10_laysBlocks 58 = .ok (.iload_n 1, 1) := by decide +kernel
theorem dX10_laysBlocks_59 : decode cX10_laysBlocks 59 = .ok (.ifCond .ne 4, 3) := by decide +kernel
theorem dX10_laysBlocks_62 : decode cX10_laysBlocks 62 = .ok (.return_, 1) := by decide +kernel
theorem dX10_laysBlocks_63 : decode cX10_laysBlocks 63 = .ok (.iconst 0, 1) := by decide +kernel
theorem dX10_laysBlocks_64 : decode cX10_laysBlocks 64 = .ok (.istore_n 3, 1) := by decide +kernel
theorem dX10_laysBlocks_65 : decode cX10_laysBlocks 65 = .ok (.iload_n 3, 1) := by decide +kernel
theorem dX10_laysBlocks_66 : decode cX10_laysBlocks 66 = .ok (.iload_n 1, 1) := by decide +kernel
theorem dX10_laysBlocks_67 : decode cX10_laysBlocks 67 = .ok (.if_icmp .ge 59, 3) := by decide +kernel
theorem dX10_laysBlocks_70 : decode cX10_laysBlocks 70 = .ok (.aload_n 0, 1) := by decide +kernel
theorem dX10_laysBlocks_71 : decode cX10_laysBlocks 71 = .ok (.iload_n 2, 1) := by decide +kernel
theorem dX10_laysBlocks_72 : decode cX10_laysBlocks 72 = .ok (.bipush 14, 2) := by decide +kernel
theorem dX10_laysBlocks_74 : decode cX10_laysBlocks 74 = .ok (.idiv, 1) := by decide +kernel
theorem dX10_laysBlocks_75 : decode cX10_laysBlocks 75 = .ok (.iload_n 3, 1) := by decide +kernel
theorem dX10_laysBlocks_76 : decode cX10_laysBlocks 76 = .ok (.iadd, 1) := by decide +kernel
theorem dX10_laysBlocks_77 : decode cX10_laysBlocks 77 = .ok (.iload_n 2, 1) := by decide +kernel
theorem dX10_laysBlocks_78 : decode cX10_laysBlocks 78 = .ok (.bipush 14, 2) := by decide +kernel
theorem dX10_laysBlocks_80 : decode cX10_laysBlocks 80 = .ok (.irem, 1) := by decide +kernel
theorem dX10_laysBlocks_81 : decode cX10_laysBlocks 81 = .ok (.iload_n 3, 1) := by decide +kernel
theorem dX10_laysBlocks_82 : decode cX10_laysBlocks 82 = .ok (.iadd, 1) := by decide +kernel
theorem dX10_laysBlocks_83 : decode cX10_laysBlocks 83 = .ok (.iconst 1, 1) := by decide +kernel
theorem dX10_laysBlocks_84 : decode cX10_laysBlocks 84 = .ok (.invokevirtual 112, 3) := by decide +kernel
theorem dX10_laysBlocks_87 : decode cX10_laysBlocks 87 = .ok (.aload_n 0, 1) := by decide +kernel
theorem dX10_laysBlocks_88 : decode cX10_laysBlocks 88 = .ok (.getfield 39, 3) := by decide +kernel
theorem dX10_laysBlocks_91 : decode cX10_laysBlocks 91 = .ok (.iload_n 2, 1) := by decide +kernel
theorem dX10_laysBlocks_92 : decode cX10_laysBlocks 92 = .ok (.bipush 14, 2) := by decide +kernel
theorem dX10_laysBlocks_94 : decode cX10_laysBlocks 94 = .ok (.idiv, 1) := by decide +kernel
theorem dX10_laysBlocks_95 : decode cX10_laysBlocks 95 = .ok (.iload_n 3, 1) := by decide +kernel
theorem dX10_laysBlocks_96 : decode cX10_laysBlocks 96 = .ok (.iadd, 1) := by decide +kernel
theorem dX10_laysBlocks_97 : decode cX10_laysBlocks 97 = .ok (.aload_n 0, 1) := by decide +kernel
theorem dX10_laysBlocks_98 : decode cX10_laysBlocks 98 = .ok (.getfield 133, 3) := by decide +kernel
theorem dX10_laysBlocks_101 : decode cX10_laysBlocks 101 = .ok (.iastore, 1) := by decide +kernel
theorem dX10_laysBlocks_102 : decode cX10_laysBlocks 102 = .ok (.aload_n 0, 1) := by decide +kernel
theorem dX10_laysBlocks_103 : decode cX10_laysBlocks 103 = .ok (.getfield 39, 3) := by decide +kernel
theorem dX10_laysBlocks_106 : decode cX10_laysBlocks 106 = .ok (.bipush 14, 2) := by decide +kernel
theorem dX10_laysBlocks_108 : decode cX10_laysBlocks 108 = .ok (.iload_n 2, 1) := by decide +kernel
theorem dX10_laysBlocks_109 : decode cX10_laysBlocks 109 = .ok (.bipush 14, 2) := by decide +kernel
theorem dX10_laysBlocks_111 : decode cX10_laysBlocks 111 = .ok (.irem, 1) := by decide +kernel
theorem dX10_laysBlocks_112 : decode cX10_laysBlocks 112 = .ok (.iadd, 1) := by decide +kernel
theorem dX10_laysBlocks_113 : decode cX10_laysBlocks 113 = .ok (.iload_n 3, 1) := by decide +kernel
theorem dX10_laysBlocks_114 : decode cX10_laysBlocks 114 = .ok (.iadd, 1) := by decide +kernel
theorem dX10_laysBlocks_115 : decode cX10_laysBlocks 115 = .ok (.aload_n 0, 1) := by decide +kernel
theorem dX10_laysBlocks_116 : decode cX10_laysBlocks 116 = .ok (.getfield 133, 3) := by decide +kernel
theorem dX10_laysBlocks_119 : decode cX10_laysBlocks 119 = .ok (.iastore, 1) := by decide +kernel
theorem dX10_laysBlocks_120 : decode cX10_laysBlocks 120 = .ok (.iinc 3 1, 3) := by decide +kernel
theorem dX10_laysBlocks_123 : decode cX10_laysBlocks 123 = .ok (.goto (-58), 3) := by decide +kernel
theorem dX10_laysBlocks_126 : decode cX10_laysBlocks 126 = .ok (.aload_n 0, 1) := by decide +kernel
theorem dX10_laysBlocks_127 : decode cX10_laysBlocks 127 = .ok (.getfield 48, 3) := by decide +kernel
theorem dX10_laysBlocks_130 : decode cX10_laysBlocks 130 = .ok (.iconst 3, 1) := by decide +kernel
theorem dX10_laysBlocks_131 : decode cX10_laysBlocks 131 = .ok (.aload_n 0, 1) := by decide +kernel
theorem dX10_laysBlocks_132 : decode cX10_laysBlocks 132 = .ok (.getfield 133, 3) := by decide +kernel
theorem dX10_laysBlocks_135 : decode cX10_laysBlocks 135 = .ok (.imul, 1) := by decide +kernel
theorem dX10_laysBlocks_136 : decode cX10_laysBlocks 136 = .ok (.iload_n 2, 1) := by decide +kernel
theorem dX10_laysBlocks_137 : decode cX10_laysBlocks 137 = .ok (.bipush 14, 2) := by decide +kernel
theorem dX10_laysBlocks_139 : decode cX10_laysBlocks 139 = .ok (.idiv, 1) := by decide +kernel
theorem dX10_laysBlocks_140 : decode cX10_laysBlocks 140 = .ok (.iastore, 1) := by decide +kernel
theorem dX10_laysBlocks_141 : decode cX10_laysBlocks 141 = .ok (.aload_n 0, 1) := by decide +kernel
theorem dX10_laysBlocks_142 : decode cX10_laysBlocks 142 = .ok (.getfield 48, 3) := by decide +kernel
theorem dX10_laysBlocks_145 : decode cX10_laysBlocks 145 = .ok (.iconst 3, 1) := by decide +kernel
theorem dX10_laysBlocks_146 : decode cX10_laysBlocks 146 = .ok (.aload_n 0, 1) := by decide +kernel
theorem dX10_laysBlocks_147 : decode cX10_laysBlocks 147 = .ok (.getfield 133, 3) := by decide +kernel
theorem dX10_laysBlocks_150 : decode cX10_laysBlocks 150 = .ok (.imul, 1) := by decide +kernel
theorem dX10_laysBlocks_151 : decode cX10_laysBlocks 151 = .ok (.iconst 1, 1) := by decide +kernel
theorem dX10_laysBlocks_152 : decode cX10_laysBlocks 152 = .ok (.iadd, 1) := by decide +kernel
theorem dX10_laysBlocks_153 : decode cX10_laysBlocks 153 = .ok (.iload_n 2, 1) := by decide +kernel
theorem dX10_laysBlocks_154 : decode cX10_laysBlocks 154 = .ok (.bipush 14, 2) := by decide +kernel
theorem dX10_laysBlocks_156 : decode cX10_laysBlocks 156 = .ok (.irem, 1) := by decide +kernel
theorem dX10_laysBlocks_157 : decode cX10_laysBlocks 157 = .ok (.iastore, 1) := by decide +kernel
theorem dX10_laysBlocks_158 : decode cX10_laysBlocks 158 = .ok (.aload_n 0, 1) := by decide +kernel
theorem dX10_laysBlocks_159 : decode cX10_laysBlocks 159 = .ok (.getfield 48, 3) := by decide +kernel
theorem dX10_laysBlocks_162 : decode cX10_laysBlocks 162 = .ok (.iconst 3, 1) := by decide +kernel
theorem dX10_laysBlocks_163 : decode cX10_laysBlocks 163 = .ok (.aload_n 0, 1) := by decide +kernel
theorem dX10_laysBlocks_164 : decode cX10_laysBlocks 164 = .ok (.getfield 133, 3) := by decide +kernel
theorem dX10_laysBlocks_167 : decode cX10_laysBlocks 167 = .ok (.imul, 1) := by decide +kernel
theorem dX10_laysBlocks_168 : decode cX10_laysBlocks 168 = .ok (.iconst 2, 1) := by decide +kernel
theorem dX10_laysBlocks_169 : decode cX10_laysBlocks 169 = .ok (.iadd, 1) := by decide +kernel
theorem dX10_laysBlocks_170 : decode cX10_laysBlocks 170 = .ok (.iload_n 1, 1) := by decide +kernel
theorem dX10_laysBlocks_171 : decode cX10_laysBlocks 171 = .ok (.iastore, 1) := by decide +kernel
theorem dX10_laysBlocks_172 : decode cX10_laysBlocks 172 = .ok (.aload_n 0, 1) := by decide +kernel
theorem dX10_laysBlocks_173 : decode cX10_laysBlocks 173 = .ok (.dup, 1) := by decide +kernel
theorem dX10_laysBlocks_174 : decode cX10_laysBlocks 174 = .ok (.getfield 133, 3) := by decide +kernel
theorem dX10_laysBlocks_177 : decode cX10_laysBlocks 177 = .ok (.iconst 1, 1) := by decide +kernel
theorem dX10_laysBlocks_178 : decode cX10_laysBlocks 178 = .ok (.iadd, 1) := by decide +kernel
theorem dX10_laysBlocks_179 : decode cX10_laysBlocks 179 = .ok (.putfield 133, 3) := by decide +kernel
theorem dX10_laysBlocks_182 : decode cX10_laysBlocks 182 = .ok (.goto (-175), 3) := by decide +kernel
theorem dX10_laysBlocks_185 : decode cX10_laysBlocks 185 = .ok (.return_, 1) := by decide +kernel
theorem dX10_sharedOf_0 : decode cX10_sharedOf 0 = .ok (.aload_n 0, 1) := by decide +kernel
theorem dX10_sharedOf_1 : decode cX10_sharedOf 1 = .ok (.iconst 0, 1) := by decide +kernel
theorem dX10_sharedOf_2 : decode cX10_sharedOf 2 = .ok (.iload_n 1, 1) := by decide +kernel
theorem dX10_sharedOf_3 : decode cX10_sharedOf 3 = .ok (.invokevirtual 99, 3) := by decide +kernel
theorem dX10_sharedOf_6 : decode cX10_sharedOf 6 = .ok (.istore_n 3, 1) := by decide +kernel
theorem dX10_sharedOf_7 : decode cX10_sharedOf 7 = .ok (.aload_n 0, 1) := by decide +kernel
theorem dX10_sharedOf_8 : decode cX10_sharedOf 8 = .ok (.iconst 1, 1) := by decide +kernel
theorem dX10_sharedOf_9 : decode cX10_sharedOf 9 = .ok (.iload_n 2, 1) := by decide +kernel
theorem dX10_sharedOf_10 : decode cX10_sharedOf 10 = .ok (.invokevirtual 99, 3) := by decide +kernel
theorem dX10_sharedOf_13 : decode cX10_sharedOf 13 = .ok (.istore 4, 2) := by decide +kernel
theorem dX10_sharedOf_15 : decode cX10_sharedOf 15 = .ok (.iload_n 3, 1) := by decide +kernel
theorem dX10_sharedOf_16 : decode cX10_sharedOf 16 = .ok (.istore 5, 2) := by decide +kernel
theorem dX10_sharedOf_18 : decode cX10_sharedOf 18 = .ok (.iload 5, 2) := by decide +kernel
theorem dX10_sharedOf_20 : decode cX10_sharedOf 20 = .ok (.ifCond .lt 187, 3) := by decide +kernel
theorem dX10_sharedOf_23 : decode cX10_sharedOf 23 = .ok (.iload 4, 2) := by decide +kernel
theorem dX10_sharedOf_25 : decode cX10_sharedOf 25 = .ok (.istore 6, 2) := by decide +kernel
theorem dX10_sharedOf_27 : decode cX10_sharedOf 27 = .ok (.iload 6, 2) := by decide +kernel
theorem dX10_sharedOf_29 : decode cX10_sharedOf 29 = .ok (.ifCond .lt 172, 3) := by decide +kernel
theorem dX10_sharedOf_32 : decode cX10_sharedOf 32 = .ok (.iconst 0, 1) := by decide +kernel
theorem dX10_sharedOf_33 : decode cX10_sharedOf 33 = .ok (.istore 7, 2) := by decide +kernel
theorem dX10_sharedOf_35 : decode cX10_sharedOf 35 = .ok (.iload 5, 2) := by decide +kernel
theorem dX10_sharedOf_37 : decode cX10_sharedOf 37 = .ok (.iload_n 3, 1) := by decide +kernel
theorem dX10_sharedOf_38 : decode cX10_sharedOf 38 = .ok (.if_icmp .ge 142, 3) := by decide +kernel
theorem dX10_sharedOf_41 : decode cX10_sharedOf 41 = .ok (.iload 6, 2) := by decide +kernel
theorem dX10_sharedOf_43 : decode cX10_sharedOf 43 = .ok (.iload 4, 2) := by decide +kernel
theorem dX10_sharedOf_45 : decode cX10_sharedOf 45 = .ok (.if_icmp .ge 135, 3) := by decide +kernel
theorem dX10_sharedOf_48 : decode cX10_sharedOf 48 = .ok (.aload_n 0, 1) := by decide +kernel
theorem dX10_sharedOf_49 : decode cX10_sharedOf 49 = .ok (.getfield 51, 3) := by decide +kernel
theorem dX10_sharedOf_52 : decode cX10_sharedOf 52 = .ok (.bipush 9, 2) := by decide +kernel
theorem dX10_sharedOf_54 : decode cX10_sharedOf 54 = .ok (.iload 5, 2) := by decide +kernel
theorem dX10_sharedOf_56 : decode cX10_sharedOf 56 = .ok (.imul, 1) := by decide +kernel
theorem dX10_sharedOf_57 : decode cX10_sharedOf 57 = .ok (.bipush 9, 2) := by decide +kernel
theorem dX10_sharedOf_59 : decode cX10_sharedOf 59 = .ok (.iadd, 1) := by decide +kernel
theorem dX10_sharedOf_60 : decode cX10_sharedOf 60 = .ok (.iload 6, 2) := by decide +kernel
theorem dX10_sharedOf_62 : decode cX10_sharedOf 62 = .ok (.iadd, 1) := by decide +kernel
theorem dX10_sharedOf_63 : decode cX10_sharedOf 63 = .ok (.iaload, 1) := by decide +kernel
theorem dX10_sharedOf_64 : decode cX10_sharedOf 64 = .ok (.aload_n 0, 1) := by decide +kernel
theorem dX10_sharedOf_65 : decode cX10_sharedOf 65 = .ok (.getfield 51, 3) := by decide +kernel
theorem dX10_sharedOf_68 : decode cX10_sharedOf 68 = .ok (.bipush 9, 2) := by decide +kernel
