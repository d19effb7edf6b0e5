theorem dX8_clear_65 : decode cX8_clear 65 = .ok (.iconst 1, 1) := by decide +kernel
theorem dX8_clear_66 : decode cX8_clear 66 = .ok (.iconst 0, 1) := by decide +kernel
theorem dX8_clear_67 : decode cX8_clear 67 = .ok (.iastore, 1) := by decide +kernel
theorem dX8_clear_68 : decode cX8_clear 68 = .ok (.aload_n 0, 1) := by decide +kernel
theorem dX8_clear_69 : decode cX8_clear 69 = .ok (.getfield 22, 3) := by decide +kernel
theorem dX8_clear_72 : decode cX8_clear 72 = .ok (.iconst 2, 1) := by decide +kernel
theorem dX8_clear_73 : decode cX8_clear 73 = .ok (.iconst 0, 1) := by decide +kernel
theorem dX8_clear_74 : decode cX8_clear 74 = .ok (.iastore, 1) := by decide +kernel
theorem dX8_clear_75 : decode cX8_clear 75 = .ok (.aload_n 0, 1) := by decide +kernel
theorem dX8_clear_76 : decode cX8_clear 76 = .ok (.iconst 0, 1) := by decide +kernel
theorem dX8_clear_77 : decode cX8_clear 77 = .ok (.putfield 35, 3) := by decide +kernel
theorem dX8_clear_80 : decode cX8_clear 80 = .ok (.aload_n 0, 1) := by decide +kernel
theorem dX8_clear_81 : decode cX8_clear 81 = .ok (.iconst 0, 1) := by decide +kernel
theorem dX8_clear_82 : decode cX8_clear 82 = .ok (.putfield 39, 3) := by decide +kernel
theorem dX8_clear_85 : decode cX8_clear 85 = .ok (.aload_n 0, 1) := by decide +kernel
theorem dX8_clear_86 : decode cX8_clear 86 = .ok (.iconst 0, 1) := by decide +kernel
theorem dX8_clear_87 : decode cX8_clear 87 = .ok (.putfield 42, 3) := by decide +kernel
theorem dX8_clear_90 : decode cX8_clear 90 = .ok (.aload_n 0, 1) := by decide +kernel
theorem dX8_clear_91 : decode cX8_clear 91 = .ok (.iconst 0, 1) := by decide +kernel
theorem dX8_clear_92 : decode cX8_clear 92 = .ok (.putfield 45, 3) := by decide +kernel
theorem dX8_clear_95 : decode cX8_clear 95 = .ok (.return_, 1) := by decide +kernel
theorem dX8_isLoose_0 : decode cX8_isLoose 0 = .ok (.iload_n 2, 1) := by decide +kernel
theorem dX8_isLoose_1 : decode cX8_isLoose 1 = .ok (.ifCond .lt 25, 3) := by decide +kernel
theorem dX8_isLoose_4 : decode cX8_isLoose 4 = .ok (.iload_n 2, 1) := by decide +kernel
theorem dX8_isLoose_5 : decode cX8_isLoose 5 = .ok (.bipush 14, 2) := by decide +kernel
theorem dX8_isLoose_7 : decode cX8_isLoose 7 = .ok (.if_icmp .ge 19, 3) := by decide +kernel
theorem dX8_isLoose_10 : decode cX8_isLoose 10 = .ok (.aload_n 0, 1) := by decide +kernel
theorem dX8_isLoose_11 : decode cX8_isLoose 11 = .ok (.getfield 11, 3) := by decide +kernel
theorem dX8_isLoose_14 : decode cX8_isLoose 14 = .ok (.iload_n 1, 1) := by decide +kernel
theorem dX8_isLoose_15 : decode cX8_isLoose 15 = .ok (.aaload, 1) := by decide +kernel
theorem dX8_isLoose_16 : decode cX8_isLoose 16 = .ok (.iload_n 2, 1) := by decide +kernel
theorem dX8_isLoose_17 : decode cX8_isLoose 17 = .ok (.iaload, 1) := by decide +kernel
theorem dX8_isLoose_18 : decode cX8_isLoose 18 = .ok (.iconst 3, 1) := by decide +kernel
theorem dX8_isLoose_19 : decode cX8_isLoose 19 = .ok (.if_icmp .ne 7, 3) := by decide +kernel
theorem dX8_isLoose_22 : decode cX8_isLoose 22 = .ok (.iconst 1, 1) := by decide +kernel
theorem dX8_isLoose_23 : decode cX8_isLoose 23 = .ok (.goto 4, 3) := by decide +kernel
theorem dX8_isLoose_26 : decode cX8_isLoose 26 = .ok (.iconst 0, 1) := by decide +kernel
theorem dX8_isLoose_27 : decode cX8_isLoose 27 = .ok (.ireturn, 1) := by decide +kernel
theorem dX8_join_0 : decode cX8_join 0 = .ok (.aload_n 0, 1) := by decide +kernel
theorem dX8_join_1 : decode cX8_join 1 = .ok (.iconst 0, 1) := by decide +kernel
theorem dX8_join_2 : decode cX8_join 2 = .ok (.iload_n 2, 1) := by decide +kernel
theorem dX8_join_3 : decode cX8_join 3 = .ok (.invokevirtual 48, 3) := by decide +kernel
theorem dX8_join_6 : decode cX8_join 6 = .ok (.ifCond .eq 12, 3) := by decide +kernel
theorem dX8_join_9 : decode cX8_join 9 = .ok (.aload_n 0, 1) := by decide +kernel
theorem dX8_join_10 : decode cX8_join 10 = .ok (.iconst 1, 1) := by decide +kernel
theorem dX8_join_11 : decode cX8_join 11 = .ok (.iload_n 3, 1) := by decide +kernel
theorem dX8_join_12 : decode cX8_join 12 = .ok (.invokevirtual 48, 3) := by decide +kernel
theorem dX8_join_15 : decode cX8_join 15 = .ok (.ifCond .ne 4, 3) := by decide +kernel
theorem dX8_join_18 : decode cX8_join 18 = .ok (.return_, 1) := by decide +kernel
theorem dX8_join_19 : decode cX8_join 19 = .ok (.aload_n 0, 1) := by decide +kernel
theorem dX8_join_20 : decode cX8_join 20 = .ok (.getfield 11, 3) := by decide +kernel
theorem dX8_join_23 : decode cX8_join 23 = .ok (.iconst 0, 1) := by decide +kernel
theorem dX8_join_24 : decode cX8_join 24 = .ok (.aaload, 1) := by decide +kernel
theorem dX8_join_25 : decode cX8_join 25 = .ok (.iload_n 2, 1) := by decide +kernel
theorem dX8_join_26 : decode cX8_join 26 = .ok (.iload_n 1, 1) := by decide +kernel
theorem dX8_join_27 : decode cX8_join 27 = .ok (.iastore, 1) := by decide +kernel
theorem dX8_join_28 : decode cX8_join 28 = .ok (.aload_n 0, 1) := by decide +kernel
theorem dX8_join_29 : decode cX8_join 29 = .ok (.getfield 11, 3) := by decide +kernel
theorem dX8_join_32 : decode cX8_join 32 = .ok (.iconst 1, 1) := by decide +kernel
theorem dX8_join_33 : decode cX8_join 33 = .ok (.aaload, 1) := by decide +kernel
theorem dX8_join_34 : decode cX8_join 34 = .ok (.iload_n 3, 1) := by decide +kernel
theorem dX8_join_35 : decode cX8_join 35 = .ok (.iload_n 1, 1) := by decide +kernel
theorem dX8_join_36 : decode cX8_join 36 = .ok (.iastore, 1) := by decide +kernel
theorem dX8_join_37 : decode cX8_join 37 = .ok (.aload_n 0, 1) := by decide +kernel
theorem dX8_join_38 : decode cX8_join 38 = .ok (.getfield 16, 3) := by decide +kernel
theorem dX8_join_41 : decode cX8_join 41 = .ok (.iconst 0, 1) := by decide +kernel
theorem dX8_join_42 : decode cX8_join 42 = .ok (.aaload, 1) := by decide +kernel
theorem dX8_join_43 : decode cX8_join 43 = .ok (.iload_n 2, 1) := by decide +kernel
theorem dX8_join_44 : decode cX8_join 44 = .ok (.iload_n 3, 1) := by decide +kernel
theorem dX8_join_45 : decode cX8_join 45 = .ok (.iastore, 1) := by decide +kernel
theorem dX8_join_46 : decode cX8_join 46 = .ok (.aload_n 0, 1) := by decide +kernel
theorem dX8_join_47 : decode cX8_join 47 = .ok (.getfield 16, 3) := by decide +kernel
theorem dX8_join_50 : decode cX8_join 50 = .ok (.iconst 1, 1) := by decide +kernel
theorem dX8_join_51 : decode cX8_join 51 = .ok (.aaload, 1) := by decide +kernel
theorem dX8_join_52 : decode cX8_join 52 = .ok (.iload_n 3, 1) := by decide +kernel
theorem dX8_join_53 : decode cX8_join 53 = .ok (.iload_n 2, 1) := by decide +kernel
theorem dX8_join_54 : decode cX8_join 54 = .ok (.iastore, 1) := by decide +kernel
theorem dX8_join_55 : decode cX8_join 55 = .ok (.aload_n 0, 1) := by decide +kernel
theorem dX8_join_56 : decode cX8_join 56 = .ok (.getfield 19, 3) := by decide +kernel
theorem dX8_join_59 : decode cX8_join 59 = .ok (.iconst 0, 1) := by decide +kernel
theorem dX8_join_60 : decode cX8_join 60 = .ok (.aaload, 1) := by decide +kernel
theorem dX8_join_61 : decode cX8_join 61 = .ok (.iload_n 2, 1) := by decide +kernel
theorem dX8_join_62 : decode cX8_join 62 = .ok (.iload 4, 2) := by decide +kernel
theorem dX8_join_64 : decode cX8_join 64 = .ok (.iastore, 1) := by decide +kernel
theorem dX8_join_65 : decode cX8_join 65 = .ok (.aload_n 0, 1) := by decide +kernel
theorem dX8_join_66 : decode cX8_join 66 = .ok (.getfield 19, 3) := by decide +kernel
theorem dX8_join_69 : decode cX8_join 69 = .ok (.iconst 1, 1) := by decide +kernel
theorem dX8_join_70 : decode cX8_join 70 = .ok (.aaload, 1) := by decide +kernel
theorem dX8_join_71 : decode cX8_join 71 = .ok (.iload_n 3, 1) := by decide +kernel
theorem dX8_join_72 : decode cX8_join 72 = .ok (.iload 4, 2) := by decide +kernel
theorem dX8_join_74 : decode cX8_join 74 = .ok (.iastore, 1) := by decide +kernel
theorem dX8_join_75 : decode cX8_join 75 = .ok (.aload_n 0, 1) := by decide +kernel
theorem dX8_join_76 : decode cX8_join 76 = .ok (.getfield 22, 3) := by decide +kernel
theorem dX8_join_79 : decode cX8_join 79 = .ok (.iload_n 1, 1) := by decide +kernel
theorem dX8_join_80 : decode cX8_join 80 = .ok (.dup2, 1) := by decide +kernel
theorem dX8_join_81 : decode cX8_join 81 = .ok (.iaload, 1) := by decide +kernel
theorem dX8_join_82 : decode cX8_join 82 = .ok (.iconst 1, 1) := by decide +kernel
theorem dX8_join_83 : decode cX8_join 83 = .ok (.iadd, 1) := by decide +kernel
theorem dX8_join_84 : decode cX8_join 84 = .ok (.iastore, 1) := by decide +kernel
theorem dX8_join_85 : decode cX8_join 85 = .ok (.return_, 1) := by decide +kernel
theorem dX8_moveBlock_0 : decode cX8_moveBlock 0 = .ok (.aload_n 0, 1) := by decide +kernel
theorem dX8_moveBlock_1 : decode cX8_moveBlock 1 = .ok (.getfield 35, 3) := by decide +kernel
theorem dX8_moveBlock_4 : decode cX8_moveBlock 4 = .ok (.bipush 14, 2) := by decide +kernel
theorem dX8_moveBlock_6 : decode cX8_moveBlock 6 = .ok (.if_icmp .lt 4, 3) := by decide +kernel
theorem dX8_moveBlock_9 : decode cX8_moveBlock 9 = .ok (.return_, 1) := by decide +kernel
theorem dX8_moveBlock_10 : decode cX8_moveBlock 10 = .ok (.aload_n 0, 1) := by decide +kernel
theorem dX8_moveBlock_11 : decode cX8_moveBlock 11 = .ok (.getfield 26, 3) := by decide +kernel
theorem dX8_moveBlock_14 : decode cX8_moveBlock 14 = .ok (.aload_n 0, 1) := by decide +kernel
theorem dX8_moveBlock_15 : decode cX8_moveBlock 15 = .ok (.getfield 35, 3) := by decide +kernel
theorem dX8_moveBlock_18 : decode cX8_moveBlock 18 = .ok (.iload_n 1, 1) := by decide +kernel
theorem dX8_moveBlock_19 : decode cX8_moveBlock 19 = .ok (.iastore, 1) := by decide +kernel
theorem dX8_moveBlock_20 : decode cX8_moveBlock 20 = .ok (.aload_n 0, 1) := by decide +kernel
theorem dX8_moveBlock_21 : decode cX8_moveBlock 21 = .ok (.getfield 29, 3) := by decide +kernel
theorem dX8_moveBlock_24 : decode cX8_moveBlock 24 = .ok (.aload_n 0, 1) := by decide +kernel
theorem dX8_moveBlock_25 : decode cX8_moveBlock 25 = .ok (.getfield 35, 3) := by decide +kernel
theorem dX8_moveBlock_28 : decode cX8_moveBlock 28 = .ok (.iload_n 2, 1) := by decide +kernel
theorem dX8_moveBlock_29 : decode cX8_moveBlock 29 = .ok (.iastore, 1) := by decide +kernel
theorem dX8_moveBlock_30 : decode cX8_moveBlock 30 = .ok (.aload_n 0, 1) := by decide +kernel
theorem dX8_moveBlock_31 : decode cX8_moveBlock 31 = .ok (.getfield 32, 3) := by decide +kernel
theorem dX8_moveBlock_34 : decode cX8_moveBlock 34 = .ok (.aload_n 0, 1) := by decide +kernel
theorem dX8_moveBlock_35 : decode cX8_moveBlock 35 = .ok (.getfield 35, 3) := by decide +kernel
theorem dX8_moveBlock_38 : decode cX8_moveBlock 38 = .ok (.iload_n 3, 1) := by decide +kernel
theorem dX8_moveBlock_39 : decode cX8_moveBlock 39 = .ok (.iastore, 1) := by decide +kernel
theorem dX8_moveBlock_40 : decode cX8_moveBlock 40 = .ok (.iconst 0, 1) := by decide +kernel
theorem dX8_moveBlock_41 : decode cX8_moveBlock 41 = .ok (.istore 4, 2) := by decide +kernel
theorem dX8_moveBlock_43 : decode cX8_moveBlock 43 = .ok (.iload 4, 2) := by decide +kernel
theorem dX8_moveBlock_45 : decode cX8_moveBlock 45 = .ok (.iload_n 3, 1) := by decide +kernel
theorem dX8_moveBlock_46 : decode cX8_moveBlock 46 = .ok (.if_icmp .ge 26, 3) := by decide +kernel
theorem dX8_moveBlock_49 : decode cX8_moveBlock 49 = .ok (.aload_n 0, 1) := by decide +kernel
theorem dX8_moveBlock_50 : decode cX8_moveBlock 50 = .ok (.iconst 1, 1) := by decide +kernel
theorem dX8_moveBlock_51 : decode cX8_moveBlock 51 = .ok (.iload_n 1, 1) := by decide +kernel
theorem dX8_moveBlock_52 : decode cX8_moveBlock 52 = .ok (.iload 4, 2) := by decide +kernel
theorem dX8_moveBlock_54 : decode cX8_moveBlock 54 = .ok (.iadd, 1) := by decide +kernel
theorem dX8_moveBlock_55 : decode cX8_moveBlock 55 = .ok (.iload_n 2, 1) := by decide +kernel
theorem dX8_moveBlock_56 : decode cX8_moveBlock 56 = .ok (.iload 4, 2) := by decide +kernel
theorem dX8_moveBlock_58 : decode cX8_moveBlock 58 = .ok (.iadd, 1) := by decide +kernel
theorem dX8_moveBlock_59 : decode cX8_moveBlock 59 = .ok (.aload_n 0, 1) := by decide +kernel
theorem dX8_moveBlock_60 : decode cX8_moveBlock 60 = .ok (.getfield 35, 3) := by decide +kernel
theorem dX8_moveBlock_63 : decode cX8_moveBlock 63 = .ok (.invokevirtual 52, 3) := by decide +kernel
theorem dX8_moveBlock_66 : decode cX8_moveBlock 66 = .ok (.iinc 4 1, 3) := by decide +kernel
theorem dX8_moveBlock_69 : decode cX8_moveBlock 69 = .ok (.goto (-26), 3) := by decide +kernel
theorem dX8_moveBlock_72 : decode cX8_moveBlock 72 = .ok (.aload_n 0, 1) := by decide +kernel
theorem dX8_moveBlock_73 : decode cX8_moveBlock 73 = .ok (.dup, 1) := by decide +kernel
theorem dX8_moveBlock_74 : decode cX8_moveBlock 74 = .ok (.getfield 35, 3) := by decide +kernel
theorem dX8_moveBlock_77 : decode cX8_moveBlock 77 = .ok (.iconst 1, 1) := by decide +kernel
theorem dX8_moveBlock_78 : decode cX8_moveBlock 78 = .ok (.iadd, 1) := by decide +kernel
theorem dX8_moveBlock_79 : decode cX8_moveBlock 79 = .ok (.putfield 35, 3) := by decide +kernel
theorem dX8_moveBlock_82 : decode cX8_moveBlock 82 = .ok (.return_, 1) := by decide +kernel
theorem dX8_allCouples_0 : decode cX8_allCouples 0 = .ok (.aload_n 0, 1) := by decide +kernel
theorem dX8_allCouples_1 : decode cX8_allCouples 1 = .ok (.getfield 22, 3) := by decide +kernel
theorem dX8_allCouples_4 : decode cX8_allCouples 4 = .ok (.iconst 0, 1) := by decide +kernel
theorem dX8_allCouples_5 : decode cX8_allCouples 5 = .ok (.iaload, 1) := by decide +kernel
theorem dX8_allCouples_6 : decode cX8_allCouples 6 = .ok (.aload_n 0, 1) := by decide +kernel
theorem dX8_allCouples_7 : decode cX8_allCouples 7 = .ok (.getfield 22, 3) := by decide +kernel
theorem dX8_allCouples_10 : decode cX8_allCouples 10 = .ok (.iconst 1, 1) := by decide +kernel
theorem dX8_allCouples_11 : decode cX8_allCouples 11 = .ok (.iaload, 1) := by decide +kernel
theorem dX8_allCouples_12 : decode cX8_allCouples 12 = .ok (.iadd, 1) := by decide +kernel
theorem dX8_allCouples_13 : decode cX8_allCouples 13 = .ok (.aload_n 0, 1) := by decide +kernel
theorem dX8_allCouples_14 : decode cX8_allCouples 14 = .ok (.getfield 22, 3) := by decide +kernel
theorem dX8_allCouples_17 : decode cX8_allCouples 17 = .ok (.iconst 2, 1) := by decide +kernel
theorem dX8_allCouples_18 : decode cX8_allCouples 18 = .ok (.iaload, 1) := by decide +kernel
theorem dX8_allCouples_19 : decode cX8_allCouples 19 = .ok (.iadd, 1) := by decide +kernel
theorem dX8_allCouples_20 : decode cX8_allCouples 20 = .ok (.ireturn, 1) := by decide +kernel
theorem dX8_differencesFrom_0 : decode cX8_differencesFrom 0 = .ok (.iconst 0, 1) := by decide +kernel
theorem dX8_differencesFrom_1 : decode cX8_differencesFrom 1 = .ok (.istore_n 2, 1) := by decide +kernel
theorem dX8_differencesFrom_2 : decode cX8_differencesFrom 2 = .ok (.iconst 0, 1) := by decide +kernel
theorem dX8_differencesFrom_3 : decode cX8_differencesFrom 3 = .ok (.istore_n 3, 1) := by decide +kernel
theorem dX8_differencesFrom_4 : decode cX8_differencesFrom 4 = .ok (.iload_n 3, 1) := by decide +kernel
theorem dX8_differencesFrom_5 : decode cX8_differencesFrom 5 = .ok (.iconst 1, 1) := by decide +kernel
theorem dX8_differencesFrom_6 : decode cX8_differencesFrom 6 = .ok (.if_icmp .gt 70, 3) := by decide +kernel
theorem dX8_differencesFrom_9 : decode cX8_differencesFrom 9 = .ok (.iconst 0, 1) := by decide +kernel
theorem dX8_differencesFrom_10 : decode cX8_differencesFrom 10 = .ok (.istore 4, 2) := by decide +kernel
theorem dX8_differencesFrom_12 : decode cX8_differencesFrom 12 = .ok (.iload 4, 2) := by decide +kernel
theorem dX8_differencesFrom_14 : decode cX8_differencesFrom 14 = .ok (.bipush 14, 2) := by decide +kernel
theorem dX8_differencesFrom_16 : decode cX8_differencesFrom 16 = .ok (.if_icmp .ge 54, 3) := by decide +kernel
theorem dX8_differencesFrom_19 : decode cX8_differencesFrom 19 = .ok (.aload_n 0, 1) := by decide +kernel
theorem dX8_differencesFrom_20 : decode cX8_differencesFrom 20 = .ok (.getfield 11, 3) := by decide +kernel
theorem dX8_differencesFrom_23 : decode cX8_differencesFrom 23 = .ok (.iload_n 3, 1) := by decide +kernel
theorem dX8_differencesFrom_24 : decode cX8_differencesFrom 24 = .ok (.aaload, 1) := by decide +kernel
theorem dX8_differencesFrom_25 : decode cX8_differencesFrom 25 = .ok (.iload 4, 2) := by decide +kernel
theorem dX8_differencesFrom_27 : decode cX8_differencesFrom 27 = .ok (.iaload, 1) := by decide +kernel
theorem dX8_differencesFrom_28 : decode cX8_differencesFrom 28 = .ok (.aload_n 1, 1) := by decide +kernel
theorem dX8_differencesFrom_29 : decode cX8_differencesFrom 29 = .ok (.getfield 11, 3) := by decide +kernel
theorem dX8_differencesFrom_32 : decode cX8_differencesFrom 32 = .ok (.iload_n 3, 1) := by decide +kernel
theorem dX8_differencesFrom_33 : decode cX8_differencesFrom 33 = .ok (.aaload, 1) := by decide +kernel
theorem dX8_differencesFrom_34 : decode cX8_differencesFrom 34 = .ok (.iload 4, 2) := by decide +kernel
theorem dX8_differencesFrom_36 : decode cX8_differencesFrom 36 = .ok (.iaload, 1) := by decide +kernel
theorem dX8_differencesFrom_37 : decode cX8_differencesFrom 37 = .ok (.if_icmp .ne 24, 3) := by decide +kernel
theorem dX8_differencesFrom_40 : decode cX8_differencesFrom 40 = .ok (.aload_n 0, 1) := by decide +kernel
theorem dX8_differencesFrom_41 : decode cX8_differencesFrom 41 = .ok (.getfield 16, 3) := by decide +kernel
theorem dX8_differencesFrom_44 : decode cX8_differencesFrom 44 = .ok (.iload_n 3, 1) := by decide +kernel
theorem dX8_differencesFrom_45 : decode cX8_differencesFrom 45 = .ok (.aaload, 1) := by decide +kernel
theorem dX8_differencesFrom_46 : decode cX8_differencesFrom 46 = .ok (.iload 4, 2) := by decide +kernel
theorem dX8_differencesFrom_48 : decode cX8_differencesFrom 48 = .ok (.iaload, 1) := by decide +kernel
theorem dX8_differencesFrom_49 : decode cX8_differencesFrom 49 = .ok (.aload_n 1, 1) := by decide +kernel
theorem dX8_differencesFrom_50 : decode cX8_differencesFrom 50 = .ok (.getfield 16, 3) := by decide +kernel
theorem dX8_differencesFrom_53 : decode cX8_differencesFrom 53 = .ok (.iload_n 3, 1) := by decide +kernel
theorem dX8_differencesFrom_54 : decode cX8_differencesFrom 54 = .ok (.aaload, 1) := by decide +kernel
theorem dX8_differencesFrom_55 : decode cX8_differencesFrom 55 = .ok (.iload 4, 2) := by decide +kernel
theorem dX8_differencesFrom_57 : decode cX8_differencesFrom 57 = .ok (.iaload, 1) := by decide +kernel
theorem dX8_differencesFrom_58 : decode cX8_differencesFrom 58 = .ok (.if_icmp .eq 6, 3) := by decide +kernel
theorem dX8_differencesFrom_61 : decode cX8_differencesFrom 61 = .ok (.iinc 2 1, 3) := by decide +kernel
theorem dX8_differencesFrom_64 : decode cX8_differencesFrom 64 = .ok (.iinc 4 1, 3) := by decide +kernel
theorem dX8_differencesFrom_67 : decode cX8_differencesFrom 67 = .ok (.goto (-55), 3) := by decide +kernel
theorem dX8_differencesFrom_70 : decode cX8_differencesFrom 70 = .ok (.iinc 3 1, 3) := by decide +kernel
theorem dX8_differencesFrom_73 : decode cX8_differencesFrom 73 = .ok (.goto (-69), 3) := by decide +kernel
theorem dX8_differencesFrom_76 : decode cX8_differencesFrom 76 = .ok (.iload_n 2, 1) := by decide +kernel
theorem dX8_differencesFrom_77 : decode cX8_differencesFrom 77 = .ok (.ireturn, 1) := by decide +kernel
theorem dX9_init_0 : decode cX9_init 0 = .ok (.aload_n 0, 1) := by decide +kernel
theorem dX9_init_1 : decode cX9_init 1 = .ok (.invokespecial 1, 3) := by decide +kernel
theorem dX9_init_4 : decode cX9_init 4 = .ok (.aload_n 0, 1) := by decide +kernel
theorem dX9_init_5 : decode cX9_init 5 = .ok (.new 7, 3) := by decide +kernel
theorem dX9_init_8 : decode cX9_init 8 = .ok (.dup, 1) := by decide +kernel
theorem dX9_init_9 : decode cX9_init 9 = .ok (.invokespecial 9, 3) := by decide +kernel
theorem dX9_init_12 : decode cX9_init 12 = .ok (.putfield 10, 3) := by decide +kernel
theorem dX9_init_15 : decode cX9_init 15 = .ok (.aload_n 0, 1) := by decide +kernel
theorem dX9_init_16 : decode cX9_init 16 = .ok (.new 16, 3) := by decide +kernel
theorem dX9_init_19 : decode cX9_init 19 = .ok (.dup, 1) := by decide +kernel
theorem dX9_init_20 : decode cX9_init 20 = .ok (.invokespecial 18, 3) := by decide +kernel
theorem dX9_init_23 : decode cX9_init 23 = .ok (.putfield 19, 3) := by decide +kernel
theorem dX9_init_26 : decode cX9_init 26 = .ok (.aload_n 0, 1) := by decide +kernel
theorem dX9_init_27 : decode cX9_init 27 = .ok (.new 23, 3) := by decide +kernel
theorem dX9_init_30 : decode cX9_init 30 = .ok (.dup, 1) := by decide +kernel
theorem dX9_init_31 : decode cX9_init 31 = .ok (.invokespecial 25, 3) := by decide +kernel
theorem dX9_init_34 : decode cX9_init 34 = .ok (.putfield 26, 3) := by decide +kernel
theorem dX9_init_37 : decode cX9_init 37 = .ok (.aload_n 0, 1) := by decide +kernel
theorem dX9_init_38 : decode cX9_init 38 = .ok (.new 23, 3) := by decide +kernel
theorem dX9_init_41 : decode cX9_init 41 = .ok (.dup, 1) := by decide +kernel
theorem dX9_init_42 : decode cX9_init 42 = .ok (.invokespecial 25, 3) := by decide +kernel
theorem dX9_init_45 : decode cX9_init 45 = .ok (.putfield 30, 3) := by decide +kernel
theorem dX9_init_48 : decode cX9_init 48 = .ok (.aload_n 0, 1) := by decide +kernel
theorem dX9_init_49 : decode cX9_init 49 = .ok (.new 23, 3) := by decide +kernel
theorem dX9_init_52 : decode cX9_init 52 = .ok (.dup, 1) := by decide +kernel
theorem dX9_init_53 : decode cX9_init 53 = .ok (.invokespecial 25, 3) := by decide +kernel
theorem dX9_init_56 : decode cX9_init 56 = .ok (.putfield 33, 3) := by decide +kernel
theorem dX9_init_59 : decode cX9_init 59 = .ok (.aload_n 0, 1) := by decide +kernel
theorem dX9_init_60 : decode cX9_init 60 = .ok (.new 36, 3) := by decide +kernel
theorem dX9_init_63 : decode cX9_init 63 = .ok (.dup, 1) := by decide +kernel
theorem dX9_init_64 : decode cX9_init 64 = .ok (.invokespecial 38, 3) := by decide +kernel
theorem dX9_init_67 : decode cX9_init 67 = .ok (.putfield 39, 3) := by decide +kernel
theorem dX9_init_70 : decode cX9_init 70 = .ok (.aload_n 0, 1) := by decide +kernel
theorem dX9_init_71 : decode cX9_init 71 = .ok (.new 43, 3) := by decide +kernel
theorem dX9_init_74 : decode cX9_init 74 = .ok (.dup, 1) := by decide +kernel
theorem dX9_init_75 : decode cX9_init 75 = .ok (.invokespecial 45, 3) := by decide +kernel
theorem dX9_init_78 : decode cX9_init 78 = .ok (.putfield 46, 3) := by decide +kernel
theorem dX9_init_81 : decode cX9_init 81 = .ok (.aload_n 0, 1) := by decide +kernel
theorem dX9_init_82 : decode cX9_init 82 = .ok (.new 50, 3) := by decide +kernel
theorem dX9_init_85 : decode cX9_init 85 = .ok (.dup, 1) := by decide +kernel
theorem dX9_init_86 : decode cX9_init 86 = .ok (.invokespecial 52, 3) := by decide +kernel
theorem dX9_init_89 : decode cX9_init 89 = .ok (.putfield 53, 3) := by decide +kernel
theorem dX9_init_92 : decode cX9_init 92 = .ok (.aload_n 0, 1) := by decide +kernel
theorem dX9_init_93 : decode cX9_init 93 = .ok (.new 57, 3) := by decide +kernel
theorem dX9_init_96 : decode cX9_init 96 = .ok (.dup, 1) := by decide +kernel
theorem dX9_init_97 : decode cX9_init 97 = .ok (.invokespecial 59, 3) := by decide +kernel
theorem dX9_init_100 : decode cX9_init 100 = .ok (.putfield 60, 3) := by decide +kernel
theorem dX9_init_103 : decode cX9_init 103 = .ok (.aload_n 0, 1) := by decide +kernel
theorem dX9_init_104 : decode cX9_init 104 = .ok (.new 57, 3) := by decide +kernel
theorem dX9_init_107 : decode cX9_init 107 = .ok (.dup, 1) := by decide +kernel
theorem dX9_init_108 : decode cX9_init 108 = .ok (.invokespecial 59, 3) := by decide +kernel
theorem dX9_init_111 : decode cX9_init 111 = .ok (.putfield 64, 3) := by decide +kernel
theorem dX9_init_114 : decode cX9_init 114 = .ok (.aload_n 0, 1) := by decide +kernel
theorem dX9_init_115 : decode cX9_init 115 = .ok (.iconst 1, 1) := by decide +kernel
theorem dX9_init_116 : decode cX9_init 116 = .ok (.putfield 67, 3) := by decide +kernel
theorem dX9_init_119 : decode cX9_init 119 = .ok (.return_, 1) := by decide +kernel
theorem dX9_feed_0 : decode cX9_feed 0 = .ok (.aload_n 0, 1) := by decide +kernel
theorem dX9_feed_1 : decode cX9_feed 1 = .ok (.getfield 10, 3) := by decide +kernel
theorem dX9_feed_4 : decode cX9_feed 4 = .ok (.getfield 71, 3) := by decide +kernel
theorem dX9_feed_7 : decode cX9_feed 7 = .ok (.sipush 620, 3) := by decide +kernel
theorem dX9_feed_10 : decode cX9_feed 10 = .ok (.if_icmp .le 5, 3) := by decide +kernel
theorem dX9_feed_13 : decode cX9_feed 13 = .ok (.iconst (-1), 1) := by decide +kernel
theorem dX9_feed_14 : decode cX9_feed 14 = .ok (.ireturn, 1) := by decide +kernel
theorem dX9_feed_15 : decode cX9_feed 15 = .ok (.aload_n 0, 1) := by decide +kernel
theorem dX9_feed_16 : decode cX9_feed 16 = .ok (.getfield 10, 3) := by decide +kernel
theorem dX9_feed_19 : decode cX9_feed 19 = .ok (.iload_n 1, 1) := by decide +kernel
theorem dX9_feed_20 : decode cX9_feed 20 = .ok (.invokevirtual 75, 3) := by decide +kernel
theorem dX9_feed_23 : decode cX9_feed 23 = .ok (.aload_n 0, 1) := by decide +kernel
theorem dX9_feed_24 : decode cX9_feed 24 = .ok (.getfield 10, 3) := by decide +kernel
theorem dX9_feed_27 : decode cX9_feed 27 = .ok (.iload_n 2, 1) := by decide +kernel
theorem dX9_feed_28 : decode cX9_feed 28 = .ok (.invokevirtual 75, 3) := by decide +kernel
theorem dX9_feed_31 : decode cX9_feed 31 = .ok (.aload_n 0, 1) := by decide +kernel
theorem dX9_feed_32 : decode cX9_feed 32 = .ok (.getfield 10, 3) := by decide +kernel
theorem dX9_feed_35 : decode cX9_feed 35 = .ok (.iload_n 3, 1) := by decide +kernel
theorem dX9_feed_36 : decode cX9_feed 36 = .ok (.invokevirtual 75, 3) := by decide +kernel
theorem dX9_feed_39 : decode cX9_feed 39 = .ok (.aload_n 0, 1) := by decide +kernel
theorem dX9_feed_40 : decode cX9_feed 40 = .ok (.getfield 10, 3) := by decide +kernel
theorem dX9_feed_43 : decode cX9_feed 43 = .ok (.iload 4, 2) := by decide +kernel
theorem dX9_feed_45 : decode cX9_feed 45 = .ok (.invokevirtual 75, 3) := by decide +kernel
theorem dX9_feed_48 : decode cX9_feed 48 = .ok (.aload_n 0, 1) := by decide +kernel
theorem dX9_feed_49 : decode cX9_feed 49 = .ok (.getfield 10, 3) := by decide +kernel
theorem dX9_feed_52 : decode cX9_feed 52 = .ok (.iload 5, 2) := by decide +kernel
theorem dX9_feed_54 : decode cX9_feed 54 = .ok (.invokevirtual 75, 3) := by decide +kernel
theorem dX9_feed_57 : decode cX9_feed 57 = .ok (.aload_n 0, 1) := by decide +kernel
theorem dX9_feed_58 : decode cX9_feed 58 = .ok (.getfield 10, 3) := by decide +kernel
theorem dX9_feed_61 : decode cX9_feed 61 = .ok (.getfield 71, 3) := by decide +kernel
theorem dX9_feed_64 : decode cX9_feed 64 = .ok (.ireturn, 1) := by decide +kernel
theorem dX9_end_0 : decode cX9_end 0 = .ok (.iload_n 1, 1) := by decide +kernel
theorem dX9_end_1 : decode cX9_end 1 = .ok (.ifCond .lt 14, 3) := by decide +kernel
theorem dX9_end_4 : decode cX9_end 4 = .ok (.iload_n 1, 1) := by decide +kernel
theorem dX9_end_5 : decode cX9_end 5 = .ok (.aload_n 0, 1) := by decide +kernel
theorem dX9_end_6 : decode cX9_end 6 = .ok (.getfield 10, 3) := by decide +kernel
theorem dX9_end_9 : decode cX9_end 9 = .ok (.getfield 71, 3) := by decide +kernel
theorem dX9_end_12 : decode cX9_end 12 = .ok (.if_icmp .le 5, 3) := by decide +kernel
theorem dX9_end_15 : decode cX9_end 15 = .ok (.iconst 0, 1) := by decide +kernel
theorem dX9_end_16 : decode cX9_end 16 = .ok (.ireturn, 1) := by decide +kernel
theorem dX9_end_17 : decode cX9_end 17 = .ok (.aload_n 0, 1) := by decide +kernel
theorem dX9_end_18 : decode cX9_end 18 = .ok (.getfield 10, 3) := by decide +kernel
theorem dX9_end_21 : decode cX9_end 21 = .ok (.iload_n 1, 1) := by decide +kernel
theorem dX9_end_22 : decode cX9_end 22 = .ok (.putfield 71, 3) := by decide +kernel
theorem dX9_end_25 : decode cX9_end 25 = .ok (.iconst 1, 1) := by decide +kernel
theorem dX9_end_26 : decode cX9_end 26 = .ok (.ireturn, 1) := by decide +kernel
theorem dX9_edition_0 : decode cX9_edition 0 = .ok (.iload_n 1, 1) := by decide +kernel
theorem dX9_edition_1 : decode cX9_edition 1 = .ok (.invokestatic 79, 3) := by decide +kernel
theorem dX9_edition_4 : decode cX9_edition 4 = .ok (.ifCond .ne 5, 3) := by decide +kernel
theorem dX9_edition_7 : decode cX9_edition 7 = .ok (.iconst (-1), 1) := by decide +kernel
theorem dX9_edition_8 : decode cX9_edition 8 = .ok (.ireturn, 1) := by decide +kernel
theorem dX9_edition_9 : decode cX9_edition 9 = .ok (.aload_n 0, 1) := by decide +kernel
theorem dX9_edition_10 : decode cX9_edition 10 = .ok (.iconst 1, 1) := by decide +kernel
theorem dX9_edition_11 : decode cX9_edition 11 = .ok (.invokevirtual 83, 3) := by decide +kernel
theorem dX9_edition_14 : decode cX9_edition 14 = .ok (.ifCond .ne 14, 3) := by decide +kernel
theorem dX9_edition_17 : decode cX9_edition 17 = .ok (.bipush (-2), 2) := by decide +kernel
theorem dX9_edition_19 : decode cX9_edition 19 = .ok (.aload_n 0, 1) := by decide +kernel
theorem dX9_edition_20 : decode cX9_edition 20 = .ok (.getfield 19, 3) := by decide +kernel
theorem dX9_edition_23 : decode cX9_edition 23 = .ok (.getfield 87, 3) := by decide +kernel
theorem dX9_edition_26 : decode cX9_edition 26 = .ok (.isub, 1) := by decide +kernel
theorem dX9_edition_27 : decode cX9_edition 27 = .ok (.ireturn, 1) := by decide +kernel
theorem dX9_edition_28 : decode cX9_edition 28 = .ok (.aload_n 0, 1) := by decide +kernel
theorem dX9_edition_29 : decode cX9_edition 29 = .ok (.iload_n 1, 1) := by decide +kernel
theorem dX9_edition_30 : decode cX9_edition 30 = .ok (.invokevirtual 90, 3) := by decide +kernel
theorem dX9_edition_33 : decode cX9_edition 33 = .ok (.aload_n 0, 1) := by decide +kernel
theorem dX9_edition_34 : decode cX9_edition 34 = .ok (.getfield 19, 3) := by decide +kernel
theorem dX9_edition_37 : decode cX9_edition 37 = .ok (.getfield 94, 3) := by decide +kernel
theorem dX9_edition_40 : decode cX9_edition 40 = .ok (.invokevirtual 97, 3) := by decide +kernel
theorem dX9_edition_43 : decode cX9_edition 43 = .ok (.aload_n 0, 1) := by decide +kernel
theorem dX9_edition_44 : decode cX9_edition 44 = .ok (.getfield 39, 3) := by decide +kernel
theorem dX9_edition_47 : decode cX9_edition 47 = .ok (.invokevirtual 101, 3) := by decide +kernel
theorem dX9_edition_50 : decode cX9_edition 50 = .ok (.aload_n 0, 1) := by decide +kernel
theorem dX9_edition_51 : decode cX9_edition 51 = .ok (.iconst 1, 1) := by decide +kernel
theorem dX9_edition_52 : decode cX9_edition 52 = .ok (.putfield 67, 3) := by decide +kernel
theorem dX9_edition_55 : decode cX9_edition 55 = .ok (.aload_n 0, 1) := by decide +kernel
theorem dX9_edition_56 : decode cX9_edition 56 = .ok (.iload_n 1, 1) := by decide +kernel
theorem dX9_edition_57 : decode cX9_edition 57 = .ok (.invokevirtual 90, 3) := by decide +kernel
theorem dX9_edition_60 : decode cX9_edition 60 = .ok (.getfield 104, 3) := by decide +kernel
theorem dX9_edition_63 : decode cX9_edition 63 = .ok (.ireturn, 1) := by decide +kernel
theorem dX9_fault_0 : decode cX9_fault 0 = .ok (.aload_n 0, 1) := by decide +kernel
theorem dX9_fault_1 : decode cX9_fault 1 = .ok (.getfield 19, 3) := by decide +kernel
theorem dX9_fault_4 : decode cX9_fault 4 = .ok (.getfield 107, 3) := by decide +kernel
theorem dX9_fault_7 : decode cX9_fault 7 = .ok (.ireturn, 1) := by decide +kernel
theorem dX9_now_0 : decode cX9_now 0 = .ok (.iload_n 1, 1) := by decide +kernel
theorem dX9_now_1 : decode cX9_now 1 = .ok (.tableswitch 157 0 9 #[55, 63, 71, 81, 91, 99, 109, 125, 141, 149], 55) := by decide +kernel
theorem dX9_now_56 : decode cX9_now 56 = .ok (.aload_n 0, 1) := by decide +kernel
theorem dX9_now_57 : decode cX9_now 57 = .ok (.getfield 26, 3) := by decide +kernel
theorem dX9_now_60 : decode cX9_now 60 = .ok (.getfield 104, 3) := by decide +kernel
theorem dX9_now_63 : decode cX9_now 63 = .ok (.ireturn, 1) := by decide +kernel
theorem dX9_now_64 : decode cX9_now 64 = .ok (.aload_n 0, 1) := by decide +kernel
theorem dX9_now_65 : decode cX9_now 65 = .ok (.getfield 30, 3) := by decide +kernel
theorem dX9_now_68 : decode cX9_now 68 = .ok (.getfield 104, 3) := by decide +kernel
theorem dX9_now_71 : decode cX9_now 71 = .ok (.ireturn, 1) := by decide +kernel
theorem dX9_now_72 : decode cX9_now 72 = .ok (.aload_n 0, 1) := by decide +kernel
theorem dX9_now_73 : decode cX9_now 73 = .ok (.invokevirtual 110, 3) := by decide +kernel
theorem dX9_now_76 : decode cX9_now 76 = .ok (.getfield 114, 3) := by decide +kernel
theorem dX9_now_79 : decode cX9_now 79 = .ok (.iconst 0, 1) := by decide +kernel
theorem dX9_now_80 : decode cX9_now 80 = .ok (.iaload, 1) := by decide +kernel
theorem dX9_now_81 : decode cX9_now 81 = .ok (.ireturn, 1) := by decide +kernel
theorem dX9_now_82 : decode cX9_now 82 = .ok (.aload_n 0, 1) := by decide +kernel
theorem dX9_now_83 : decode cX9_now 83 = .ok (.invokevirtual 110, 3) := by decide +kernel
theorem dX9_now_86 : decode cX9_now 86 = .ok (.getfield 114, 3) := by decide +kernel
theorem dX9_now_89 : decode cX9_now 89 = .ok (.iconst 1, 1) := by decide +kernel
theorem dX9_now_90 : decode cX9_now 90 = .ok (.iaload, 1) := by decide +kernel
theorem dX9_now_91 : decode cX9_now 91 = .ok (.ireturn, 1) := by decide +kernel
theorem dX9_now_92 : decode cX9_now 92 = .ok (.aload_n 0, 1) := by decide +kernel
theorem dX9_now_93 : decode cX9_now 93 = .ok (.invokevirtual 110, 3) := by decide +kernel
theorem dX9_now_96 : decode cX9_now 96 = .ok (.getfield 118, 3) := by decide +kernel
theorem dX9_now_99 : decode cX9_now 99 = .ok (.ireturn, 1) := by decide +kernel
theorem dX9_now_100 : decode cX9_now 100 = .ok (.aload_n 0, 1) := by decide +kernel
theorem dX9_now_101 : decode cX9_now 101 = .ok (.invokevirtual 110, 3) := by decide +kernel
theorem dX9_now_104 : decode cX9_now 104 = .ok (.getfield 114, 3) := by decide +kernel
theorem dX9_now_107 : decode cX9_now 107 = .ok (.iconst 2, 1) := by decide +kernel
theorem dX9_now_108 : decode cX9_now 108 = .ok (.iaload, 1) := by decide +kernel
theorem dX9_now_109 : decode cX9_now 109 = .ok (.ireturn, 1) := by decide +kernel
theorem dX9_now_110 : decode cX9_now 110 = .ok (.aload_n 0, 1) := by decide +kernel
theorem dX9_now_111 : decode cX9_now 111 = .ok (.getfield 26, 3) := by decide +kernel
theorem dX9_now_114 : decode cX9_now 114 = .ok (.getfield 104, 3) := by decide +kernel
theorem dX9_now_117 : decode cX9_now 117 = .ok (.aload_n 0, 1) := by decide +kernel
theorem dX9_now_118 : decode cX9_now 118 = .ok (.invokevirtual 110, 3) := by decide +kernel
theorem dX9_now_121 : decode cX9_now 121 = .ok (.invokevirtual 121, 3) := by decide +kernel
theorem dX9_now_124 : decode cX9_now 124 = .ok (.isub, 1) := by decide +kernel
theorem dX9_now_125 : decode cX9_now 125 = .ok (.ireturn, 1) := by decide +kernel
theorem dX9_now_126 : decode cX9_now 126 = .ok (.aload_n 0, 1) := by decide +kernel
theorem dX9_now_127 : decode cX9_now 127 = .ok (.getfield 30, 3) := by decide +kernel
theorem dX9_now_130 : decode cX9_now 130 = .ok (.getfield 104, 3) := by decide +kernel
theorem dX9_now_133 : decode cX9_now 133 = .ok (.aload_n 0, 1) := by decide +kernel
theorem dX9_now_134 : decode cX9_now 134 = .ok (.invokevirtual 110, 3) := by decide +kernel
theorem dX9_now_137 : decode cX9_now 137 = .ok (.invokevirtual 121, 3) := by decide +kernel
theorem dX9_now_140 : decode cX9_now 140 = .ok (.isub, 1) := by decide +kernel
theorem dX9_now_141 : decode cX9_now 141 = .ok (.ireturn, 1) := by decide +kernel
theorem dX9_now_142 : decode cX9_now 142 = .ok (.aload_n 0, 1) := by decide +kernel
theorem dX9_now_143 : decode cX9_now 143 = .ok (.getfield 39, 3) := by decide +kernel
theorem dX9_now_146 : decode cX9_now 146 = .ok (.getfield 125, 3) := by decide +kernel
theorem dX9_now_149 : decode cX9_now 149 = .ok (.ireturn, 1) := by decide +kernel
theorem dX9_now_150 : decode cX9_now 150 = .ok (.aload_n 0, 1) := by decide +kernel
theorem dX9_now_151 : decode cX9_now 151 = .ok (.getfield 10, 3) := by decide +kernel
theorem dX9_now_154 : decode cX9_now 154 = .ok (.getfield 71, 3) := by decide +kernel
theorem dX9_now_157 : decode cX9_now 157 = .ok (.ireturn, 1) := by decide +kernel
theorem dX9_now_158 : decode cX9_now 158 = .ok (.iconst (-1), 1) := by decide +kernel
theorem dX9_now_159 : decode cX9_now 159 = .ok (.ireturn, 1) := by decide +kernel
theorem dX9_line_0 : decode cX9_line 0 = .ok (.aload_n 0, 1) := by decide +kernel
theorem dX9_line_1 : decode cX9_line 1 = .ok (.iload_n 1, 1) := by decide +kernel
theorem dX9_line_2 : decode cX9_line 2 = .ok (.iload_n 2, 1) := by decide +kernel
theorem dX9_line_3 : decode cX9_line 3 = .ok (.invokevirtual 128, 3) := by decide +kernel
theorem dX9_line_6 : decode cX9_line 6 = .ok (.ifCond .ne 13, 3) := by decide +kernel
theorem dX9_line_9 : decode cX9_line 9 = .ok (.new 132, 3) := by decide +kernel
theorem dX9_line_12 : decode cX9_line 12 = .ok (.dup, 1) := by decide +kernel
theorem dX9_line_13 : decode cX9_line 13 = .ok (.ldc 134, 2) := by decide +kernel
theorem dX9_line_15 : decode cX9_line 15 = .ok (.invokespecial 136, 3) := by decide +kernel
theorem dX9_line_18 : decode cX9_line 18 = .ok (.athrow, 1) := by decide +kernel
theorem dX9_line_19 : decode cX9_line 19 = .ok (.iload_n 3, 1) := by decide +kernel
theorem dX9_line_20 : decode cX9_line 20 = .ok (.tableswitch 78 0 3 #[32, 42, 54, 66], 32) := by decide +kernel
theorem dX9_line_52 : decode cX9_line 52 = .ok (.aload_n 0, 1) := by decide +kernel
theorem dX9_line_53 : decode cX9_line 53 = .ok (.iload_n 1, 1) := by decide +kernel
theorem dX9_line_54 : decode cX9_line 54 = .ok (.invokevirtual 90, 3) := by decide +kernel
theorem dX9_line_57 : decode cX9_line 57 = .ok (.iload_n 2, 1) := by decide +kernel
theorem dX9_line_58 : decode cX9_line 58 = .ok (.invokevirtual 139, 3) := by decide +kernel
theorem dX9_line_61 : decode cX9_line 61 = .ok (.ireturn, 1) := by decide +kernel
theorem dX9_line_62 : decode cX9_line 62 = .ok (.aload_n 0, 1) := by decide +kernel
theorem dX9_line_63 : decode cX9_line 63 = .ok (.invokevirtual 110, 3) := by decide +kernel
theorem dX9_line_66 : decode cX9_line 66 = .ok (.getfield 143, 3) := by decide +kernel
theorem dX9_line_69 : decode cX9_line 69 = .ok (.iload_n 1, 1) := by decide +kernel
theorem dX9_line_70 : decode cX9_line 70 = .ok (.aaload, 1) := by decide +kernel
theorem dX9_line_71 : decode cX9_line 71 = .ok (.iload_n 2, 1) := by decide +kernel
theorem dX9_line_72 : decode cX9_line 72 = .ok (.iaload, 1) := by decide +kernel
theorem dX9_line_73 : decode cX9_line 73 = .ok (.ireturn, 1) := by decide +kernel
theorem dX9_line_74 : decode cX9_line 74 = .ok (.aload_n 0, 1) := by decide +kernel
theorem dX9_line_75 : decode cX9_line 75 = .ok (.invokevirtual 110, 3) := by decide +kernel
theorem dX9_line_78 : decode cX9_line 78 = .ok (.getfield 147, 3) := by decide +kernel
theorem dX9_line_81 : decode cX9_line 81 = .ok (.iload_n 1, 1) := by decide +kernel
theorem dX9_line_82 : decode cX9_line 82 = .ok (.aaload, 1) := by decide +kernel
theorem dX9_line_83 : decode cX9_line 83 = .ok (.iload_n 2, 1) := by decide +kernel
theorem dX9_line_84 : decode cX9_line 84 = .ok (.iaload, 1) := by decide +kernel
theorem dX9_line_85 : decode cX9_line 85 = .ok (.ireturn, 1) := by decide +kernel
theorem dX9_line_86 : decode cX9_line 86 = .ok (.aload_n 0, 1) := by decide +kernel
theorem dX9_line_87 : decode cX9_line 87 = .ok (.invokevirtual 110, 3) := by decide +kernel
theorem dX9_line_90 : decode cX9_line 90 = .ok (.getfield 150, 3) := by decide +kernel
theorem dX9_line_93 : decode cX9_line 93 = .ok (.iload_n 1, 1) := by decide +kernel
theorem dX9_line_94 : decode cX9_line 94 = .ok (.aaload, 1) := by decide +kernel
theorem dX9_line_95 : decode cX9_line 95 = .ok (.iload_n 2, 1) := by decide +kernel
theorem dX9_line_96 : decode cX9_line 96 = .ok (.iaload, 1) := by decide +kernel
theorem dX9_line_97 : decode cX9_line 97 = .ok (.ireturn, 1) := by decide +kernel
theorem dX9_line_98 : decode cX9_line 98 = .ok (.new 132, 3) := by decide +kernel
theorem dX9_line_101 : decode cX9_line 101 = .ok (.dup, 1) := by decide +kernel
theorem dX9_line_102 : decode cX9_line 102 = .ok (.ldc 153, 2) := by decide +kernel
theorem dX9_line_104 : decode cX9_line 104 = .ok (.invokespecial 136, 3) := by decide +kernel
theorem dX9_line_107 : decode cX9_line 107 = .ok (.athrow, 1) := by decide +kernel
theorem dX9_letter_0 : decode cX9_letter 0 = .ok (.aload_n 0, 1) := by decide +kernel
theorem dX9_letter_1 : decode cX9_letter 1 = .ok (.iload_n 1, 1) := by decide +kernel
theorem dX9_letter_2 : decode cX9_letter 2 = .ok (.iload_n 2, 1) := by decide +kernel
theorem dX9_letter_3 : decode cX9_letter 3 = .ok (.invokevirtual 128, 3) := by decide +kernel
theorem dX9_letter_6 : decode cX9_letter 6 = .ok (.ifCond .ne 5, 3) := by decide +kernel
theorem dX9_letter_9 : decode cX9_letter 9 = .ok (.iconst (-1), 1) := by decide +kernel
theorem dX9_letter_10 : decode cX9_letter 10 = .ok (.ireturn, 1) := by decide +kernel
theorem dX9_letter_11 : decode cX9_letter 11 = .ok (.aload_n 0, 1) := by decide +kernel
theorem dX9_letter_12 : decode cX9_letter 12 = .ok (.iload_n 1, 1) := by decide +kernel
theorem dX9_letter_13 : decode cX9_letter 13 = .ok (.invokevirtual 90, 3) := by decide +kernel
theorem dX9_letter_16 : decode cX9_letter 16 = .ok (.iload_n 2, 1) := by decide +kernel
theorem dX9_letter_17 : decode cX9_letter 17 = .ok (.iload_n 3, 1) := by decide +kernel
theorem dX9_letter_18 : decode cX9_letter 18 = .ok (.invokevirtual 155, 3) := by decide +kernel
theorem dX9_letter_21 : decode cX9_letter 21 = .ok (.istore 5, 2) := by decide +kernel
theorem dX9_letter_23 : decode cX9_letter 23 = .ok (.iload 5, 2) := by decide +kernel
theorem dX9_letter_25 : decode cX9_letter 25 = .ok (.ifCond .ne 5, 3) := by decide +kernel
theorem dX9_letter_28 : decode cX9_letter 28 = .ok (.iconst (-1), 1) := by decide +kernel
theorem dX9_letter_29 : decode cX9_letter 29 = .ok (.ireturn, 1) := by decide +kernel
theorem dX9_letter_30 : decode cX9_letter 30 = .ok (.iload 4, 2) := by decide +kernel
theorem dX9_letter_32 : decode cX9_letter 32 = .ok (.iconst (-1), 1) := by decide +kernel
theorem dX9_letter_33 : decode cX9_letter 33 = .ok (.if_icmp .ne 6, 3) := by decide +kernel
theorem dX9_letter_36 : decode cX9_letter 36 = .ok (.iload 5, 2) := by decide +kernel
theorem dX9_letter_38 : decode cX9_letter 38 = .ok (.ireturn, 1) := by decide +kernel
theorem dX9_letter_39 : decode cX9_letter 39 = .ok (.iload 4, 2) := by decide +kernel
theorem dX9_letter_41 : decode cX9_letter 41 = .ok (.ifCond .lt 28, 3) := by decide +kernel
theorem dX9_letter_44 : decode cX9_letter 44 = .ok (.iload 4, 2) := by decide +kernel
theorem dX9_letter_46 : decode cX9_letter 46 = .ok (.iload 5, 2) := by decide +kernel
theorem dX9_letter_48 : decode cX9_letter 48 = .ok (.if_icmp .ge 21, 3) := by decide +kernel
theorem dX9_letter_51 : decode cX9_letter 51 = .ok (.aload_n 0, 1) := by decide +kernel
theorem dX9_letter_52 : decode cX9_letter 52 = .ok (.iload_n 1, 1) := by decide +kernel
theorem dX9_letter_53 : decode cX9_letter 53 = .ok (.invokevirtual 90, 3) := by decide +kernel
theorem dX9_letter_56 : decode cX9_letter 56 = .ok (.iload_n 2, 1) := by decide +kernel
theorem dX9_letter_57 : decode cX9_letter 57 = .ok (.iload_n 3, 1) := by decide +kernel
theorem dX9_letter_58 : decode cX9_letter 58 = .ok (.invokevirtual 159, 3) := by decide +kernel
theorem dX9_letter_61 : decode cX9_letter 61 = .ok (.iload 4, 2) := by decide +kernel
theorem dX9_letter_63 : decode cX9_letter 63 = .ok (.invokestatic 162, 3) := by decide +kernel
theorem dX9_letter_66 : decode cX9_letter 66 = .ok (.goto 4, 3) := by decide +kernel
theorem dX9_letter_69 : decode cX9_letter 69 = .ok (.iconst (-1), 1) := by decide +kernel
theorem dX9_letter_70 : decode cX9_letter 70 = .ok (.ireturn, 1) := by decide +kernel
theorem dX9_block_0 : decode cX9_block 0 = .ok (.aload_n 0, 1) := by decide +kernel
theorem dX9_block_1 : decode cX9_block 1 = .ok (.invokevirtual 110, 3) := by decide +kernel
theorem dX9_block_4 : decode cX9_block 4 = .ok (.astore_n 3, 1) := by decide +kernel
theorem dX9_block_5 : decode cX9_block 5 = .ok (.iload_n 1, 1) := by decide +kernel
theorem dX9_block_6 : decode cX9_block 6 = .ok (.ifCond .lt 11, 3) := by decide +kernel
theorem dX9_block_9 : decode cX9_block 9 = .ok (.iload_n 1, 1) := by decide +kernel
theorem dX9_block_10 : decode cX9_block 10 = .ok (.aload_n 3, 1) := by decide +kernel
theorem dX9_block_11 : decode cX9_block 11 = .ok (.getfield 118, 3) := by decide +kernel
theorem dX9_block_14 : decode cX9_block 14 = .ok (.if_icmp .lt 5, 3) := by decide +kernel
theorem dX9_block_17 : decode cX9_block 17 = .ok (.iconst (-1), 1) := by decide +kernel
theorem dX9_block_18 : decode cX9_block 18 = .ok (.ireturn, 1) := by decide +kernel
theorem dX9_block_19 : decode cX9_block 19 = .ok (.iload_n 2, 1) := by decide +kernel
theorem dX9_block_20 : decode cX9_block 20 = .ok (.tableswitch 49 0 2 #[28, 35, 42], 28) := by decide +kernel
theorem dX9_block_48 : decode cX9_block 48 = .ok (.aload_n 3, 1) := by decide +kernel
theorem dX9_block_49 : decode cX9_block 49 = .ok (.getfield 165, 3) := by decide +kernel
theorem dX9_block_52 : decode cX9_block 52 = .ok (.iload_n 1, 1) := by decide +kernel
theorem dX9_block_53 : decode cX9_block 53 = .ok (.iaload, 1) := by decide +kernel
theorem dX9_block_54 : decode cX9_block 54 = .ok (.ireturn, 1) := by decide +kernel
theorem dX9_block_55 : decode cX9_block 55 = .ok (.aload_n 3, 1) := by decide +kernel
theorem dX9_block_56 : decode cX9_block 56 = .ok (.getfield 168, 3) := by decide +kernel
theorem dX9_block_59 : decode cX9_block 59 = .ok (.iload_n 1, 1) := by decide +kernel
theorem dX9_block_60 : decode cX9_block 60 = .ok (.iaload, 1) := by decide +kernel
theorem dX9_block_61 : decode cX9_block 61 = .ok (.ireturn, 1) := by decide +kernel
theorem dX9_block_62 : decode cX9_block 62 = .ok (.aload_n 3, 1) := by decide +kernel
theorem dX9_block_63 : decode cX9_block 63 = .ok (.getfield 171, 3) := by decide +kernel
theorem dX9_block_66 : decode cX9_block 66 = .ok (.iload_n 1, 1) := by decide +kernel
theorem dX9_block_67 : decode cX9_block 67 = .ok (.iaload, 1) := by decide +kernel
theorem dX9_block_68 : decode cX9_block 68 = .ok (.ireturn, 1) := by decide +kernel
theorem dX9_block_69 : decode cX9_block 69 = .ok (.iconst (-1), 1) := by decide +kernel
theorem dX9_block_70 : decode cX9_block 70 = .ok (.ireturn, 1) := by decide +kernel
theorem dX9_shared_0 : decode cX9_shared 0 = .ok (.aload_n 0, 1) := by decide +kernel
theorem dX9_shared_1 : decode cX9_shared 1 = .ok (.iconst 0, 1) := by decide +kernel
theorem dX9_shared_2 : decode cX9_shared 2 = .ok (.iload_n 1, 1) := by decide +kernel
theorem dX9_shared_3 : decode cX9_shared 3 = .ok (.invokevirtual 128, 3) := by decide +kernel
theorem dX9_shared_6 : decode cX9_shared 6 = .ok (.ifCond .eq 12, 3) := by decide +kernel
theorem dX9_shared_9 : decode cX9_shared 9 = .ok (.aload_n 0, 1) := by decide +kernel
theorem dX9_shared_10 : decode cX9_shared 10 = .ok (.iconst 1, 1) := by decide +kernel
theorem dX9_shared_11 : decode cX9_shared 11 = .ok (.iload_n 2, 1) := by decide +kernel
theorem dX9_shared_12 : decode cX9_shared 12 = .ok (.invokevirtual 128, 3) := by decide +kernel
theorem dX9_shared_15 : decode cX9_shared 15 = .ok (.ifCond .ne 5, 3) := by decide +kernel
theorem dX9_shared_18 : decode cX9_shared 18 = .ok (.iconst (-1), 1) := by decide +kernel
theorem dX9_shared_19 : decode cX9_shared 19 = .ok (.ireturn, 1) := by decide +kernel
theorem dX9_shared_20 : decode cX9_shared 20 = .ok (.aload_n 0, 1) := by decide +kernel
theorem dX9_shared_21 : decode cX9_shared 21 = .ok (.iload_n 1, 1) := by decide +kernel
theorem dX9_shared_22 : decode cX9_shared 22 = .ok (.iload_n 2, 1) := by decide +kernel
theorem dX9_shared_23 : decode cX9_shared 23 = .ok (.invokevirtual 174, 3) := by decide +kernel
theorem dX9_shared_26 : decode cX9_shared 26 = .ok (.ireturn, 1) := by decide +kernel
theorem dX9_stays_0 : decode cX9_stays 0 = .ok (.aload_n 0, 1) := by decide +kernel
theorem dX9_stays_1 : decode cX9_stays 1 = .ok (.iconst 0, 1) := by decide +kernel
theorem dX9_stays_2 : decode cX9_stays 2 = .ok (.iload_n 1, 1) := by decide +kernel
theorem dX9_stays_3 : decode cX9_stays 3 = .ok (.invokevirtual 128, 3) := by decide +kernel
theorem dX9_stays_6 : decode cX9_stays 6 = .ok (.ifCond .eq 12, 3) := by decide +kernel
theorem dX9_stays_9 : decode cX9_stays 9 = .ok (.aload_n 0, 1) := by decide +kernel
theorem dX9_stays_10 : decode cX9_stays 10 = .ok (.iconst 1, 1) := by decide +kernel
theorem dX9_stays_11 : decode cX9_stays 11 = .ok (.iload_n 3, 1) := by decide +kernel
theorem dX9_stays_12 : decode cX9_stays 12 = .ok (.invokevirtual 128, 3) := by decide +kernel
theorem dX9_stays_15 : decode cX9_stays 15 = .ok (.ifCond .ne 5, 3) := by decide +kernel
theorem dX9_stays_18 : decode cX9_stays 18 = .ok (.iconst (-1), 1) := by decide +kernel
theorem dX9_stays_19 : decode cX9_stays 19 = .ok (.ireturn, 1) := by decide +kernel
theorem dX9_stays_20 : decode cX9_stays 20 = .ok (.aload_n 0, 1) := by decide +kernel
theorem dX9_stays_21 : decode cX9_stays 21 = .ok (.iload_n 1, 1) := by decide +kernel
theorem dX9_stays_22 : decode cX9_stays 22 = .ok (.iload_n 3, 1) := by decide +kernel
theorem dX9_stays_23 : decode cX9_stays 23 = .ok (.invokevirtual 174, 3) := by decide +kernel
theorem dX9_stays_26 : decode cX9_stays 26 = .ok (.pop, 1) := by decide +kernel
theorem dX9_stays_27 : decode cX9_stays 27 = .ok (.aload_n 0, 1) := by decide +kernel
theorem dX9_stays_28 : decode cX9_stays 28 = .ok (.getfield 53, 3) := by decide +kernel
theorem dX9_stays_31 : decode cX9_stays 31 = .ok (.iload_n 2, 1) := by decide +kernel
theorem dX9_stays_32 : decode cX9_stays 32 = .ok (.invokevirtual 177, 3) := by decide +kernel
theorem dX9_stays_35 : decode cX9_stays 35 = .ok (.ireturn, 1) := by decide +kernel
theorem dX9_most_0 : decode cX9_most 0 = .ok (.aload_n 0, 1) := by decide +kernel
theorem dX9_most_1 : decode cX9_most 1 = .ok (.getfield 46, 3) := by decide +kernel
theorem dX9_most_4 : decode cX9_most 4 = .ok (.aload_n 0, 1) := by decide +kernel
theorem dX9_most_5 : decode cX9_most 5 = .ok (.getfield 26, 3) := by decide +kernel
theorem dX9_most_8 : decode cX9_most 8 = .ok (.aload_n 0, 1) := by decide +kernel
theorem dX9_most_9 : decode cX9_most 9 = .ok (.getfield 30, 3) := by decide +kernel
theorem dX9_most_12 : decode cX9_most 12 = .ok (.invokevirtual 180, 3) := by decide +kernel
theorem dX9_most_15 : decode cX9_most 15 = .ok (.ireturn, 1) := by decide +kernel
theorem dX9_changes_0 : decode cX9_changes 0 = .ok (.aload_n 0, 1) := by decide +kernel
theorem dX9_changes_1 : decode cX9_changes 1 = .ok (.invokevirtual 110, 3) := by decide +kernel
theorem dX9_changes_4 : decode cX9_changes 4 = .ok (.getfield 184, 3) := by decide +kernel
theorem dX9_changes_7 : decode cX9_changes 7 = .ok (.ireturn, 1) := by decide +kernel
theorem dX9_anchors_0 : decode cX9_anchors 0 = .ok (.iload_n 1, 1) := by decide +kernel
theorem dX9_anchors_1 : decode cX9_anchors 1 = .ok (.ifCond .ne 11, 3) := by decide +kernel
theorem dX9_anchors_4 : decode cX9_anchors 4 = .ok (.aload_n 0, 1) := by decide +kernel
theorem dX9_anchors_5 : decode cX9_anchors 5 = .ok (.invokevirtual 110, 3) := by decide +kernel
theorem dX9_anchors_8 : decode cX9_anchors 8 = .ok (.getfield 187, 3) := by decide +kernel
theorem dX9_anchors_11 : decode cX9_anchors 11 = .ok (.ireturn, 1) := by decide +kernel
theorem dX9_anchors_12 : decode cX9_anchors 12 = .ok (.iload_n 1, 1) := by decide +kernel
theorem dX9_anchors_13 : decode cX9_anchors 13 = .ok (.iconst 1, 1) := by decide +kernel
theorem dX9_anchors_14 : decode cX9_anchors 14 = .ok (.if_icmp .ne 13, 3) := by decide +kernel
theorem dX9_anchors_17 : decode cX9_anchors 17 = .ok (.aload_n 0, 1) := by decide +kernel
theorem dX9_anchors_18 : decode cX9_anchors 18 = .ok (.invokevirtual 110, 3) := by decide +kernel
theorem dX9_anchors_21 : decode cX9_anchors 21 = .ok (.getfield 190, 3) := by decide +kernel
theorem dX9_anchors_24 : decode cX9_anchors 24 = .ok (.goto 4, 3) := by decide +kernel
theorem dX9_anchors_27 : decode cX9_anchors 27 = .ok (.iconst (-1), 1) := by decide +kernel
theorem dX9_anchors_28 : decode cX9_anchors 28 = .ok (.ireturn, 1) := by decide +kernel
theorem dX9_would_0 : decode cX9_would 0 = .ok (.aload_n 0, 1) := by decide +kernel
theorem dX9_would_1 : decode cX9_would 1 = .ok (.iload_n 1, 1) := by decide +kernel
theorem dX9_would_2 : decode cX9_would 2 = .ok (.iload_n 2, 1) := by decide +kernel
theorem dX9_would_3 : decode cX9_would 3 = .ok (.invokevirtual 128, 3) := by decide +kernel
theorem dX9_would_6 : decode cX9_would 6 = .ok (.ifCond .eq 15, 3) := by decide +kernel
theorem dX9_would_9 : decode cX9_would 9 = .ok (.aload_n 0, 1) := by decide +kernel
theorem dX9_would_10 : decode cX9_would 10 = .ok (.iload_n 1, 1) := by decide +kernel
theorem dX9_would_11 : decode cX9_would 11 = .ok (.invokestatic 193, 3) := by decide +kernel
theorem dX9_would_14 : decode cX9_would 14 = .ok (.iload_n 3, 1) := by decide +kernel
theorem dX9_would_15 : decode cX9_would 15 = .ok (.invokevirtual 128, 3) := by decide +kernel
theorem dX9_would_18 : decode cX9_would 18 = .ok (.ifCond .ne 5, 3) := by decide +kernel
theorem dX9_would_21 : decode cX9_would 21 = .ok (.iconst (-1), 1) := by decide +kernel
theorem dX9_would_22 : decode cX9_would 22 = .ok (.ireturn, 1) := by decide +kernel
theorem dX9_would_23 : decode cX9_would 23 = .ok (.aload_n 0, 1) := by decide +kernel
theorem dX9_would_24 : decode cX9_would 24 = .ok (.getfield 33, 3) := by decide +kernel
theorem dX9_would_27 : decode cX9_would 27 = .ok (.aload_n 0, 1) := by decide +kernel
theorem dX9_would_28 : decode cX9_would 28 = .ok (.iload_n 1, 1) := by decide +kernel
theorem dX9_would_29 : decode cX9_would 29 = .ok (.invokevirtual 90, 3) := by decide +kernel
theorem dX9_would_32 : decode cX9_would 32 = .ok (.invokevirtual 97, 3) := by decide +kernel
theorem dX9_would_35 : decode cX9_would 35 = .ok (.aload_n 0, 1) := by decide +kernel
theorem dX9_would_36 : decode cX9_would 36 = .ok (.getfield 33, 3) := by decide +kernel
theorem dX9_would_39 : decode cX9_would 39 = .ok (.iload_n 2, 1) := by decide +kernel
theorem dX9_would_40 : decode cX9_would 40 = .ok (.aload_n 0, 1) := by decide +kernel
theorem dX9_would_41 : decode cX9_would 41 = .ok (.iload_n 1, 1) := by decide +kernel
theorem dX9_would_42 : decode cX9_would 42 = .ok (.invokestatic 193, 3) := by decide +kernel
theorem dX9_would_45 : decode cX9_would 45 = .ok (.invokevirtual 90, 3) := by decide +kernel
theorem dX9_would_48 : decode cX9_would 48 = .ok (.iload_n 3, 1) := by decide +kernel
theorem dX9_would_49 : decode cX9_would 49 = .ok (.invokevirtual 196, 3) := by decide +kernel
theorem dX9_would_52 : decode cX9_would 52 = .ok (.aload_n 0, 1) := by decide +kernel
theorem dX9_would_53 : decode cX9_would 53 = .ok (.getfield 46, 3) := by decide +kernel
theorem dX9_would_56 : decode cX9_would 56 = .ok (.iload_n 1, 1) := by decide +kernel
theorem dX9_would_57 : decode cX9_would 57 = .ok (.ifCond .ne 10, 3) := by decide +kernel
theorem dX9_would_60 : decode cX9_would 60 = .ok (.aload_n 0, 1) := by decide +kernel
theorem dX9_would_61 : decode cX9_would 61 = .ok (.getfield 33, 3) := by decide +kernel
theorem dX9_would_64 : decode cX9_would 64 = .ok (.goto 7, 3) := by decide +kernel
theorem dX9_would_67 : decode cX9_would 67 = .ok (.aload_n 0, 1) := by decide +kernel
theorem dX9_would_68 : decode cX9_would 68 = .ok (.getfield 26, 3) := by decide +kernel
theorem dX9_would_71 : decode cX9_would 71 = .ok (.iload_n 1, 1) := by decide +kernel
theorem dX9_would_72 : decode cX9_would 72 = .ok (.iconst 1, 1) := by decide +kernel
theorem dX9_would_73 : decode cX9_would 73 = .ok (.if_icmp .ne 10, 3) := by decide +kernel
theorem dX9_would_76 : decode cX9_would 76 = .ok (.aload_n 0, 1) := by decide +kernel
theorem dX9_would_77 : decode cX9_would 77 = .ok (.getfield 33, 3) := by decide +kernel
theorem dX9_would_80 : decode cX9_would 80 = .ok (.goto 7, 3) := by decide +kernel
theorem dX9_would_83 : decode cX9_would 83 = .ok (.aload_n 0, 1) := by decide +kernel
theorem dX9_would_84 : decode cX9_would 84 = .ok (.getfield 30, 3) := by decide +kernel
theorem dX9_would_87 : decode cX9_would 87 = .ok (.aload_n 0, 1) := by decide +kernel
theorem dX9_would_88 : decode cX9_would 88 = .ok (.getfield 64, 3) := by decide +kernel
theorem dX9_would_91 : decode cX9_would 91 = .ok (.invokevirtual 200, 3) := by decide +kernel
theorem dX9_would_94 : decode cX9_would 94 = .ok (.aload_n 0, 1) := by decide +kernel
theorem dX9_would_95 : decode cX9_would 95 = .ok (.invokevirtual 110, 3) := by decide +kernel
theorem dX9_would_98 : decode cX9_would 98 = .ok (.aload_n 0, 1) := by decide +kernel
theorem dX9_would_99 : decode cX9_would 99 = .ok (.getfield 64, 3) := by decide +kernel
theorem dX9_would_102 : decode cX9_would 102 = .ok (.invokevirtual 204, 3) := by decide +kernel
theorem dX9_would_105 : decode cX9_would 105 = .ok (.ireturn, 1) := by decide +kernel
theorem dX9_put_0 : decode cX9_put 0 = .ok (.iload_n 1, 1) := by decide +kernel
theorem dX9_put_1 : decode cX9_put 1 = .ok (.invokestatic 79, 3) := by decide +kernel
theorem dX9_put_4 : decode cX9_put 4 = .ok (.ifCond .eq 19, 3) := by decide +kernel
theorem dX9_put_7 : decode cX9_put 7 = .ok (.iload_n 2, 1) := by decide +kernel
theorem dX9_put_8 : decode cX9_put 8 = .ok (.ifCond .lt 15, 3) := by decide +kernel
theorem dX9_put_11 : decode cX9_put 11 = .ok (.iload_n 2, 1) := by decide +kernel
theorem dX9_put_12 : decode cX9_put 12 = .ok (.aload_n 0, 1) := by decide +kernel
theorem dX9_put_13 : decode cX9_put 13 = .ok (.iload_n 1, 1) := by decide +kernel
theorem dX9_put_14 : decode cX9_put 14 = .ok (.invokevirtual 90, 3) := by decide +kernel
theorem dX9_put_17 : decode cX9_put 17 = .ok (.getfield 104, 3) := by decide +kernel
theorem dX9_put_20 : decode cX9_put 20 = .ok (.if_icmp .le 5, 3) := by decide +kernel
theorem dX9_put_23 : decode cX9_put 23 = .ok (.iconst (-1), 1) := by decide +kernel
theorem dX9_put_24 : decode cX9_put 24 = .ok (.ireturn, 1) := by decide +kernel
theorem dX9_put_25 : decode cX9_put 25 = .ok (.aload_n 0, 1) := by decide +kernel
theorem dX9_put_26 : decode cX9_put 26 = .ok (.iload_n 1, 1) := by decide +kernel
theorem dX9_put_27 : decode cX9_put 27 = .ok (.invokevirtual 90, 3) := by decide +kernel
theorem dX9_put_30 : decode cX9_put 30 = .ok (.getfield 104, 3) := by decide +kernel
theorem dX9_put_33 : decode cX9_put 33 = .ok (.bipush 14, 2) := by decide +kernel
theorem dX9_put_35 : decode cX9_put 35 = .ok (.if_icmp .lt 7, 3) := by decide +kernel
theorem dX9_put_38 : decode cX9_put 38 = .ok (.sipush (-1000), 3) := by decide +kernel
theorem dX9_put_41 : decode cX9_put 41 = .ok (.ireturn, 1) := by decide +kernel
theorem dX9_put_42 : decode cX9_put 42 = .ok (.aload_n 0, 1) := by decide +kernel
theorem dX9_put_43 : decode cX9_put 43 = .ok (.iconst 0, 1) := by decide +kernel
theorem dX9_put_44 : decode cX9_put 44 = .ok (.invokevirtual 83, 3) := by decide +kernel
theorem dX9_put_47 : decode cX9_put 47 = .ok (.ifCond .ne 14, 3) := by decide +kernel
theorem dX9_put_50 : decode cX9_put 50 = .ok (.bipush (-2), 2) := by decide +kernel
theorem dX9_put_52 : decode cX9_put 52 = .ok (.aload_n 0, 1) := by decide +kernel
theorem dX9_put_53 : decode cX9_put 53 = .ok (.getfield 19, 3) := by decide +kernel
theorem dX9_put_56 : decode cX9_put 56 = .ok (.getfield 87, 3) := by decide +kernel
theorem dX9_put_59 : decode cX9_put 59 = .ok (.isub, 1) := by decide +kernel
theorem dX9_put_60 : decode cX9_put 60 = .ok (.ireturn, 1) := by decide +kernel
theorem dX9_put_61 : decode cX9_put 61 = .ok (.aload_n 0, 1) := by decide +kernel
theorem dX9_put_62 : decode cX9_put 62 = .ok (.iload_n 1, 1) := by decide +kernel
theorem dX9_put_63 : decode cX9_put 63 = .ok (.invokevirtual 208, 3) := by decide +kernel
theorem dX9_put_66 : decode cX9_put 66 = .ok (.astore_n 3, 1) := by decide +kernel
theorem dX9_put_67 : decode cX9_put 67 = .ok (.aload_n 3, 1) := by decide +kernel
theorem dX9_put_68 : decode cX9_put 68 = .ok (.iload_n 2, 1) := by decide +kernel
theorem dX9_put_69 : decode cX9_put 69 = .ok (.aload_n 0, 1) := by decide +kernel
theorem dX9_put_70 : decode cX9_put 70 = .ok (.getfield 19, 3) := by decide +kernel
theorem dX9_put_73 : decode cX9_put 73 = .ok (.getfield 94, 3) := by decide +kernel
theorem dX9_put_76 : decode cX9_put 76 = .ok (.iconst 0, 1) := by decide +kernel
theorem dX9_put_77 : decode cX9_put 77 = .ok (.invokevirtual 211, 3) := by decide +kernel
theorem dX9_put_80 : decode cX9_put 80 = .ok (.aload_n 3, 1) := by decide +kernel
theorem dX9_put_81 : decode cX9_put 81 = .ok (.getfield 104, 3) := by decide +kernel
theorem dX9_put_84 : decode cX9_put 84 = .ok (.ireturn, 1) := by decide +kernel
theorem dX9_change_0 : decode cX9_change 0 = .ok (.aload_n 0, 1) := by decide +kernel
theorem dX9_change_1 : decode cX9_change 1 = .ok (.iload_n 1, 1) := by decide +kernel
theorem dX9_change_2 : decode cX9_change 2 = .ok (.iload_n 2, 1) := by decide +kernel
theorem dX9_change_3 : decode cX9_change 3 = .ok (.invokevirtual 128, 3) := by decide +kernel
theorem dX9_change_6 : decode cX9_change 6 = .ok (.ifCond .ne 5, 3) := by decide +kernel
theorem dX9_change_9 : decode cX9_change 9 = .ok (.iconst (-1), 1) := by decide +kernel
theorem dX9_change_10 : decode cX9_change 10 = .ok (.ireturn, 1) := by decide +kernel
theorem dX9_change_11 : decode cX9_change 11 = .ok (.aload_n 0, 1) := by decide +kernel
theorem dX9_change_12 : decode cX9_change 12 = .ok (.iconst 0, 1) := by decide +kernel
theorem dX9_change_13 : decode cX9_change 13 = .ok (.invokevirtual 83, 3) := by decide +kernel
theorem dX9_change_16 : decode cX9_change 16 = .ok (.ifCond .ne 14, 3) := by decide +kernel
theorem dX9_change_19 : decode cX9_change 19 = .ok (.bipush (-2), 2) := by decide +kernel
theorem dX9_change_21 : decode cX9_change 21 = .ok (.aload_n 0, 1) := by decide +kernel
theorem dX9_change_22 : decode cX9_change 22 = .ok (.getfield 19, 3) := by decide +kernel
theorem dX9_change_25 : decode cX9_change 25 = .ok (.getfield 87, 3) := by decide +kernel
theorem dX9_change_28 : decode cX9_change 28 = .ok (.isub, 1) := by decide +kernel
theorem dX9_change_29 : decode cX9_change 29 = .ok (.ireturn, 1) := by decide +kernel
theorem dX9_change_30 : decode cX9_change 30 = .ok (.aload_n 0, 1) := by decide +kernel
theorem dX9_change_31 : decode cX9_change 31 = .ok (.iload_n 1, 1) := by decide +kernel
theorem dX9_change_32 : decode cX9_change 32 = .ok (.invokevirtual 208, 3) := by decide +kernel
theorem dX9_change_35 : decode cX9_change 35 = .ok (.astore_n 3, 1) := by decide +kernel
theorem dX9_change_36 : decode cX9_change 36 = .ok (.aload_n 3, 1) := by decide +kernel
theorem dX9_change_37 : decode cX9_change 37 = .ok (.iload_n 2, 1) := by decide +kernel
theorem dX9_change_38 : decode cX9_change 38 = .ok (.aload_n 0, 1) := by decide +kernel
theorem dX9_change_39 : decode cX9_change 39 = .ok (.getfield 19, 3) := by decide +kernel
theorem dX9_change_42 : decode cX9_change 42 = .ok (.getfield 94, 3) := by decide +kernel
theorem dX9_change_45 : decode cX9_change 45 = .ok (.iconst 0, 1) := by decide +kernel
theorem dX9_change_46 : decode cX9_change 46 = .ok (.invokevirtual 196, 3) := by decide +kernel
theorem dX9_change_49 : decode cX9_change 49 = .ok (.aload_n 3, 1) := by decide +kernel
theorem dX9_change_50 : decode cX9_change 50 = .ok (.iload_n 2, 1) := by decide +kernel
theorem dX9_change_51 : decode cX9_change 51 = .ok (.invokevirtual 139, 3) := by decide +kernel
theorem dX9_change_54 : decode cX9_change 54 = .ok (.ireturn, 1) := by decide +kernel
theorem dX9_cut_0 : decode cX9_cut 0 = .ok (.aload_n 0, 1) := by decide +kernel
theorem dX9_cut_1 : decode cX9_cut 1 = .ok (.iload_n 1, 1) := by decide +kernel
theorem dX9_cut_2 : decode cX9_cut 2 = .ok (.iload_n 2, 1) := by decide +kernel
theorem dX9_cut_3 : decode cX9_cut 3 = .ok (.invokevirtual 128, 3) := by decide +kernel
theorem dX9_cut_6 : decode cX9_cut 6 = .ok (.ifCond .ne 5, 3) := by decide +kernel
theorem dX9_cut_9 : decode cX9_cut 9 = .ok (.iconst (-1), 1) := by decide +kernel
theorem dX9_cut_10 : decode cX9_cut 10 = .ok (.ireturn, 1) := by decide +kernel
theorem dX9_cut_11 : decode cX9_cut 11 = .ok (.aload_n 0, 1) := by decide +kernel
theorem dX9_cut_12 : decode cX9_cut 12 = .ok (.iload_n 1, 1) := by decide +kernel
theorem dX9_cut_13 : decode cX9_cut 13 = .ok (.invokevirtual 208, 3) := by decide +kernel
theorem dX9_cut_16 : decode cX9_cut 16 = .ok (.astore_n 3, 1) := by decide +kernel
theorem dX9_cut_17 : decode cX9_cut 17 = .ok (.aload_n 3, 1) := by decide +kernel
theorem dX9_cut_18 : decode cX9_cut 18 = .ok (.iload_n 2, 1) := by decide +kernel
theorem dX9_cut_19 : decode cX9_cut 19 = .ok (.invokevirtual 214, 3) := by decide +kernel
theorem dX9_cut_22 : decode cX9_cut 22 = .ok (.aload_n 3, 1) := by decide +kernel
theorem dX9_cut_23 : decode cX9_cut 23 = .ok (.getfield 104, 3) := by decide +kernel
theorem dX9_cut_26 : decode cX9_cut 26 = .ok (.ireturn, 1) := by decide +kernel
theorem dX9_move_0 : decode cX9_move 0 = .ok (.aload_n 0, 1) := by decide +kernel
theorem dX9_move_1 : decode cX9_move 1 = .ok (.iload_n 1, 1) := by decide +kernel
theorem dX9_move_2 : decode cX9_move 2 = .ok (.iload_n 2, 1) := by decide +kernel
theorem dX9_move_3 : decode cX9_move 3 = .ok (.invokevirtual 128, 3) := by decide +kernel
theorem dX9_move_6 : decode cX9_move 6 = .ok (.ifCond .ne 5, 3) := by decide +kernel
theorem dX9_move_9 : decode cX9_move 9 = .ok (.iconst 0, 1) := by decide +kernel
theorem dX9_move_10 : decode cX9_move 10 = .ok (.ireturn, 1) := by decide +kernel
theorem dX9_move_11 : decode cX9_move 11 = .ok (.aload_n 0, 1) := by decide +kernel
theorem dX9_move_12 : decode cX9_move 12 = .ok (.iload_n 1, 1) := by decide +kernel
theorem dX9_move_13 : decode cX9_move 13 = .ok (.invokevirtual 90, 3) := by decide +kernel
theorem dX9_move_16 : decode cX9_move 16 = .ok (.getfield 104, 3) := by decide +kernel
theorem dX9_move_19 : decode cX9_move 19 = .ok (.istore 5, 2) := by decide +kernel
theorem dX9_move_21 : decode cX9_move 21 = .ok (.iload_n 3, 1) := by decide +kernel
theorem dX9_move_22 : decode cX9_move 22 = .ok (.iconst 1, 1) := by decide +kernel
theorem dX9_move_23 : decode cX9_move 23 = .ok (.if_icmp .lt 25, 3) := by decide +kernel
theorem dX9_move_26 : decode cX9_move 26 = .ok (.iload_n 3, 1) := by decide +kernel
theorem dX9_move_27 : decode cX9_move 27 = .ok (.iload 5, 2) := by decide +kernel
theorem dX9_move_29 : decode cX9_move 29 = .ok (.iload_n 2, 1) := by decide +kernel
theorem dX9_move_30 : decode cX9_move 30 = .ok (.isub, 1) := by decide +kernel
theorem dX9_move_31 : decode cX9_move 31 = .ok (.if_icmp .gt 17, 3) := by decide +kernel
theorem dX9_move_34 : decode cX9_move 34 = .ok (.iload 4, 2) := by decide +kernel
theorem dX9_move_36 : decode cX9_move 36 = .ok (.ifCond .lt 12, 3) := by decide +kernel
theorem dX9_move_39 : decode cX9_move 39 = .ok (.iload 4, 2) := by decide +kernel
theorem dX9_move_41 : decode cX9_move 41 = .ok (.iload 5, 2) := by decide +kernel
theorem dX9_move_43 : decode cX9_move 43 = .ok (.iload_n 3, 1) := by decide +kernel
theorem dX9_move_44 : decode cX9_move 44 = .ok (.isub, 1) := by decide +kernel
theorem dX9_move_45 : decode cX9_move 45 = .ok (.if_icmp .le 5, 3) := by decide +kernel
theorem dX9_move_48 : decode cX9_move 48 = .ok (.iconst 0, 1) := by decide +kernel
theorem dX9_move_49 : decode cX9_move 49 = .ok (.ireturn, 1) := by decide +kernel
theorem dX9_move_50 : decode cX9_move 50 = .ok (.aload_n 0, 1) := by decide +kernel
theorem dX9_move_51 : decode cX9_move 51 = .ok (.iload_n 1, 1) := by decide +kernel
theorem dX9_move_52 : decode cX9_move 52 = .ok (.invokevirtual 208, 3) := by decide +kernel
theorem dX9_move_55 : decode cX9_move 55 = .ok (.astore 6, 2) := by decide +kernel
theorem dX9_move_57 : decode cX9_move 57 = .ok (.aload_n 0, 1) := by decide +kernel
theorem dX9_move_58 : decode cX9_move 58 = .ok (.getfield 33, 3) := by decide +kernel
theorem dX9_move_61 : decode cX9_move 61 = .ok (.aload 6, 2) := by decide +kernel
theorem dX9_move_63 : decode cX9_move 63 = .ok (.invokevirtual 97, 3) := by decide +kernel
theorem dX9_move_66 : decode cX9_move 66 = .ok (.aload 6, 2) := by decide +kernel
theorem dX9_move_68 : decode cX9_move 68 = .ok (.aload_n 0, 1) := by decide +kernel
theorem dX9_move_69 : decode cX9_move 69 = .ok (.getfield 33, 3) := by decide +kernel
theorem dX9_move_72 : decode cX9_move 72 = .ok (.iload_n 2, 1) := by decide +kernel
theorem dX9_move_73 : decode cX9_move 73 = .ok (.iload_n 3, 1) := by decide +kernel
theorem dX9_move_74 : decode cX9_move 74 = .ok (.iload 4, 2) := by decide +kernel
theorem dX9_move_76 : decode cX9_move 76 = .ok (.invokevirtual 217, 3) := by decide +kernel
theorem dX9_move_79 : decode cX9_move 79 = .ok (.iconst 1, 1) := by decide +kernel
theorem dX9_move_80 : decode cX9_move 80 = .ok (.ireturn, 1) := by decide +kernel
theorem dX9_take_0 : decode cX9_take 0 = .ok (.aload_n 0, 1) := by decide +kernel
theorem dX9_take_1 : decode cX9_take 1 = .ok (.iconst 0, 1) := by decide +kernel
theorem dX9_take_2 : decode cX9_take 2 = .ok (.invokevirtual 208, 3) := by decide +kernel
theorem dX9_take_5 : decode cX9_take 5 = .ok (.aload_n 0, 1) := by decide +kernel
theorem dX9_take_6 : decode cX9_take 6 = .ok (.getfield 30, 3) := by decide +kernel
theorem dX9_take_9 : decode cX9_take 9 = .ok (.invokevirtual 97, 3) := by decide +kernel
theorem dX9_take_12 : decode cX9_take 12 = .ok (.aload_n 0, 1) := by decide +kernel
theorem dX9_take_13 : decode cX9_take 13 = .ok (.getfield 26, 3) := by decide +kernel
theorem dX9_take_16 : decode cX9_take 16 = .ok (.getfield 104, 3) := by decide +kernel
theorem dX9_take_19 : decode cX9_take 19 = .ok (.ireturn, 1) := by decide +kernel
theorem dX9_undo_0 : decode cX9_undo 0 = .ok (.aload_n 0, 1) := by decide +kernel
theorem dX9_undo_1 : decode cX9_undo 1 = .ok (.getfield 39, 3) := by decide +kernel
theorem dX9_undo_4 : decode cX9_undo 4 = .ok (.getfield 125, 3) := by decide +kernel
theorem dX9_undo_7 : decode cX9_undo 7 = .ok (.ifCond .ne 5, 3) := by decide +kernel
theorem dX9_undo_10 : decode cX9_undo 10 = .ok (.iconst (-1), 1) := by decide +kernel
theorem dX9_undo_11 : decode cX9_undo 11 = .ok (.ireturn, 1) := by decide +kernel
theorem dX9_undo_12 : decode cX9_undo 12 = .ok (.aload_n 0, 1) := by decide +kernel
theorem dX9_undo_13 : decode cX9_undo 13 = .ok (.getfield 39, 3) := by decide +kernel
theorem dX9_undo_16 : decode cX9_undo 16 = .ok (.invokevirtual 221, 3) := by decide +kernel
theorem dX9_undo_19 : decode cX9_undo 19 = .ok (.istore_n 1, 1) := by decide +kernel
theorem dX9_undo_20 : decode cX9_undo 20 = .ok (.aload_n 0, 1) := by decide +kernel
theorem dX9_undo_21 : decode cX9_undo 21 = .ok (.aload_n 0, 1) := by decide +kernel
theorem dX9_undo_22 : decode cX9_undo 22 = .ok (.getfield 39, 3) := by decide +kernel
theorem dX9_undo_25 : decode cX9_undo 25 = .ok (.getfield 224, 3) := by decide +kernel
theorem dX9_undo_28 : decode cX9_undo 28 = .ok (.iload_n 1, 1) := by decide +kernel
theorem dX9_undo_29 : decode cX9_undo 29 = .ok (.iaload, 1) := by decide +kernel
theorem dX9_undo_30 : decode cX9_undo 30 = .ok (.invokevirtual 90, 3) := by decide +kernel
theorem dX9_undo_33 : decode cX9_undo 33 = .ok (.aload_n 0, 1) := by decide +kernel
theorem dX9_undo_34 : decode cX9_undo 34 = .ok (.getfield 39, 3) := by decide +kernel
theorem dX9_undo_37 : decode cX9_undo 37 = .ok (.getfield 227, 3) := by decide +kernel
theorem dX9_undo_40 : decode cX9_undo 40 = .ok (.iload_n 1, 1) := by decide +kernel
theorem dX9_undo_41 : decode cX9_undo 41 = .ok (.aaload, 1) := by decide +kernel
theorem dX9_undo_42 : decode cX9_undo 42 = .ok (.invokevirtual 97, 3) := by decide +kernel
theorem dX9_undo_45 : decode cX9_undo 45 = .ok (.aload_n 0, 1) := by decide +kernel
theorem dX9_undo_46 : decode cX9_undo 46 = .ok (.iconst 1, 1) := by decide +kernel
theorem dX9_undo_47 : decode cX9_undo 47 = .ok (.putfield 67, 3) := by decide +kernel
theorem dX9_undo_50 : decode cX9_undo 50 = .ok (.aload_n 0, 1) := by decide +kernel
theorem dX9_undo_51 : decode cX9_undo 51 = .ok (.getfield 39, 3) := by decide +kernel
theorem dX9_undo_54 : decode cX9_undo 54 = .ok (.getfield 125, 3) := by decide +kernel
theorem dX9_undo_57 : decode cX9_undo 57 = .ok (.ireturn, 1) := by decide +kernel
theorem dX9_isEdition_0 : decode cX9_isEdition 0 = .ok (.iload_n 0, 1) := by decide +kernel
theorem dX9_isEdition_1 : decode cX9_isEdition 1 = .ok (.ifCond .eq 8, 3) := by decide +kernel
theorem dX9_isEdition_4 : decode cX9_isEdition 4 = .ok (.iload_n 0, 1) := by decide +kernel
theorem dX9_isEdition_5 : decode cX9_isEdition 5 = .ok (.iconst 1, 1) := by decide +kernel
theorem dX9_isEdition_6 : decode cX9_isEdition 6 = .ok (.if_icmp .ne 7, 3) := by decide +kernel
theorem dX9_isEdition_9 : decode cX9_isEdition 9 = .ok (.iconst 1, 1) := by decide +kernel
theorem dX9_isEdition_10 : decode cX9_isEdition 10 = .ok (.goto 4, 3) := by decide +kernel
theorem dX9_isEdition_13 : decode cX9_isEdition 13 = .ok (.iconst 0, 1) := by decide +kernel
theorem dX9_isEdition_14 : decode cX9_isEdition 14 = .ok (.ireturn, 1) := by decide +kernel
theorem dX9_otherThan_0 : decode cX9_otherThan 0 = .ok (.iload_n 0, 1) := by decide +kernel
theorem dX9_otherThan_1 : decode cX9_otherThan 1 = .ok (.ifCond .ne 7, 3) := by decide +kernel
theorem dX9_otherThan_4 : decode cX9_otherThan 4 = .ok (.iconst 1, 1) := by decide +kernel
theorem dX9_otherThan_5 : decode cX9_otherThan 5 = .ok (.goto 4, 3) := by decide +kernel
theorem dX9_otherThan_8 : decode cX9_otherThan 8 = .ok (.iconst 0, 1) := by decide +kernel
theorem dX9_otherThan_9 : decode cX9_otherThan 9 = .ok (.ireturn, 1) := by decide +kernel
theorem dX9_editionOf_0 : decode cX9_editionOf 0 = .ok (.iload_n 1, 1) := by decide +kernel
theorem dX9_editionOf_1 : decode cX9_editionOf 1 = .ok (.ifCond .ne 10, 3) := by decide +kernel
theorem dX9_editionOf_4 : decode cX9_editionOf 4 = .ok (.aload_n 0, 1) := by decide +kernel
theorem dX9_editionOf_5 : decode cX9_editionOf 5 = .ok (.getfield 26, 3) := by decide +kernel
theorem dX9_editionOf_8 : decode cX9_editionOf 8 = .ok (.goto 7, 3) := by decide +kernel
theorem dX9_editionOf_11 : decode cX9_editionOf 11 = .ok (.aload_n 0, 1) := by decide +kernel
theorem dX9_editionOf_12 : decode cX9_editionOf 12 = .ok (.getfield 30, 3) := by decide +kernel
theorem dX9_editionOf_15 : decode cX9_editionOf 15 = .ok (.areturn, 1) := by decide +kernel
theorem dX9_hasLine_0 : decode cX9_hasLine 0 = .ok (.iload_n 1, 1) := by decide +kernel
theorem dX9_hasLine_1 : decode cX9_hasLine 1 = .ok (.invokestatic 79, 3) := by decide +kernel
theorem dX9_hasLine_4 : decode cX9_hasLine 4 = .ok (.ifCond .eq 19, 3) := by decide +kernel
theorem dX9_hasLine_7 : decode cX9_hasLine 7 = .ok (.aload_n 0, 1) := by decide +kernel
theorem dX9_hasLine_8 : decode cX9_hasLine 8 = .ok (.iload_n 1, 1) := by decide +kernel
theorem dX9_hasLine_9 : decode cX9_hasLine 9 = .ok (.invokevirtual 90, 3) := by decide +kernel
theorem dX9_hasLine_12 : decode cX9_hasLine 12 = .ok (.iload_n 2, 1) := by decide +kernel
theorem dX9_hasLine_13 : decode cX9_hasLine 13 = .ok (.invokevirtual 231, 3) := by decide +kernel
theorem dX9_hasLine_16 : decode cX9_hasLine 16 = .ok (.ifCond .eq 7, 3) := by decide +kernel
theorem dX9_hasLine_19 : decode cX9_hasLine 19 = .ok (.iconst 1, 1) := by decide +kernel
theorem dX9_hasLine_20 : decode cX9_hasLine 20 = .ok (.goto 4, 3) := by decide +kernel
theorem dX9_hasLine_23 : decode cX9_hasLine 23 = .ok (.iconst 0, 1) := by decide +kernel
theorem dX9_hasLine_24 : decode cX9_hasLine 24 = .ok (.ireturn, 1) := by decide +kernel
theorem dX9_readTape_0 : decode cX9_readTape 0 = .ok (.aload_n 0, 1) := by decide +kernel
theorem dX9_readTape_1 : decode cX9_readTape 1 = .ok (.getfield 19, 3) := by decide +kernel
theorem dX9_readTape_4 : decode cX9_readTape 4 = .ok (.aload_n 0, 1) := by decide +kernel
theorem dX9_readTape_5 : decode cX9_readTape 5 = .ok (.getfield 10, 3) := by decide +kernel
theorem dX9_readTape_8 : decode cX9_readTape 8 = .ok (.iload_n 1, 1) := by decide +kernel
theorem dX9_readTape_9 : decode cX9_readTape 9 = .ok (.invokevirtual 234, 3) := by decide +kernel
theorem dX9_readTape_12 : decode cX9_readTape 12 = .ok (.istore_n 2, 1) := by decide +kernel
theorem dX9_readTape_13 : decode cX9_readTape 13 = .ok (.aload_n 0, 1) := by decide +kernel
theorem dX9_readTape_14 : decode cX9_readTape 14 = .ok (.getfield 10, 3) := by decide +kernel
theorem dX9_readTape_17 : decode cX9_readTape 17 = .ok (.iconst 0, 1) := by decide +kernel
theorem dX9_readTape_18 : decode cX9_readTape 18 = .ok (.putfield 71, 3) := by decide +kernel
theorem dX9_readTape_21 : decode cX9_readTape 21 = .ok (.iload_n 2, 1) := by decide +kernel
theorem dX9_readTape_22 : decode cX9_readTape 22 = .ok (.ireturn, 1) := by decide +kernel
theorem dX9_startStep_0 : decode cX9_startStep 0 = .ok (.aload_n 0, 1) := by decide +kernel
theorem dX9_startStep_1 : decode cX9_startStep 1 = .ok (.getfield 39, 3) := by decide +kernel
theorem dX9_startStep_4 : decode cX9_startStep 4 = .ok (.iload_n 1, 1) := by decide +kernel
theorem dX9_startStep_5 : decode cX9_startStep 5 = .ok (.aload_n 0, 1) := by decide +kernel
theorem dX9_startStep_6 : decode cX9_startStep 6 = .ok (.iload_n 1, 1) := by decide +kernel
theorem dX9_startStep_7 : decode cX9_startStep 7 = .ok (.invokevirtual 90, 3) := by decide +kernel
theorem dX9_startStep_10 : decode cX9_startStep 10 = .ok (.invokevirtual 238, 3) := by decide +kernel
theorem dX9_startStep_13 : decode cX9_startStep 13 = .ok (.aload_n 0, 1) := by decide +kernel
theorem dX9_startStep_14 : decode cX9_startStep 14 = .ok (.iconst 1, 1) := by decide +kernel
theorem dX9_startStep_15 : decode cX9_startStep 15 = .ok (.putfield 67, 3) := by decide +kernel
theorem dX9_startStep_18 : decode cX9_startStep 18 = .ok (.aload_n 0, 1) := by decide +kernel
theorem dX9_startStep_19 : decode cX9_startStep 19 = .ok (.iload_n 1, 1) := by decide +kernel
theorem dX9_startStep_20 : decode cX9_startStep 20 = .ok (.invokevirtual 90, 3) := by decide +kernel
theorem dX9_startStep_23 : decode cX9_startStep 23 = .ok (.areturn, 1) := by decide +kernel
theorem dX9_compared_0 : decode cX9_compared 0 = .ok (.aload_n 0, 1) := by decide +kernel
theorem dX9_compared_1 : decode cX9_compared 1 = .ok (.getfield 67, 3) := by decide +kernel
theorem dX9_compared_4 : decode cX9_compared 4 = .ok (.ifCond .eq 27, 3) := by decide +kernel
theorem dX9_compared_7 : decode cX9_compared 7 = .ok (.aload_n 0, 1) := by decide +kernel
theorem dX9_compared_8 : decode cX9_compared 8 = .ok (.getfield 46, 3) := by decide +kernel
theorem dX9_compared_11 : decode cX9_compared 11 = .ok (.aload_n 0, 1) := by decide +kernel
theorem dX9_compared_12 : decode cX9_compared 12 = .ok (.getfield 26, 3) := by decide +kernel
theorem dX9_compared_15 : decode cX9_compared 15 = .ok (.aload_n 0, 1) := by decide +kernel
theorem dX9_compared_16 : decode cX9_compared 16 = .ok (.getfield 30, 3) := by decide +kernel
theorem dX9_compared_19 : decode cX9_compared 19 = .ok (.aload_n 0, 1) := by decide +kernel
theorem dX9_compared_20 : decode cX9_compared 20 = .ok (.getfield 60, 3) := by decide +kernel
theorem dX9_compared_23 : decode cX9_compared 23 = .ok (.invokevirtual 200, 3) := by decide +kernel
theorem dX9_compared_26 : decode cX9_compared 26 = .ok (.aload_n 0, 1) := by decide +kernel
theorem dX9_compared_27 : decode cX9_compared 27 = .ok (.iconst 0, 1) := by decide +kernel
theorem dX9_compared_28 : decode cX9_compared 28 = .ok (.putfield 67, 3) := by decide +kernel
theorem dX9_compared_31 : decode cX9_compared 31 = .ok (.aload_n 0, 1) := by decide +kernel
theorem dX9_compared_32 : decode cX9_compared 32 = .ok (.getfield 60, 3) := by decide +kernel
theorem dX9_compared_35 : decode cX9_compared 35 = .ok (.areturn, 1) := by decide +kernel
theorem dX9_measureWords_0 : decode cX9_measureWords 0 = .ok (.aload_n 0, 1) := by decide +kernel
theorem dX9_measureWords_1 : decode cX9_measureWords 1 = .ok (.getfield 53, 3) := by decide +kernel
theorem dX9_measureWords_4 : decode cX9_measureWords 4 = .ok (.aload_n 0, 1) := by decide +kernel
theorem dX9_measureWords_5 : decode cX9_measureWords 5 = .ok (.getfield 26, 3) := by decide +kernel
theorem dX9_measureWords_8 : decode cX9_measureWords 8 = .ok (.getfield 242, 3) := by decide +kernel
theorem dX9_measureWords_11 : decode cX9_measureWords 11 = .ok (.iload_n 1, 1) := by decide +kernel
theorem dX9_measureWords_12 : decode cX9_measureWords 12 = .ok (.bipush 8, 2) := by decide +kernel
theorem dX9_measureWords_14 : decode cX9_measureWords 14 = .ok (.imul, 1) := by decide +kernel
theorem dX9_measureWords_15 : decode cX9_measureWords 15 = .ok (.aload_n 0, 1) := by decide +kernel
theorem dX9_measureWords_16 : decode cX9_measureWords 16 = .ok (.getfield 26, 3) := by decide +kernel
theorem dX9_measureWords_19 : decode cX9_measureWords 19 = .ok (.iload_n 1, 1) := by decide +kernel
theorem dX9_measureWords_20 : decode cX9_measureWords 20 = .ok (.invokevirtual 139, 3) := by decide +kernel
theorem dX9_measureWords_23 : decode cX9_measureWords 23 = .ok (.invokevirtual 245, 3) := by decide +kernel
theorem dX9_measureWords_26 : decode cX9_measureWords 26 = .ok (.aload_n 0, 1) := by decide +kernel
theorem dX9_measureWords_27 : decode cX9_measureWords 27 = .ok (.getfield 53, 3) := by decide +kernel
theorem dX9_measureWords_30 : decode cX9_measureWords 30 = .ok (.aload_n 0, 1) := by decide +kernel
theorem dX9_measureWords_31 : decode cX9_measureWords 31 = .ok (.getfield 30, 3) := by decide +kernel
theorem dX9_measureWords_34 : decode cX9_measureWords 34 = .ok (.getfield 242, 3) := by decide +kernel
theorem dX9_measureWords_37 : decode cX9_measureWords 37 = .ok (.iload_n 2, 1) := by decide +kernel
theorem dX9_measureWords_38 : decode cX9_measureWords 38 = .ok (.bipush 8, 2) := by decide +kernel
theorem dX9_measureWords_40 : decode cX9_measureWords 40 = .ok (.imul, 1) := by decide +kernel
theorem dX9_measureWords_41 : decode cX9_measureWords 41 = .ok (.aload_n 0, 1) := by decide +kernel
theorem dX9_measureWords_42 : decode cX9_measureWords 42 = .ok (.getfield 30, 3) := by decide +kernel
theorem dX9_measureWords_45 : decode cX9_measureWords 45 = .ok (.iload_n 2, 1) := by decide +kernel
theorem dX9_measureWords_46 : decode cX9_measureWords 46 = .ok (.invokevirtual 139, 3) := by decide +kernel
theorem dX9_measureWords_49 : decode cX9_measureWords 49 = .ok (.invokevirtual 249, 3) := by decide +kernel
theorem dX9_measureWords_52 : decode cX9_measureWords 52 = .ok (.aload_n 0, 1) := by decide +kernel
theorem dX9_measureWords_53 : decode cX9_measureWords 53 = .ok (.getfield 53, 3) := by decide +kernel
theorem dX9_measureWords_56 : decode cX9_measureWords 56 = .ok (.invokevirtual 252, 3) := by decide +kernel
theorem dX9_measureWords_59 : decode cX9_measureWords 59 = .ok (.ireturn, 1) := by decide +kernel
theorem dX9_letterIn_0 : decode cX9_letterIn 0 = .ok (.iload_n 0, 1) := by decide +kernel
theorem dX9_letterIn_1 : decode cX9_letterIn 1 = .ok (.iconst 5, 1) := by decide +kernel
theorem dX9_letterIn_2 : decode cX9_letterIn 2 = .ok (.iload_n 1, 1) := by decide +kernel
theorem dX9_letterIn_3 : decode cX9_letterIn 3 = .ok (.imul, 1) := by decide +kernel
theorem dX9_letterIn_4 : decode cX9_letterIn 4 = .ok (.iushr, 1) := by decide +kernel
theorem dX9_letterIn_5 : decode cX9_letterIn 5 = .ok (.bipush 31, 2) := by decide +kernel
theorem dX9_letterIn_7 : decode cX9_letterIn 7 = .ok (.iand, 1) := by decide +kernel
theorem dX9_letterIn_8 : decode cX9_letterIn 8 = .ok (.ireturn, 1) := by decide +kernel
theorem dX10_thrown_0 : decode cX10_thrown 0 = .ok (.aload_n 0, 1) := by decide +kernel
theorem dX10_thrown_1 : decode cX10_thrown 1 = .ok (.getfield 1, 3) := by decide +kernel
theorem dX10_thrown_4 : decode cX10_thrown 4 = .ok (.ireturn, 1) := by decide +kernel
theorem dX10_refuse_0 : decode cX10_refuse 0 = .ok (.aload_n 0, 1) := by decide +kernel
theorem dX10_refuse_1 : decode cX10_refuse 1 = .ok (.iconst 1, 1) := by decide +kernel
theorem dX10_refuse_2 : decode cX10_refuse 2 = .ok (.putfield 1, 3) := by decide +kernel
theorem dX10_refuse_5 : decode cX10_refuse 5 = .ok (.iconst 0, 1) := by decide +kernel
theorem dX10_refuse_6 : decode cX10_refuse 6 = .ok (.ireturn, 1) := by decide +kernel
theorem dX10_isIn_0 : decode cX10_isIn 0 = .ok (.iload_n 0, 1) := by decide +kernel
theorem dX10_isIn_1 : decode cX10_isIn 1 = .ok (.iload_n 1, 1) := by decide +kernel
theorem dX10_isIn_2 : decode cX10_isIn 2 = .ok (.if_icmp .lt 12, 3) := by decide +kernel
theorem dX10_isIn_5 : decode cX10_isIn 5 = .ok (.iload_n 0, 1) := by decide +kernel
theorem dX10_isIn_6 : decode cX10_isIn 6 = .ok (.iload_n 2, 1) := by decide +kernel
theorem dX10_isIn_7 : decode cX10_isIn 7 = .ok (.if_icmp .gt 7, 3) := by decide +kernel
theorem dX10_isIn_10 : decode cX10_isIn 10 = .ok (.iconst 1, 1) := by decide +kernel
theorem dX10_isIn_11 : decode cX10_isIn 11 = .ok (.goto 4, 3) := by decide +kernel
theorem dX10_isIn_14 : decode cX10_isIn 14 = .ok (.iconst 0, 1) := by decide +kernel
theorem dX10_isIn_15 : decode cX10_isIn 15 = .ok (.ireturn, 1) := by decide +kernel
theorem dX10_lays_0 : decode cX10_lays 0 = .ok (.bipush 24, 2) := by decide +kernel
theorem dX10_lays_2 : decode cX10_lays 2 = .ok (.istore_n 2, 1) := by decide +kernel
theorem dX10_lays_3 : decode cX10_lays 3 = .ok (.iload_n 2, 1) := by decide +kernel
theorem dX10_lays_4 : decode cX10_lays 4 = .ok (.ifCond .lt 35, 3) := by decide +kernel
theorem dX10_lays_7 : decode cX10_lays 7 = .ok (.aload_n 0, 1) := by decide +kernel
theorem dX10_lays_8 : decode cX10_lays 8 = .ok (.getfield 7, 3) := by decide +kernel
theorem dX10_lays_11 : decode cX10_lays 11 = .ok (.aload_n 0, 1) := by decide +kernel
theorem dX10_lays_12 : decode cX10_lays 12 = .ok (.getfield 11, 3) := by decide +kernel
theorem dX10_lays_15 : decode cX10_lays 15 = .ok (.iload_n 1, 1) := by decide +kernel
theorem dX10_lays_16 : decode cX10_lays 16 = .ok (.iload_n 2, 1) := by decide +kernel
theorem dX10_lays_17 : decode cX10_lays 17 = .ok (.iushr, 1) := by decide +kernel
theorem dX10_lays_18 : decode cX10_lays 18 = .ok (.sipush 255, 3) := by decide +kernel
theorem dX10_lays_21 : decode cX10_lays 21 = .ok (.iand, 1) := by decide +kernel
theorem dX10_lays_22 : decode cX10_lays 22 = .ok (.iastore, 1) := by decide +kernel
theorem dX10_lays_23 : decode cX10_lays 23 = .ok (.aload_n 0, 1) := by decide +kernel
theorem dX10_lays_24 : decode cX10_lays 24 = .ok (.dup, 1) := by decide +kernel
theorem dX10_lays_25 : decode cX10_lays 25 = .ok (.getfield 11, 3) := by decide +kernel
theorem dX10_lays_28 : decode cX10_lays 28 = .ok (.iconst 1, 1) := by decide +kernel
theorem dX10_lays_29 : decode cX10_lays 29 = .ok (.iadd, 1) := by decide +kernel
theorem dX10_lays_30 : decode cX10_lays 30 = .ok (.putfield 11, 3) := by decide +kernel
theorem dX10_lays_33 : decode cX10_lays 33 = .ok (.iinc 2 (-8), 3) := by decide +kernel
theorem dX10_lays_36 : decode cX10_lays 36 = .ok (.goto (-33), 3) := by decide +kernel
theorem dX10_lays_39 : decode cX10_lays 39 = .ok (.return_, 1) := by decide +kernel
theorem dX10_feed_0 : decode cX10_feed 0 = .ok (.aload_n 0, 1) := by decide +kernel
theorem dX10_feed_1 : decode cX10_feed 1 = .ok (.iconst 0, 1) := by decide +kernel
theorem dX10_feed_2 : decode cX10_feed 2 = .ok (.putfield 1, 3) := by decide +kernel
theorem dX10_feed_5 : decode cX10_feed 5 = .ok (.aload_n 0, 1) := by decide +kernel
theorem dX10_feed_6 : decode cX10_feed 6 = .ok (.getfield 11, 3) := by decide +kernel
theorem dX10_feed_9 : decode cX10_feed 9 = .ok (.bipush 20, 2) := by decide +kernel
theorem dX10_feed_11 : decode cX10_feed 11 = .ok (.iadd, 1) := by decide +kernel
theorem dX10_feed_12 : decode cX10_feed 12 = .ok (.sipush 640, 3) := by decide +kernel
theorem dX10_feed_15 : decode cX10_feed 15 = .ok (.if_icmp .le 5, 3) := by decide +kernel
theorem dX10_feed_18 : decode cX10_feed 18 = .ok (.iconst (-1), 1) := by decide +kernel
theorem dX10_feed_19 : decode cX10_feed 19 = .ok (.ireturn, 1) := by decide +kernel
theorem dX10_feed_20 : decode cX10_feed 20 = .ok (.aload_n 0, 1) := by decide +kernel
theorem dX10_feed_21 : decode cX10_feed 21 = .ok (.iload_n 1, 1) := by decide +kernel
theorem dX10_feed_22 : decode cX10_feed 22 = .ok (.invokevirtual 14, 3) := by decide +kernel
theorem dX10_feed_25 : decode cX10_feed 25 = .ok (.aload_n 0, 1) := by decide +kernel
theorem dX10_feed_26 : decode cX10_feed 26 = .ok (.iload_n 2, 1) := by decide +kernel
theorem dX10_feed_27 : decode cX10_feed 27 = .ok (.invokevirtual 14, 3) := by decide +kernel
theorem dX10_feed_30 : decode cX10_feed 30 = .ok (.aload_n 0, 1) := by decide +kernel
theorem dX10_feed_31 : decode cX10_feed 31 = .ok (.iload_n 3, 1) := by decide +kernel
