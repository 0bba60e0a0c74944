theorem dX0_init_0 : decode cX0_init 0 = .ok (.aload_n 0, 1) := by decide +kernel
theorem dX0_init_1 : decode cX0_init 1 = .ok (.invokespecial 3, 3) := by decide +kernel
theorem dX0_init_4 : decode cX0_init 4 = .ok (.aload_n 0, 1) := by decide +kernel
theorem dX0_init_5 : decode cX0_init 5 = .ok (.bipush 8, 2) := by decide +kernel
theorem dX0_init_7 : decode cX0_init 7 = .ok (.anewarray 11, 3) := by decide +kernel
theorem dX0_init_10 : decode cX0_init 10 = .ok (.putfield 13, 3) := by decide +kernel
theorem dX0_init_13 : decode cX0_init 13 = .ok (.aload_n 0, 1) := by decide +kernel
theorem dX0_init_14 : decode cX0_init 14 = .ok (.bipush 7, 2) := by decide +kernel
theorem dX0_init_16 : decode cX0_init 16 = .ok (.newarray .int, 2) := by decide +kernel
theorem dX0_init_18 : decode cX0_init 18 = .ok (.putfield 17, 3) := by decide +kernel
theorem dX0_init_21 : decode cX0_init 21 = .ok (.aload_n 0, 1) := by decide +kernel
theorem dX0_init_22 : decode cX0_init 22 = .ok (.bipush 48, 2) := by decide +kernel
theorem dX0_init_24 : decode cX0_init 24 = .ok (.newarray .int, 2) := by decide +kernel
theorem dX0_init_26 : decode cX0_init 26 = .ok (.putfield 21, 3) := by decide +kernel
theorem dX0_init_29 : decode cX0_init 29 = .ok (.aload_n 0, 1) := by decide +kernel
theorem dX0_init_30 : decode cX0_init 30 = .ok (.new 11, 3) := by decide +kernel
theorem dX0_init_33 : decode cX0_init 33 = .ok (.dup, 1) := by decide +kernel
theorem dX0_init_34 : decode cX0_init 34 = .ok (.invokespecial 24, 3) := by decide +kernel
theorem dX0_init_37 : decode cX0_init 37 = .ok (.putfield 25, 3) := by decide +kernel
theorem dX0_init_40 : decode cX0_init 40 = .ok (.iconst 0, 1) := by decide +kernel
theorem dX0_init_41 : decode cX0_init 41 = .ok (.istore_n 1, 1) := by decide +kernel
theorem dX0_init_42 : decode cX0_init 42 = .ok (.iload_n 1, 1) := by decide +kernel
theorem dX0_init_43 : decode cX0_init 43 = .ok (.bipush 8, 2) := by decide +kernel
theorem dX0_init_45 : decode cX0_init 45 = .ok (.if_icmp .ge 22, 3) := by decide +kernel
theorem dX0_init_48 : decode cX0_init 48 = .ok (.aload_n 0, 1) := by decide +kernel
theorem dX0_init_49 : decode cX0_init 49 = .ok (.getfield 13, 3) := by decide +kernel
theorem dX0_init_52 : decode cX0_init 52 = .ok (.iload_n 1, 1) := by decide +kernel
theorem dX0_init_53 : decode cX0_init 53 = .ok (.new 11, 3) := by decide +kernel
theorem dX0_init_56 : decode cX0_init 56 = .ok (.dup, 1) := by decide +kernel
theorem dX0_init_57 : decode cX0_init 57 = .ok (.invokespecial 24, 3) := by decide +kernel
theorem dX0_init_60 : decode cX0_init 60 = .ok (.aastore, 1) := by decide +kernel
theorem dX0_init_61 : decode cX0_init 61 = .ok (.iinc 1 1, 3) := by decide +kernel
theorem dX0_init_64 : decode cX0_init 64 = .ok (.goto (-22), 3) := by decide +kernel
theorem dX0_init_67 : decode cX0_init 67 = .ok (.return_, 1) := by decide +kernel
theorem dX0_evaluate_0 : decode cX0_evaluate 0 = .ok (.aload_n 0, 1) := by decide +kernel
theorem dX0_evaluate_1 : decode cX0_evaluate 1 = .ok (.iconst 0, 1) := by decide +kernel
theorem dX0_evaluate_2 : decode cX0_evaluate 2 = .ok (.putfield 29, 3) := by decide +kernel
theorem dX0_evaluate_5 : decode cX0_evaluate 5 = .ok (.aload_n 0, 1) := by decide +kernel
theorem dX0_evaluate_6 : decode cX0_evaluate 6 = .ok (.iconst 0, 1) := by decide +kernel
theorem dX0_evaluate_7 : decode cX0_evaluate 7 = .ok (.putfield 33, 3) := by decide +kernel
theorem dX0_evaluate_10 : decode cX0_evaluate 10 = .ok (.aload_n 0, 1) := by decide +kernel
theorem dX0_evaluate_11 : decode cX0_evaluate 11 = .ok (.iconst 0, 1) := by decide +kernel
theorem dX0_evaluate_12 : decode cX0_evaluate 12 = .ok (.putfield 36, 3) := by decide +kernel
theorem dX0_evaluate_15 : decode cX0_evaluate 15 = .ok (.aload_n 0, 1) := by decide +kernel
theorem dX0_evaluate_16 : decode cX0_evaluate 16 = .ok (.getfield 17, 3) := by decide +kernel
theorem dX0_evaluate_19 : decode cX0_evaluate 19 = .ok (.iconst 0, 1) := by decide +kernel
theorem dX0_evaluate_20 : decode cX0_evaluate 20 = .ok (.iconst (-1), 1) := by decide +kernel
theorem dX0_evaluate_21 : decode cX0_evaluate 21 = .ok (.iastore, 1) := by decide +kernel
theorem dX0_evaluate_22 : decode cX0_evaluate 22 = .ok (.aload_n 1, 1) := by decide +kernel
theorem dX0_evaluate_23 : decode cX0_evaluate 23 = .ok (.getfield 39, 3) := by decide +kernel
theorem dX0_evaluate_26 : decode cX0_evaluate 26 = .ok (.iconst 1, 1) := by decide +kernel
theorem dX0_evaluate_27 : decode cX0_evaluate 27 = .ok (.isub, 1) := by decide +kernel
theorem dX0_evaluate_28 : decode cX0_evaluate 28 = .ok (.istore_n 3, 1) := by decide +kernel
theorem dX0_evaluate_29 : decode cX0_evaluate 29 = .ok (.iload_n 3, 1) := by decide +kernel
theorem dX0_evaluate_30 : decode cX0_evaluate 30 = .ok (.ifCond .lt 75, 3) := by decide +kernel
theorem dX0_evaluate_33 : decode cX0_evaluate 33 = .ok (.aload_n 1, 1) := by decide +kernel
theorem dX0_evaluate_34 : decode cX0_evaluate 34 = .ok (.getfield 44, 3) := by decide +kernel
theorem dX0_evaluate_37 : decode cX0_evaluate 37 = .ok (.iload_n 3, 1) := by decide +kernel
theorem dX0_evaluate_38 : decode cX0_evaluate 38 = .ok (.iaload, 1) := by decide +kernel
theorem dX0_evaluate_39 : decode cX0_evaluate 39 = .ok (.iconst 4, 1) := by decide +kernel
theorem dX0_evaluate_40 : decode cX0_evaluate 40 = .ok (.if_icmp .ne 12, 3) := by decide +kernel
theorem dX0_evaluate_43 : decode cX0_evaluate 43 = .ok (.aload_n 0, 1) := by decide +kernel
theorem dX0_evaluate_44 : decode cX0_evaluate 44 = .ok (.aload_n 1, 1) := by decide +kernel
theorem dX0_evaluate_45 : decode cX0_evaluate 45 = .ok (.iload_n 3, 1) := by decide +kernel
theorem dX0_evaluate_46 : decode cX0_evaluate 46 = .ok (.invokevirtual 47, 3) := by decide +kernel
theorem dX0_evaluate_49 : decode cX0_evaluate 49 = .ok (.goto 50, 3) := by decide +kernel
theorem dX0_evaluate_52 : decode cX0_evaluate 52 = .ok (.aload_n 0, 1) := by decide +kernel
theorem dX0_evaluate_53 : decode cX0_evaluate 53 = .ok (.aload_n 1, 1) := by decide +kernel
theorem dX0_evaluate_54 : decode cX0_evaluate 54 = .ok (.iload_n 3, 1) := by decide +kernel
theorem dX0_evaluate_55 : decode cX0_evaluate 55 = .ok (.aload_n 2, 1) := by decide +kernel
theorem dX0_evaluate_56 : decode cX0_evaluate 56 = .ok (.invokevirtual 51, 3) := by decide +kernel
theorem dX0_evaluate_59 : decode cX0_evaluate 59 = .ok (.ifCond .eq 40, 3) := by decide +kernel
theorem dX0_evaluate_62 : decode cX0_evaluate 62 = .ok (.aload_n 0, 1) := by decide +kernel
theorem dX0_evaluate_63 : decode cX0_evaluate 63 = .ok (.getfield 17, 3) := by decide +kernel
theorem dX0_evaluate_66 : decode cX0_evaluate 66 = .ok (.aload_n 0, 1) := by decide +kernel
theorem dX0_evaluate_67 : decode cX0_evaluate 67 = .ok (.getfield 33, 3) := by decide +kernel
theorem dX0_evaluate_70 : decode cX0_evaluate 70 = .ok (.iaload, 1) := by decide +kernel
theorem dX0_evaluate_71 : decode cX0_evaluate 71 = .ok (.iconst (-1), 1) := by decide +kernel
theorem dX0_evaluate_72 : decode cX0_evaluate 72 = .ok (.if_icmp .eq 27, 3) := by decide +kernel
theorem dX0_evaluate_75 : decode cX0_evaluate 75 = .ok (.aload_n 0, 1) := by decide +kernel
theorem dX0_evaluate_76 : decode cX0_evaluate 76 = .ok (.aload_n 1, 1) := by decide +kernel
theorem dX0_evaluate_77 : decode cX0_evaluate 77 = .ok (.aload_n 0, 1) := by decide +kernel
theorem dX0_evaluate_78 : decode cX0_evaluate 78 = .ok (.getfield 17, 3) := by decide +kernel
theorem dX0_evaluate_81 : decode cX0_evaluate 81 = .ok (.aload_n 0, 1) := by decide +kernel
theorem dX0_evaluate_82 : decode cX0_evaluate 82 = .ok (.getfield 33, 3) := by decide +kernel
theorem dX0_evaluate_85 : decode cX0_evaluate 85 = .ok (.iaload, 1) := by decide +kernel
theorem dX0_evaluate_86 : decode cX0_evaluate 86 = .ok (.invokevirtual 55, 3) := by decide +kernel
theorem dX0_evaluate_89 : decode cX0_evaluate 89 = .ok (.aload_n 0, 1) := by decide +kernel
theorem dX0_evaluate_90 : decode cX0_evaluate 90 = .ok (.getfield 17, 3) := by decide +kernel
theorem dX0_evaluate_93 : decode cX0_evaluate 93 = .ok (.aload_n 0, 1) := by decide +kernel
theorem dX0_evaluate_94 : decode cX0_evaluate 94 = .ok (.getfield 33, 3) := by decide +kernel
theorem dX0_evaluate_97 : decode cX0_evaluate 97 = .ok (.iconst (-1), 1) := by decide +kernel
theorem dX0_evaluate_98 : decode cX0_evaluate 98 = .ok (.iastore, 1) := by decide +kernel
theorem dX0_evaluate_99 : decode cX0_evaluate 99 = .ok (.iinc 3 (-1), 3) := by decide +kernel
theorem dX0_evaluate_102 : decode cX0_evaluate 102 = .ok (.goto (-73), 3) := by decide +kernel
theorem dX0_evaluate_105 : decode cX0_evaluate 105 = .ok (.aload_n 0, 1) := by decide +kernel
theorem dX0_evaluate_106 : decode cX0_evaluate 106 = .ok (.getfield 13, 3) := by decide +kernel
theorem dX0_evaluate_109 : decode cX0_evaluate 109 = .ok (.iconst 0, 1) := by decide +kernel
theorem dX0_evaluate_110 : decode cX0_evaluate 110 = .ok (.aaload, 1) := by decide +kernel
theorem dX0_evaluate_111 : decode cX0_evaluate 111 = .ok (.areturn, 1) := by decide +kernel
theorem dX0_endsTerm_0 : decode cX0_endsTerm 0 = .ok (.aload_n 1, 1) := by decide +kernel
theorem dX0_endsTerm_1 : decode cX0_endsTerm 1 = .ok (.getfield 44, 3) := by decide +kernel
theorem dX0_endsTerm_4 : decode cX0_endsTerm 4 = .ok (.iload_n 2, 1) := by decide +kernel
theorem dX0_endsTerm_5 : decode cX0_endsTerm 5 = .ok (.iaload, 1) := by decide +kernel
theorem dX0_endsTerm_6 : decode cX0_endsTerm 6 = .ok (.tableswitch 114 1 5 #[80, 68, 34, 114, 56], 34) := by decide +kernel
theorem dX0_endsTerm_40 : decode cX0_endsTerm 40 = .ok (.aload_n 0, 1) := by decide +kernel
theorem dX0_endsTerm_41 : decode cX0_endsTerm 41 = .ok (.dup, 1) := by decide +kernel
theorem dX0_endsTerm_42 : decode cX0_endsTerm 42 = .ok (.getfield 33, 3) := by decide +kernel
theorem dX0_endsTerm_45 : decode cX0_endsTerm 45 = .ok (.iconst 1, 1) := by decide +kernel
theorem dX0_endsTerm_46 : decode cX0_endsTerm 46 = .ok (.iadd, 1) := by decide +kernel
theorem dX0_endsTerm_47 : decode cX0_endsTerm 47 = .ok (.putfield 33, 3) := by decide +kernel
theorem dX0_endsTerm_50 : decode cX0_endsTerm 50 = .ok (.aload_n 0, 1) := by decide +kernel
theorem dX0_endsTerm_51 : decode cX0_endsTerm 51 = .ok (.getfield 17, 3) := by decide +kernel
theorem dX0_endsTerm_54 : decode cX0_endsTerm 54 = .ok (.aload_n 0, 1) := by decide +kernel
theorem dX0_endsTerm_55 : decode cX0_endsTerm 55 = .ok (.getfield 33, 3) := by decide +kernel
theorem dX0_endsTerm_58 : decode cX0_endsTerm 58 = .ok (.iconst (-1), 1) := by decide +kernel
theorem dX0_endsTerm_59 : decode cX0_endsTerm 59 = .ok (.iastore, 1) := by decide +kernel
theorem dX0_endsTerm_60 : decode cX0_endsTerm 60 = .ok (.iconst 0, 1) := by decide +kernel
theorem dX0_endsTerm_61 : decode cX0_endsTerm 61 = .ok (.ireturn, 1) := by decide +kernel
theorem dX0_endsTerm_62 : decode cX0_endsTerm 62 = .ok (.aload_n 0, 1) := by decide +kernel
theorem dX0_endsTerm_63 : decode cX0_endsTerm 63 = .ok (.getfield 17, 3) := by decide +kernel
theorem dX0_endsTerm_66 : decode cX0_endsTerm 66 = .ok (.aload_n 0, 1) := by decide +kernel
theorem dX0_endsTerm_67 : decode cX0_endsTerm 67 = .ok (.getfield 33, 3) := by decide +kernel
theorem dX0_endsTerm_70 : decode cX0_endsTerm 70 = .ok (.iload_n 2, 1) := by decide +kernel
theorem dX0_endsTerm_71 : decode cX0_endsTerm 71 = .ok (.iastore, 1) := by decide +kernel
theorem dX0_endsTerm_72 : decode cX0_endsTerm 72 = .ok (.iconst 0, 1) := by decide +kernel
theorem dX0_endsTerm_73 : decode cX0_endsTerm 73 = .ok (.ireturn, 1) := by decide +kernel
theorem dX0_endsTerm_74 : decode cX0_endsTerm 74 = .ok (.aload_n 0, 1) := by decide +kernel
theorem dX0_endsTerm_75 : decode cX0_endsTerm 75 = .ok (.dup, 1) := by decide +kernel
theorem dX0_endsTerm_76 : decode cX0_endsTerm 76 = .ok (.getfield 33, 3) := by decide +kernel
theorem dX0_endsTerm_79 : decode cX0_endsTerm 79 = .ok (.iconst 1, 1) := by decide +kernel
theorem dX0_endsTerm_80 : decode cX0_endsTerm 80 = .ok (.isub, 1) := by decide +kernel
theorem dX0_endsTerm_81 : decode cX0_endsTerm 81 = .ok (.putfield 33, 3) := by decide +kernel
theorem dX0_endsTerm_84 : decode cX0_endsTerm 84 = .ok (.iconst 1, 1) := by decide +kernel
theorem dX0_endsTerm_85 : decode cX0_endsTerm 85 = .ok (.ireturn, 1) := by decide +kernel
theorem dX0_endsTerm_86 : decode cX0_endsTerm 86 = .ok (.aload_n 0, 1) := by decide +kernel
theorem dX0_endsTerm_87 : decode cX0_endsTerm 87 = .ok (.getfield 13, 3) := by decide +kernel
theorem dX0_endsTerm_90 : decode cX0_endsTerm 90 = .ok (.aload_n 0, 1) := by decide +kernel
theorem dX0_endsTerm_91 : decode cX0_endsTerm 91 = .ok (.getfield 29, 3) := by decide +kernel
theorem dX0_endsTerm_94 : decode cX0_endsTerm 94 = .ok (.aaload, 1) := by decide +kernel
theorem dX0_endsTerm_95 : decode cX0_endsTerm 95 = .ok (.aload_n 3, 1) := by decide +kernel
theorem dX0_endsTerm_96 : decode cX0_endsTerm 96 = .ok (.aload_n 1, 1) := by decide +kernel
theorem dX0_endsTerm_97 : decode cX0_endsTerm 97 = .ok (.getfield 58, 3) := by decide +kernel
theorem dX0_endsTerm_100 : decode cX0_endsTerm 100 = .ok (.iload_n 2, 1) := by decide +kernel
theorem dX0_endsTerm_101 : decode cX0_endsTerm 101 = .ok (.iaload, 1) := by decide +kernel
theorem dX0_endsTerm_102 : decode cX0_endsTerm 102 = .ok (.invokevirtual 61, 3) := by decide +kernel
theorem dX0_endsTerm_105 : decode cX0_endsTerm 105 = .ok (.invokevirtual 67, 3) := by decide +kernel
theorem dX0_endsTerm_108 : decode cX0_endsTerm 108 = .ok (.aload_n 0, 1) := by decide +kernel
theorem dX0_endsTerm_109 : decode cX0_endsTerm 109 = .ok (.dup, 1) := by decide +kernel
theorem dX0_endsTerm_110 : decode cX0_endsTerm 110 = .ok (.getfield 29, 3) := by decide +kernel
theorem dX0_endsTerm_113 : decode cX0_endsTerm 113 = .ok (.iconst 1, 1) := by decide +kernel
theorem dX0_endsTerm_114 : decode cX0_endsTerm 114 = .ok (.iadd, 1) := by decide +kernel
theorem dX0_endsTerm_115 : decode cX0_endsTerm 115 = .ok (.putfield 29, 3) := by decide +kernel
theorem dX0_endsTerm_118 : decode cX0_endsTerm 118 = .ok (.iconst 1, 1) := by decide +kernel
theorem dX0_endsTerm_119 : decode cX0_endsTerm 119 = .ok (.ireturn, 1) := by decide +kernel
theorem dX0_endsTerm_120 : decode cX0_endsTerm 120 = .ok (.aload_n 0, 1) := by decide +kernel
theorem dX0_endsTerm_121 : decode cX0_endsTerm 121 = .ok (.aload_n 1, 1) := by decide +kernel
theorem dX0_endsTerm_122 : decode cX0_endsTerm 122 = .ok (.iload_n 2, 1) := by decide +kernel
theorem dX0_endsTerm_123 : decode cX0_endsTerm 123 = .ok (.invokevirtual 71, 3) := by decide +kernel
theorem dX0_endsTerm_126 : decode cX0_endsTerm 126 = .ok (.iconst 1, 1) := by decide +kernel
theorem dX0_endsTerm_127 : decode cX0_endsTerm 127 = .ok (.ireturn, 1) := by decide +kernel
theorem dX0_pushNumbers_0 : decode cX0_pushNumbers 0 = .ok (.aload_n 1, 1) := by decide +kernel
theorem dX0_pushNumbers_1 : decode cX0_pushNumbers 1 = .ok (.getfield 74, 3) := by decide +kernel
theorem dX0_pushNumbers_4 : decode cX0_pushNumbers 4 = .ok (.iload_n 2, 1) := by decide +kernel
theorem dX0_pushNumbers_5 : decode cX0_pushNumbers 5 = .ok (.iaload, 1) := by decide +kernel
theorem dX0_pushNumbers_6 : decode cX0_pushNumbers 6 = .ok (.istore_n 3, 1) := by decide +kernel
theorem dX0_pushNumbers_7 : decode cX0_pushNumbers 7 = .ok (.aload_n 0, 1) := by decide +kernel
theorem dX0_pushNumbers_8 : decode cX0_pushNumbers 8 = .ok (.getfield 13, 3) := by decide +kernel
theorem dX0_pushNumbers_11 : decode cX0_pushNumbers 11 = .ok (.aload_n 0, 1) := by decide +kernel
theorem dX0_pushNumbers_12 : decode cX0_pushNumbers 12 = .ok (.getfield 29, 3) := by decide +kernel
theorem dX0_pushNumbers_15 : decode cX0_pushNumbers 15 = .ok (.aaload, 1) := by decide +kernel
theorem dX0_pushNumbers_16 : decode cX0_pushNumbers 16 = .ok (.astore 4, 2) := by decide +kernel
theorem dX0_pushNumbers_18 : decode cX0_pushNumbers 18 = .ok (.aload 4, 2) := by decide +kernel
theorem dX0_pushNumbers_20 : decode cX0_pushNumbers 20 = .ok (.invokevirtual 77, 3) := by decide +kernel
theorem dX0_pushNumbers_23 : decode cX0_pushNumbers 23 = .ok (.iload_n 3, 1) := by decide +kernel
theorem dX0_pushNumbers_24 : decode cX0_pushNumbers 24 = .ok (.iconst 1, 1) := by decide +kernel
theorem dX0_pushNumbers_25 : decode cX0_pushNumbers 25 = .ok (.if_icmp .le 9, 3) := by decide +kernel
theorem dX0_pushNumbers_28 : decode cX0_pushNumbers 28 = .ok (.aload 4, 2) := by decide +kernel
theorem dX0_pushNumbers_30 : decode cX0_pushNumbers 30 = .ok (.iload_n 3, 1) := by decide +kernel
theorem dX0_pushNumbers_31 : decode cX0_pushNumbers 31 = .ok (.invokevirtual 80, 3) := by decide +kernel
theorem dX0_pushNumbers_34 : decode cX0_pushNumbers 34 = .ok (.aload_n 1, 1) := by decide +kernel
theorem dX0_pushNumbers_35 : decode cX0_pushNumbers 35 = .ok (.getfield 84, 3) := by decide +kernel
theorem dX0_pushNumbers_38 : decode cX0_pushNumbers 38 = .ok (.aload_n 1, 1) := by decide +kernel
theorem dX0_pushNumbers_39 : decode cX0_pushNumbers 39 = .ok (.getfield 58, 3) := by decide +kernel
theorem dX0_pushNumbers_42 : decode cX0_pushNumbers 42 = .ok (.iload_n 2, 1) := by decide +kernel
theorem dX0_pushNumbers_43 : decode cX0_pushNumbers 43 = .ok (.iaload, 1) := by decide +kernel
theorem dX0_pushNumbers_44 : decode cX0_pushNumbers 44 = .ok (.aload 4, 2) := by decide +kernel
theorem dX0_pushNumbers_46 : decode cX0_pushNumbers 46 = .ok (.getfield 87, 3) := by decide +kernel
theorem dX0_pushNumbers_49 : decode cX0_pushNumbers 49 = .ok (.iconst 0, 1) := by decide +kernel
theorem dX0_pushNumbers_50 : decode cX0_pushNumbers 50 = .ok (.iload_n 3, 1) := by decide +kernel
theorem dX0_pushNumbers_51 : decode cX0_pushNumbers 51 = .ok (.invokestatic 90, 3) := by decide +kernel
theorem dX0_pushNumbers_54 : decode cX0_pushNumbers 54 = .ok (.aload_n 0, 1) := by decide +kernel
theorem dX0_pushNumbers_55 : decode cX0_pushNumbers 55 = .ok (.dup, 1) := by decide +kernel
theorem dX0_pushNumbers_56 : decode cX0_pushNumbers 56 = .ok (.getfield 29, 3) := by decide +kernel
theorem dX0_pushNumbers_59 : decode cX0_pushNumbers 59 = .ok (.iconst 1, 1) := by decide +kernel
theorem dX0_pushNumbers_60 : decode cX0_pushNumbers 60 = .ok (.iadd, 1) := by decide +kernel
theorem dX0_pushNumbers_61 : decode cX0_pushNumbers 61 = .ok (.putfield 29, 3) := by decide +kernel
theorem dX0_pushNumbers_64 : decode cX0_pushNumbers 64 = .ok (.return_, 1) := by decide +kernel
theorem dX0_workOnOne_0 : decode cX0_workOnOne 0 = .ok (.aload_n 1, 1) := by decide +kernel
theorem dX0_workOnOne_1 : decode cX0_workOnOne 1 = .ok (.getfield 96, 3) := by decide +kernel
theorem dX0_workOnOne_4 : decode cX0_workOnOne 4 = .ok (.iload_n 2, 1) := by decide +kernel
theorem dX0_workOnOne_5 : decode cX0_workOnOne 5 = .ok (.caload, 1) := by decide +kernel
theorem dX0_workOnOne_6 : decode cX0_workOnOne 6 = .ok (.istore_n 3, 1) := by decide +kernel
theorem dX0_workOnOne_7 : decode cX0_workOnOne 7 = .ok (.aload_n 1, 1) := by decide +kernel
theorem dX0_workOnOne_8 : decode cX0_workOnOne 8 = .ok (.getfield 100, 3) := by decide +kernel
theorem dX0_workOnOne_11 : decode cX0_workOnOne 11 = .ok (.iload_n 2, 1) := by decide +kernel
theorem dX0_workOnOne_12 : decode cX0_workOnOne 12 = .ok (.caload, 1) := by decide +kernel
theorem dX0_workOnOne_13 : decode cX0_workOnOne 13 = .ok (.istore 4, 2) := by decide +kernel
theorem dX0_workOnOne_15 : decode cX0_workOnOne 15 = .ok (.aload_n 0, 1) := by decide +kernel
theorem dX0_workOnOne_16 : decode cX0_workOnOne 16 = .ok (.getfield 13, 3) := by decide +kernel
theorem dX0_workOnOne_19 : decode cX0_workOnOne 19 = .ok (.aload_n 0, 1) := by decide +kernel
theorem dX0_workOnOne_20 : decode cX0_workOnOne 20 = .ok (.getfield 29, 3) := by decide +kernel
theorem dX0_workOnOne_23 : decode cX0_workOnOne 23 = .ok (.iconst 1, 1) := by decide +kernel
theorem dX0_workOnOne_24 : decode cX0_workOnOne 24 = .ok (.isub, 1) := by decide +kernel
theorem dX0_workOnOne_25 : decode cX0_workOnOne 25 = .ok (.aaload, 1) := by decide +kernel
theorem dX0_workOnOne_26 : decode cX0_workOnOne 26 = .ok (.astore 5, 2) := by decide +kernel
theorem dX0_workOnOne_28 : decode cX0_workOnOne 28 = .ok (.aload_n 0, 1) := by decide +kernel
theorem dX0_workOnOne_29 : decode cX0_workOnOne 29 = .ok (.getfield 25, 3) := by decide +kernel
theorem dX0_workOnOne_32 : decode cX0_workOnOne 32 = .ok (.invokevirtual 77, 3) := by decide +kernel
theorem dX0_workOnOne_35 : decode cX0_workOnOne 35 = .ok (.iload 4, 2) := by decide +kernel
theorem dX0_workOnOne_37 : decode cX0_workOnOne 37 = .ok (.bipush 47, 2) := by decide +kernel
theorem dX0_workOnOne_39 : decode cX0_workOnOne 39 = .ok (.if_icmp .ne 16, 3) := by decide +kernel
theorem dX0_workOnOne_42 : decode cX0_workOnOne 42 = .ok (.iload_n 3, 1) := by decide +kernel
theorem dX0_workOnOne_43 : decode cX0_workOnOne 43 = .ok (.aload 5, 2) := by decide +kernel
theorem dX0_workOnOne_45 : decode cX0_workOnOne 45 = .ok (.aload_n 0, 1) := by decide +kernel
theorem dX0_workOnOne_46 : decode cX0_workOnOne 46 = .ok (.getfield 25, 3) := by decide +kernel
theorem dX0_workOnOne_49 : decode cX0_workOnOne 49 = .ok (.invokestatic 103, 3) := by decide +kernel
theorem dX0_workOnOne_52 : decode cX0_workOnOne 52 = .ok (.goto 55, 3) := by decide +kernel
theorem dX0_workOnOne_55 : decode cX0_workOnOne 55 = .ok (.iload 4, 2) := by decide +kernel
theorem dX0_workOnOne_57 : decode cX0_workOnOne 57 = .ok (.bipush 92, 2) := by decide +kernel
theorem dX0_workOnOne_59 : decode cX0_workOnOne 59 = .ok (.if_icmp .ne 16, 3) := by decide +kernel
theorem dX0_workOnOne_62 : decode cX0_workOnOne 62 = .ok (.iload_n 3, 1) := by decide +kernel
theorem dX0_workOnOne_63 : decode cX0_workOnOne 63 = .ok (.aload 5, 2) := by decide +kernel
theorem dX0_workOnOne_65 : decode cX0_workOnOne 65 = .ok (.aload_n 0, 1) := by decide +kernel
theorem dX0_workOnOne_66 : decode cX0_workOnOne 66 = .ok (.getfield 25, 3) := by decide +kernel
theorem dX0_workOnOne_69 : decode cX0_workOnOne 69 = .ok (.invokestatic 109, 3) := by decide +kernel
theorem dX0_workOnOne_72 : decode cX0_workOnOne 72 = .ok (.goto 35, 3) := by decide +kernel
theorem dX0_workOnOne_75 : decode cX0_workOnOne 75 = .ok (.ldc 112, 2) := by decide +kernel
theorem dX0_workOnOne_77 : decode cX0_workOnOne 77 = .ok (.iload_n 3, 1) := by decide +kernel
theorem dX0_workOnOne_78 : decode cX0_workOnOne 78 = .ok (.invokevirtual 114, 3) := by decide +kernel
theorem dX0_workOnOne_81 : decode cX0_workOnOne 81 = .ok (.ifCond .lt 16, 3) := by decide +kernel
theorem dX0_workOnOne_84 : decode cX0_workOnOne 84 = .ok (.iload_n 3, 1) := by decide +kernel
theorem dX0_workOnOne_85 : decode cX0_workOnOne 85 = .ok (.aload 5, 2) := by decide +kernel
theorem dX0_workOnOne_87 : decode cX0_workOnOne 87 = .ok (.aload_n 0, 1) := by decide +kernel
theorem dX0_workOnOne_88 : decode cX0_workOnOne 88 = .ok (.getfield 25, 3) := by decide +kernel
theorem dX0_workOnOne_91 : decode cX0_workOnOne 91 = .ok (.invokestatic 120, 3) := by decide +kernel
theorem dX0_workOnOne_94 : decode cX0_workOnOne 94 = .ok (.goto 13, 3) := by decide +kernel
theorem dX0_workOnOne_97 : decode cX0_workOnOne 97 = .ok (.iload_n 3, 1) := by decide +kernel
theorem dX0_workOnOne_98 : decode cX0_workOnOne 98 = .ok (.aload 5, 2) := by decide +kernel
theorem dX0_workOnOne_100 : decode cX0_workOnOne 100 = .ok (.aload_n 0, 1) := by decide +kernel
theorem dX0_workOnOne_101 : decode cX0_workOnOne 101 = .ok (.getfield 25, 3) := by decide +kernel
theorem dX0_workOnOne_104 : decode cX0_workOnOne 104 = .ok (.invokestatic 125, 3) := by decide +kernel
theorem dX0_workOnOne_107 : decode cX0_workOnOne 107 = .ok (.aload_n 0, 1) := by decide +kernel
theorem dX0_workOnOne_108 : decode cX0_workOnOne 108 = .ok (.invokevirtual 128, 3) := by decide +kernel
theorem dX0_workOnOne_111 : decode cX0_workOnOne 111 = .ok (.return_, 1) := by decide +kernel
theorem dX0_workOnTwo_0 : decode cX0_workOnTwo 0 = .ok (.aload_n 1, 1) := by decide +kernel
theorem dX0_workOnTwo_1 : decode cX0_workOnTwo 1 = .ok (.getfield 96, 3) := by decide +kernel
theorem dX0_workOnTwo_4 : decode cX0_workOnTwo 4 = .ok (.iload_n 2, 1) := by decide +kernel
theorem dX0_workOnTwo_5 : decode cX0_workOnTwo 5 = .ok (.caload, 1) := by decide +kernel
theorem dX0_workOnTwo_6 : decode cX0_workOnTwo 6 = .ok (.istore_n 3, 1) := by decide +kernel
theorem dX0_workOnTwo_7 : decode cX0_workOnTwo 7 = .ok (.aload_n 1, 1) := by decide +kernel
theorem dX0_workOnTwo_8 : decode cX0_workOnTwo 8 = .ok (.getfield 100, 3) := by decide +kernel
theorem dX0_workOnTwo_11 : decode cX0_workOnTwo 11 = .ok (.iload_n 2, 1) := by decide +kernel
theorem dX0_workOnTwo_12 : decode cX0_workOnTwo 12 = .ok (.caload, 1) := by decide +kernel
theorem dX0_workOnTwo_13 : decode cX0_workOnTwo 13 = .ok (.istore 4, 2) := by decide +kernel
theorem dX0_workOnTwo_15 : decode cX0_workOnTwo 15 = .ok (.aload_n 0, 1) := by decide +kernel
theorem dX0_workOnTwo_16 : decode cX0_workOnTwo 16 = .ok (.getfield 13, 3) := by decide +kernel
theorem dX0_workOnTwo_19 : decode cX0_workOnTwo 19 = .ok (.aload_n 0, 1) := by decide +kernel
theorem dX0_workOnTwo_20 : decode cX0_workOnTwo 20 = .ok (.getfield 29, 3) := by decide +kernel
theorem dX0_workOnTwo_23 : decode cX0_workOnTwo 23 = .ok (.iconst 1, 1) := by decide +kernel
theorem dX0_workOnTwo_24 : decode cX0_workOnTwo 24 = .ok (.isub, 1) := by decide +kernel
theorem dX0_workOnTwo_25 : decode cX0_workOnTwo 25 = .ok (.aaload, 1) := by decide +kernel
theorem dX0_workOnTwo_26 : decode cX0_workOnTwo 26 = .ok (.astore 5, 2) := by decide +kernel
theorem dX0_workOnTwo_28 : decode cX0_workOnTwo 28 = .ok (.aload_n 0, 1) := by decide +kernel
theorem dX0_workOnTwo_29 : decode cX0_workOnTwo 29 = .ok (.getfield 13, 3) := by decide +kernel
theorem dX0_workOnTwo_32 : decode cX0_workOnTwo 32 = .ok (.aload_n 0, 1) := by decide +kernel
theorem dX0_workOnTwo_33 : decode cX0_workOnTwo 33 = .ok (.getfield 29, 3) := by decide +kernel
theorem dX0_workOnTwo_36 : decode cX0_workOnTwo 36 = .ok (.iconst 2, 1) := by decide +kernel
theorem dX0_workOnTwo_37 : decode cX0_workOnTwo 37 = .ok (.isub, 1) := by decide +kernel
theorem dX0_workOnTwo_38 : decode cX0_workOnTwo 38 = .ok (.aaload, 1) := by decide +kernel
theorem dX0_workOnTwo_39 : decode cX0_workOnTwo 39 = .ok (.astore 6, 2) := by decide +kernel
theorem dX0_workOnTwo_41 : decode cX0_workOnTwo 41 = .ok (.aload_n 0, 1) := by decide +kernel
theorem dX0_workOnTwo_42 : decode cX0_workOnTwo 42 = .ok (.getfield 25, 3) := by decide +kernel
theorem dX0_workOnTwo_45 : decode cX0_workOnTwo 45 = .ok (.invokevirtual 77, 3) := by decide +kernel
theorem dX0_workOnTwo_48 : decode cX0_workOnTwo 48 = .ok (.iload 4, 2) := by decide +kernel
theorem dX0_workOnTwo_50 : decode cX0_workOnTwo 50 = .ok (.bipush 46, 2) := by decide +kernel
theorem dX0_workOnTwo_52 : decode cX0_workOnTwo 52 = .ok (.if_icmp .ne 28, 3) := by decide +kernel
theorem dX0_workOnTwo_55 : decode cX0_workOnTwo 55 = .ok (.iload_n 3, 1) := by decide +kernel
theorem dX0_workOnTwo_56 : decode cX0_workOnTwo 56 = .ok (.aload_n 1, 1) := by decide +kernel
theorem dX0_workOnTwo_57 : decode cX0_workOnTwo 57 = .ok (.getfield 131, 3) := by decide +kernel
theorem dX0_workOnTwo_60 : decode cX0_workOnTwo 60 = .ok (.iload_n 2, 1) := by decide +kernel
theorem dX0_workOnTwo_61 : decode cX0_workOnTwo 61 = .ok (.caload, 1) := by decide +kernel
theorem dX0_workOnTwo_62 : decode cX0_workOnTwo 62 = .ok (.aload 5, 2) := by decide +kernel
theorem dX0_workOnTwo_64 : decode cX0_workOnTwo 64 = .ok (.aload 6, 2) := by decide +kernel
theorem dX0_workOnTwo_66 : decode cX0_workOnTwo 66 = .ok (.aload_n 0, 1) := by decide +kernel
theorem dX0_workOnTwo_67 : decode cX0_workOnTwo 67 = .ok (.getfield 25, 3) := by decide +kernel
theorem dX0_workOnTwo_70 : decode cX0_workOnTwo 70 = .ok (.aload_n 0, 1) := by decide +kernel
theorem dX0_workOnTwo_71 : decode cX0_workOnTwo 71 = .ok (.getfield 21, 3) := by decide +kernel
theorem dX0_workOnTwo_74 : decode cX0_workOnTwo 74 = .ok (.invokestatic 134, 3) := by decide +kernel
theorem dX0_workOnTwo_77 : decode cX0_workOnTwo 77 = .ok (.goto 61, 3) := by decide +kernel
theorem dX0_workOnTwo_80 : decode cX0_workOnTwo 80 = .ok (.iload 4, 2) := by decide +kernel
theorem dX0_workOnTwo_82 : decode cX0_workOnTwo 82 = .ok (.bipush 64, 2) := by decide +kernel
theorem dX0_workOnTwo_84 : decode cX0_workOnTwo 84 = .ok (.if_icmp .ne 18, 3) := by decide +kernel
theorem dX0_workOnTwo_87 : decode cX0_workOnTwo 87 = .ok (.iload_n 3, 1) := by decide +kernel
theorem dX0_workOnTwo_88 : decode cX0_workOnTwo 88 = .ok (.aload 5, 2) := by decide +kernel
theorem dX0_workOnTwo_90 : decode cX0_workOnTwo 90 = .ok (.aload 6, 2) := by decide +kernel
theorem dX0_workOnTwo_92 : decode cX0_workOnTwo 92 = .ok (.aload_n 0, 1) := by decide +kernel
theorem dX0_workOnTwo_93 : decode cX0_workOnTwo 93 = .ok (.getfield 25, 3) := by decide +kernel
theorem dX0_workOnTwo_96 : decode cX0_workOnTwo 96 = .ok (.invokestatic 138, 3) := by decide +kernel
theorem dX0_workOnTwo_99 : decode cX0_workOnTwo 99 = .ok (.goto 39, 3) := by decide +kernel
theorem dX0_workOnTwo_102 : decode cX0_workOnTwo 102 = .ok (.ldc 142, 2) := by decide +kernel
theorem dX0_workOnTwo_104 : decode cX0_workOnTwo 104 = .ok (.iload_n 3, 1) := by decide +kernel
theorem dX0_workOnTwo_105 : decode cX0_workOnTwo 105 = .ok (.invokevirtual 114, 3) := by decide +kernel
theorem dX0_workOnTwo_108 : decode cX0_workOnTwo 108 = .ok (.ifCond .lt 18, 3) := by decide +kernel
theorem dX0_workOnTwo_111 : decode cX0_workOnTwo 111 = .ok (.iload_n 3, 1) := by decide +kernel
theorem dX0_workOnTwo_112 : decode cX0_workOnTwo 112 = .ok (.aload 5, 2) := by decide +kernel
theorem dX0_workOnTwo_114 : decode cX0_workOnTwo 114 = .ok (.aload 6, 2) := by decide +kernel
theorem dX0_workOnTwo_116 : decode cX0_workOnTwo 116 = .ok (.aload_n 0, 1) := by decide +kernel
theorem dX0_workOnTwo_117 : decode cX0_workOnTwo 117 = .ok (.getfield 25, 3) := by decide +kernel
theorem dX0_workOnTwo_120 : decode cX0_workOnTwo 120 = .ok (.invokestatic 144, 3) := by decide +kernel
theorem dX0_workOnTwo_123 : decode cX0_workOnTwo 123 = .ok (.goto 15, 3) := by decide +kernel
theorem dX0_workOnTwo_126 : decode cX0_workOnTwo 126 = .ok (.iload_n 3, 1) := by decide +kernel
theorem dX0_workOnTwo_127 : decode cX0_workOnTwo 127 = .ok (.aload 5, 2) := by decide +kernel
theorem dX0_workOnTwo_129 : decode cX0_workOnTwo 129 = .ok (.aload 6, 2) := by decide +kernel
theorem dX0_workOnTwo_131 : decode cX0_workOnTwo 131 = .ok (.aload_n 0, 1) := by decide +kernel
theorem dX0_workOnTwo_132 : decode cX0_workOnTwo 132 = .ok (.getfield 25, 3) := by decide +kernel
theorem dX0_workOnTwo_135 : decode cX0_workOnTwo 135 = .ok (.invokestatic 147, 3) := by decide +kernel
theorem dX0_workOnTwo_138 : decode cX0_workOnTwo 138 = .ok (.aload_n 0, 1) := by decide +kernel
theorem dX0_workOnTwo_139 : decode cX0_workOnTwo 139 = .ok (.dup, 1) := by decide +kernel
theorem dX0_workOnTwo_140 : decode cX0_workOnTwo 140 = .ok (.getfield 29, 3) := by decide +kernel
theorem dX0_workOnTwo_143 : decode cX0_workOnTwo 143 = .ok (.iconst 1, 1) := by decide +kernel
theorem dX0_workOnTwo_144 : decode cX0_workOnTwo 144 = .ok (.isub, 1) := by decide +kernel
theorem dX0_workOnTwo_145 : decode cX0_workOnTwo 145 = .ok (.putfield 29, 3) := by decide +kernel
theorem dX0_workOnTwo_148 : decode cX0_workOnTwo 148 = .ok (.aload_n 0, 1) := by decide +kernel
theorem dX0_workOnTwo_149 : decode cX0_workOnTwo 149 = .ok (.invokevirtual 128, 3) := by decide +kernel
theorem dX0_workOnTwo_152 : decode cX0_workOnTwo 152 = .ok (.return_, 1) := by decide +kernel
theorem dX0_putSpare_0 : decode cX0_putSpare 0 = .ok (.aload_n 0, 1) := by decide +kernel
theorem dX0_putSpare_1 : decode cX0_putSpare 1 = .ok (.getfield 13, 3) := by decide +kernel
theorem dX0_putSpare_4 : decode cX0_putSpare 4 = .ok (.aload_n 0, 1) := by decide +kernel
theorem dX0_putSpare_5 : decode cX0_putSpare 5 = .ok (.getfield 29, 3) := by decide +kernel
theorem dX0_putSpare_8 : decode cX0_putSpare 8 = .ok (.iconst 1, 1) := by decide +kernel
theorem dX0_putSpare_9 : decode cX0_putSpare 9 = .ok (.isub, 1) := by decide +kernel
theorem dX0_putSpare_10 : decode cX0_putSpare 10 = .ok (.aaload, 1) := by decide +kernel
theorem dX0_putSpare_11 : decode cX0_putSpare 11 = .ok (.astore_n 1, 1) := by decide +kernel
theorem dX0_putSpare_12 : decode cX0_putSpare 12 = .ok (.aload_n 0, 1) := by decide +kernel
theorem dX0_putSpare_13 : decode cX0_putSpare 13 = .ok (.getfield 13, 3) := by decide +kernel
theorem dX0_putSpare_16 : decode cX0_putSpare 16 = .ok (.aload_n 0, 1) := by decide +kernel
theorem dX0_putSpare_17 : decode cX0_putSpare 17 = .ok (.getfield 29, 3) := by decide +kernel
theorem dX0_putSpare_20 : decode cX0_putSpare 20 = .ok (.iconst 1, 1) := by decide +kernel
theorem dX0_putSpare_21 : decode cX0_putSpare 21 = .ok (.isub, 1) := by decide +kernel
theorem dX0_putSpare_22 : decode cX0_putSpare 22 = .ok (.aload_n 0, 1) := by decide +kernel
theorem dX0_putSpare_23 : decode cX0_putSpare 23 = .ok (.getfield 25, 3) := by decide +kernel
theorem dX0_putSpare_26 : decode cX0_putSpare 26 = .ok (.aastore, 1) := by decide +kernel
theorem dX0_putSpare_27 : decode cX0_putSpare 27 = .ok (.aload_n 0, 1) := by decide +kernel
theorem dX0_putSpare_28 : decode cX0_putSpare 28 = .ok (.aload_n 1, 1) := by decide +kernel
theorem dX0_putSpare_29 : decode cX0_putSpare 29 = .ok (.putfield 25, 3) := by decide +kernel
theorem dX0_putSpare_32 : decode cX0_putSpare 32 = .ok (.aload_n 0, 1) := by decide +kernel
theorem dX0_putSpare_33 : decode cX0_putSpare 33 = .ok (.dup, 1) := by decide +kernel
theorem dX0_putSpare_34 : decode cX0_putSpare 34 = .ok (.getfield 36, 3) := by decide +kernel
theorem dX0_putSpare_37 : decode cX0_putSpare 37 = .ok (.iconst 1, 1) := by decide +kernel
theorem dX0_putSpare_38 : decode cX0_putSpare 38 = .ok (.iadd, 1) := by decide +kernel
theorem dX0_putSpare_39 : decode cX0_putSpare 39 = .ok (.putfield 36, 3) := by decide +kernel
theorem dX0_putSpare_42 : decode cX0_putSpare 42 = .ok (.return_, 1) := by decide +kernel
theorem dX1_init_0 : decode cX1_init 0 = .ok (.aload_n 0, 1) := by decide +kernel
theorem dX1_init_1 : decode cX1_init 1 = .ok (.invokespecial 3, 3) := by decide +kernel
theorem dX1_init_4 : decode cX1_init 4 = .ok (.aload_n 0, 1) := by decide +kernel
theorem dX1_init_5 : decode cX1_init 5 = .ok (.iconst 3, 1) := by decide +kernel
theorem dX1_init_6 : decode cX1_init 6 = .ok (.newarray .int, 2) := by decide +kernel
theorem dX1_init_8 : decode cX1_init 8 = .ok (.putfield 9, 3) := by decide +kernel
theorem dX1_init_11 : decode cX1_init 11 = .ok (.aload_n 0, 1) := by decide +kernel
theorem dX1_init_12 : decode cX1_init 12 = .ok (.bipush 48, 2) := by decide +kernel
theorem dX1_init_14 : decode cX1_init 14 = .ok (.newarray .int, 2) := by decide +kernel
theorem dX1_init_16 : decode cX1_init 16 = .ok (.putfield 15, 3) := by decide +kernel
theorem dX1_init_19 : decode cX1_init 19 = .ok (.aload_n 0, 1) := by decide +kernel
theorem dX1_init_20 : decode cX1_init 20 = .ok (.iconst 1, 1) := by decide +kernel
theorem dX1_init_21 : decode cX1_init 21 = .ok (.putfield 18, 3) := by decide +kernel
theorem dX1_init_24 : decode cX1_init 24 = .ok (.return_, 1) := by decide +kernel
theorem dX1_restart_0 : decode cX1_restart 0 = .ok (.aload_n 0, 1) := by decide +kernel
theorem dX1_restart_1 : decode cX1_restart 1 = .ok (.iconst 0, 1) := by decide +kernel
theorem dX1_restart_2 : decode cX1_restart 2 = .ok (.putfield 18, 3) := by decide +kernel
theorem dX1_restart_5 : decode cX1_restart 5 = .ok (.aload_n 0, 1) := by decide +kernel
theorem dX1_restart_6 : decode cX1_restart 6 = .ok (.iconst 1, 1) := by decide +kernel
theorem dX1_restart_7 : decode cX1_restart 7 = .ok (.putfield 22, 3) := by decide +kernel
theorem dX1_restart_10 : decode cX1_restart 10 = .ok (.return_, 1) := by decide +kernel
theorem dX1_addAxis_0 : decode cX1_addAxis 0 = .ok (.iload_n 1, 1) := by decide +kernel
theorem dX1_addAxis_1 : decode cX1_addAxis 1 = .ok (.bipush 48, 2) := by decide +kernel
theorem dX1_addAxis_3 : decode cX1_addAxis 3 = .ok (.if_icmp .le 11, 3) := by decide +kernel
theorem dX1_addAxis_6 : decode cX1_addAxis 6 = .ok (.new 25, 3) := by decide +kernel
theorem dX1_addAxis_9 : decode cX1_addAxis 9 = .ok (.dup, 1) := by decide +kernel
theorem dX1_addAxis_10 : decode cX1_addAxis 10 = .ok (.invokespecial 27, 3) := by decide +kernel
theorem dX1_addAxis_13 : decode cX1_addAxis 13 = .ok (.athrow, 1) := by decide +kernel
theorem dX1_addAxis_14 : decode cX1_addAxis 14 = .ok (.aload_n 0, 1) := by decide +kernel
theorem dX1_addAxis_15 : decode cX1_addAxis 15 = .ok (.getfield 9, 3) := by decide +kernel
theorem dX1_addAxis_18 : decode cX1_addAxis 18 = .ok (.aload_n 0, 1) := by decide +kernel
theorem dX1_addAxis_19 : decode cX1_addAxis 19 = .ok (.getfield 18, 3) := by decide +kernel
theorem dX1_addAxis_22 : decode cX1_addAxis 22 = .ok (.iload_n 1, 1) := by decide +kernel
theorem dX1_addAxis_23 : decode cX1_addAxis 23 = .ok (.iastore, 1) := by decide +kernel
theorem dX1_addAxis_24 : decode cX1_addAxis 24 = .ok (.aload_n 0, 1) := by decide +kernel
theorem dX1_addAxis_25 : decode cX1_addAxis 25 = .ok (.dup, 1) := by decide +kernel
theorem dX1_addAxis_26 : decode cX1_addAxis 26 = .ok (.getfield 18, 3) := by decide +kernel
theorem dX1_addAxis_29 : decode cX1_addAxis 29 = .ok (.iconst 1, 1) := by decide +kernel
theorem dX1_addAxis_30 : decode cX1_addAxis 30 = .ok (.iadd, 1) := by decide +kernel
theorem dX1_addAxis_31 : decode cX1_addAxis 31 = .ok (.putfield 18, 3) := by decide +kernel
theorem dX1_addAxis_34 : decode cX1_addAxis 34 = .ok (.aload_n 0, 1) := by decide +kernel
theorem dX1_addAxis_35 : decode cX1_addAxis 35 = .ok (.dup, 1) := by decide +kernel
theorem dX1_addAxis_36 : decode cX1_addAxis 36 = .ok (.getfield 22, 3) := by decide +kernel
theorem dX1_addAxis_39 : decode cX1_addAxis 39 = .ok (.iload_n 1, 1) := by decide +kernel
theorem dX1_addAxis_40 : decode cX1_addAxis 40 = .ok (.imul, 1) := by decide +kernel
theorem dX1_addAxis_41 : decode cX1_addAxis 41 = .ok (.putfield 22, 3) := by decide +kernel
theorem dX1_addAxis_44 : decode cX1_addAxis 44 = .ok (.return_, 1) := by decide +kernel
theorem dX1_addAxesOf_0 : decode cX1_addAxesOf 0 = .ok (.iload_n 2, 1) := by decide +kernel
theorem dX1_addAxesOf_1 : decode cX1_addAxesOf 1 = .ok (.istore 4, 2) := by decide +kernel
theorem dX1_addAxesOf_3 : decode cX1_addAxesOf 3 = .ok (.iload 4, 2) := by decide +kernel
theorem dX1_addAxesOf_5 : decode cX1_addAxesOf 5 = .ok (.iload_n 3, 1) := by decide +kernel
theorem dX1_addAxesOf_6 : decode cX1_addAxesOf 6 = .ok (.if_icmp .ge 20, 3) := by decide +kernel
theorem dX1_addAxesOf_9 : decode cX1_addAxesOf 9 = .ok (.aload_n 0, 1) := by decide +kernel
theorem dX1_addAxesOf_10 : decode cX1_addAxesOf 10 = .ok (.aload_n 1, 1) := by decide +kernel
theorem dX1_addAxesOf_11 : decode cX1_addAxesOf 11 = .ok (.getfield 9, 3) := by decide +kernel
theorem dX1_addAxesOf_14 : decode cX1_addAxesOf 14 = .ok (.iload 4, 2) := by decide +kernel
theorem dX1_addAxesOf_16 : decode cX1_addAxesOf 16 = .ok (.iaload, 1) := by decide +kernel
theorem dX1_addAxesOf_17 : decode cX1_addAxesOf 17 = .ok (.invokevirtual 28, 3) := by decide +kernel
theorem dX1_addAxesOf_20 : decode cX1_addAxesOf 20 = .ok (.iinc 4 1, 3) := by decide +kernel
theorem dX1_addAxesOf_23 : decode cX1_addAxesOf 23 = .ok (.goto (-20), 3) := by decide +kernel
theorem dX1_addAxesOf_26 : decode cX1_addAxesOf 26 = .ok (.return_, 1) := by decide +kernel
theorem dX1_endAxes_0 : decode cX1_endAxes 0 = .ok (.aload_n 0, 1) := by decide +kernel
theorem dX1_endAxes_1 : decode cX1_endAxes 1 = .ok (.getfield 22, 3) := by decide +kernel
theorem dX1_endAxes_4 : decode cX1_endAxes 4 = .ok (.bipush 48, 2) := by decide +kernel
theorem dX1_endAxes_6 : decode cX1_endAxes 6 = .ok (.if_icmp .le 11, 3) := by decide +kernel
theorem dX1_endAxes_9 : decode cX1_endAxes 9 = .ok (.new 25, 3) := by decide +kernel
theorem dX1_endAxes_12 : decode cX1_endAxes 12 = .ok (.dup, 1) := by decide +kernel
theorem dX1_endAxes_13 : decode cX1_endAxes 13 = .ok (.invokespecial 27, 3) := by decide +kernel
theorem dX1_endAxes_16 : decode cX1_endAxes 16 = .ok (.athrow, 1) := by decide +kernel
theorem dX1_endAxes_17 : decode cX1_endAxes 17 = .ok (.return_, 1) := by decide +kernel
theorem dX1_shapeLike_0 : decode cX1_shapeLike 0 = .ok (.aload_n 0, 1) := by decide +kernel
theorem dX1_shapeLike_1 : decode cX1_shapeLike 1 = .ok (.invokevirtual 32, 3) := by decide +kernel
theorem dX1_shapeLike_4 : decode cX1_shapeLike 4 = .ok (.aload_n 0, 1) := by decide +kernel
theorem dX1_shapeLike_5 : decode cX1_shapeLike 5 = .ok (.aload_n 1, 1) := by decide +kernel
theorem dX1_shapeLike_6 : decode cX1_shapeLike 6 = .ok (.iconst 0, 1) := by decide +kernel
theorem dX1_shapeLike_7 : decode cX1_shapeLike 7 = .ok (.aload_n 1, 1) := by decide +kernel
theorem dX1_shapeLike_8 : decode cX1_shapeLike 8 = .ok (.getfield 18, 3) := by decide +kernel
theorem dX1_shapeLike_11 : decode cX1_shapeLike 11 = .ok (.invokevirtual 35, 3) := by decide +kernel
theorem dX1_shapeLike_14 : decode cX1_shapeLike 14 = .ok (.return_, 1) := by decide +kernel
theorem dX1_copy_0 : decode cX1_copy 0 = .ok (.aload_n 0, 1) := by decide +kernel
theorem dX1_copy_1 : decode cX1_copy 1 = .ok (.aload_n 1, 1) := by decide +kernel
theorem dX1_copy_2 : decode cX1_copy 2 = .ok (.invokevirtual 39, 3) := by decide +kernel
theorem dX1_copy_5 : decode cX1_copy 5 = .ok (.aload_n 1, 1) := by decide +kernel
theorem dX1_copy_6 : decode cX1_copy 6 = .ok (.getfield 15, 3) := by decide +kernel
theorem dX1_copy_9 : decode cX1_copy 9 = .ok (.iconst 0, 1) := by decide +kernel
theorem dX1_copy_10 : decode cX1_copy 10 = .ok (.aload_n 0, 1) := by decide +kernel
theorem dX1_copy_11 : decode cX1_copy 11 = .ok (.getfield 15, 3) := by decide +kernel
theorem dX1_copy_14 : decode cX1_copy 14 = .ok (.iconst 0, 1) := by decide +kernel
theorem dX1_copy_15 : decode cX1_copy 15 = .ok (.aload_n 0, 1) := by decide +kernel
theorem dX1_copy_16 : decode cX1_copy 16 = .ok (.getfield 22, 3) := by decide +kernel
theorem dX1_copy_19 : decode cX1_copy 19 = .ok (.invokestatic 43, 3) := by decide +kernel
theorem dX1_copy_22 : decode cX1_copy 22 = .ok (.return_, 1) := by decide +kernel
theorem dX1_span_0 : decode cX1_span 0 = .ok (.iconst 1, 1) := by decide +kernel
theorem dX1_span_1 : decode cX1_span 1 = .ok (.istore_n 3, 1) := by decide +kernel
theorem dX1_span_2 : decode cX1_span 2 = .ok (.iload_n 1, 1) := by decide +kernel
theorem dX1_span_3 : decode cX1_span 3 = .ok (.istore 4, 2) := by decide +kernel
theorem dX1_span_5 : decode cX1_span 5 = .ok (.iload 4, 2) := by decide +kernel
theorem dX1_span_7 : decode cX1_span 7 = .ok (.iload_n 2, 1) := by decide +kernel
theorem dX1_span_8 : decode cX1_span 8 = .ok (.if_icmp .ge 19, 3) := by decide +kernel
theorem dX1_span_11 : decode cX1_span 11 = .ok (.iload_n 3, 1) := by decide +kernel
theorem dX1_span_12 : decode cX1_span 12 = .ok (.aload_n 0, 1) := by decide +kernel
theorem dX1_span_13 : decode cX1_span 13 = .ok (.getfield 9, 3) := by decide +kernel
theorem dX1_span_16 : decode cX1_span 16 = .ok (.iload 4, 2) := by decide +kernel
theorem dX1_span_18 : decode cX1_span 18 = .ok (.iaload, 1) := by decide +kernel
theorem dX1_span_19 : decode cX1_span 19 = .ok (.imul, 1) := by decide +kernel
theorem dX1_span_20 : decode cX1_span 20 = .ok (.istore_n 3, 1) := by decide +kernel
theorem dX1_span_21 : decode cX1_span 21 = .ok (.iinc 4 1, 3) := by decide +kernel
theorem dX1_span_24 : decode cX1_span 24 = .ok (.goto (-19), 3) := by decide +kernel
theorem dX1_span_27 : decode cX1_span 27 = .ok (.iload_n 3, 1) := by decide +kernel
theorem dX1_span_28 : decode cX1_span 28 = .ok (.ireturn, 1) := by decide +kernel
theorem dX1_isScalar_0 : decode cX1_isScalar 0 = .ok (.aload_n 0, 1) := by decide +kernel
theorem dX1_isScalar_1 : decode cX1_isScalar 1 = .ok (.getfield 18, 3) := by decide +kernel
theorem dX1_isScalar_4 : decode cX1_isScalar 4 = .ok (.ifCond .ne 7, 3) := by decide +kernel
theorem dX1_isScalar_7 : decode cX1_isScalar 7 = .ok (.iconst 1, 1) := by decide +kernel
theorem dX1_isScalar_8 : decode cX1_isScalar 8 = .ok (.goto 4, 3) := by decide +kernel
theorem dX1_isScalar_11 : decode cX1_isScalar 11 = .ok (.iconst 0, 1) := by decide +kernel
theorem dX1_isScalar_12 : decode cX1_isScalar 12 = .ok (.ireturn, 1) := by decide +kernel
theorem dX1_rowLength_0 : decode cX1_rowLength 0 = .ok (.aload_n 0, 1) := by decide +kernel
theorem dX1_rowLength_1 : decode cX1_rowLength 1 = .ok (.getfield 18, 3) := by decide +kernel
theorem dX1_rowLength_4 : decode cX1_rowLength 4 = .ok (.ifCond .ne 7, 3) := by decide +kernel
theorem dX1_rowLength_7 : decode cX1_rowLength 7 = .ok (.iconst 1, 1) := by decide +kernel
theorem dX1_rowLength_8 : decode cX1_rowLength 8 = .ok (.goto 14, 3) := by decide +kernel
theorem dX1_rowLength_11 : decode cX1_rowLength 11 = .ok (.aload_n 0, 1) := by decide +kernel
theorem dX1_rowLength_12 : decode cX1_rowLength 12 = .ok (.getfield 9, 3) := by decide +kernel
theorem dX1_rowLength_15 : decode cX1_rowLength 15 = .ok (.aload_n 0, 1) := by decide +kernel
theorem dX1_rowLength_16 : decode cX1_rowLength 16 = .ok (.getfield 18, 3) := by decide +kernel
theorem dX1_rowLength_19 : decode cX1_rowLength 19 = .ok (.iconst 1, 1) := by decide +kernel
theorem dX1_rowLength_20 : decode cX1_rowLength 20 = .ok (.isub, 1) := by decide +kernel
theorem dX1_rowLength_21 : decode cX1_rowLength 21 = .ok (.iaload, 1) := by decide +kernel
theorem dX1_rowLength_22 : decode cX1_rowLength 22 = .ok (.ireturn, 1) := by decide +kernel
theorem dX1_cellFor_0 : decode cX1_cellFor 0 = .ok (.aload_n 0, 1) := by decide +kernel
theorem dX1_cellFor_1 : decode cX1_cellFor 1 = .ok (.getfield 18, 3) := by decide +kernel
theorem dX1_cellFor_4 : decode cX1_cellFor 4 = .ok (.ifCond .ne 12, 3) := by decide +kernel
theorem dX1_cellFor_7 : decode cX1_cellFor 7 = .ok (.aload_n 0, 1) := by decide +kernel
theorem dX1_cellFor_8 : decode cX1_cellFor 8 = .ok (.getfield 15, 3) := by decide +kernel
theorem dX1_cellFor_11 : decode cX1_cellFor 11 = .ok (.iconst 0, 1) := by decide +kernel
theorem dX1_cellFor_12 : decode cX1_cellFor 12 = .ok (.iaload, 1) := by decide +kernel
theorem dX1_cellFor_13 : decode cX1_cellFor 13 = .ok (.goto 9, 3) := by decide +kernel
theorem dX1_cellFor_16 : decode cX1_cellFor 16 = .ok (.aload_n 0, 1) := by decide +kernel
theorem dX1_cellFor_17 : decode cX1_cellFor 17 = .ok (.getfield 15, 3) := by decide +kernel
theorem dX1_cellFor_20 : decode cX1_cellFor 20 = .ok (.iload_n 1, 1) := by decide +kernel
theorem dX1_cellFor_21 : decode cX1_cellFor 21 = .ok (.iaload, 1) := by decide +kernel
theorem dX1_cellFor_22 : decode cX1_cellFor 22 = .ok (.ireturn, 1) := by decide +kernel
theorem dX2_init_0 : decode cX2_init 0 = .ok (.aload_n 0, 1) := by decide +kernel
theorem dX2_init_1 : decode cX2_init 1 = .ok (.invokespecial 3, 3) := by decide +kernel
theorem dX2_init_4 : decode cX2_init 4 = .ok (.aload_n 0, 1) := by decide +kernel
theorem dX2_init_5 : decode cX2_init 5 = .ok (.bipush 8, 2) := by decide +kernel
theorem dX2_init_7 : decode cX2_init 7 = .ok (.anewarray 9, 3) := by decide +kernel
theorem dX2_init_10 : decode cX2_init 10 = .ok (.putfield 11, 3) := by decide +kernel
theorem dX2_init_13 : decode cX2_init 13 = .ok (.aload_n 0, 1) := by decide +kernel
theorem dX2_init_14 : decode cX2_init 14 = .ok (.bipush 8, 2) := by decide +kernel
theorem dX2_init_16 : decode cX2_init 16 = .ok (.newarray .boolean, 2) := by decide +kernel
theorem dX2_init_18 : decode cX2_init 18 = .ok (.putfield 17, 3) := by decide +kernel
theorem dX2_init_21 : decode cX2_init 21 = .ok (.iconst 0, 1) := by decide +kernel
theorem dX2_init_22 : decode cX2_init 22 = .ok (.istore_n 1, 1) := by decide +kernel
theorem dX2_init_23 : decode cX2_init 23 = .ok (.iload_n 1, 1) := by decide +kernel
theorem dX2_init_24 : decode cX2_init 24 = .ok (.bipush 8, 2) := by decide +kernel
theorem dX2_init_26 : decode cX2_init 26 = .ok (.if_icmp .ge 22, 3) := by decide +kernel
theorem dX2_init_29 : decode cX2_init 29 = .ok (.aload_n 0, 1) := by decide +kernel
theorem dX2_init_30 : decode cX2_init 30 = .ok (.getfield 11, 3) := by decide +kernel
theorem dX2_init_33 : decode cX2_init 33 = .ok (.iload_n 1, 1) := by decide +kernel
theorem dX2_init_34 : decode cX2_init 34 = .ok (.new 9, 3) := by decide +kernel
theorem dX2_init_37 : decode cX2_init 37 = .ok (.dup, 1) := by decide +kernel
theorem dX2_init_38 : decode cX2_init 38 = .ok (.invokespecial 21, 3) := by decide +kernel
theorem dX2_init_41 : decode cX2_init 41 = .ok (.aastore, 1) := by decide +kernel
theorem dX2_init_42 : decode cX2_init 42 = .ok (.iinc 1 1, 3) := by decide +kernel
theorem dX2_init_45 : decode cX2_init 45 = .ok (.goto (-22), 3) := by decide +kernel
theorem dX2_init_48 : decode cX2_init 48 = .ok (.return_, 1) := by decide +kernel
theorem dX2_has_0 : decode cX2_has 0 = .ok (.iload_n 1, 1) := by decide +kernel
theorem dX2_has_1 : decode cX2_has 1 = .ok (.ifCond .lt 22, 3) := by decide +kernel
theorem dX2_has_4 : decode cX2_has 4 = .ok (.iload_n 1, 1) := by decide +kernel
theorem dX2_has_5 : decode cX2_has 5 = .ok (.bipush 8, 2) := by decide +kernel
theorem dX2_has_7 : decode cX2_has 7 = .ok (.if_icmp .ge 16, 3) := by decide +kernel
theorem dX2_has_10 : decode cX2_has 10 = .ok (.aload_n 0, 1) := by decide +kernel
theorem dX2_has_11 : decode cX2_has 11 = .ok (.getfield 17, 3) := by decide +kernel
theorem dX2_has_14 : decode cX2_has 14 = .ok (.iload_n 1, 1) := by decide +kernel
theorem dX2_has_15 : decode cX2_has 15 = .ok (.baload, 1) := by decide +kernel
theorem dX2_has_16 : decode cX2_has 16 = .ok (.ifCond .eq 7, 3) := by decide +kernel
theorem dX2_has_19 : decode cX2_has 19 = .ok (.iconst 1, 1) := by decide +kernel
theorem dX2_has_20 : decode cX2_has 20 = .ok (.goto 4, 3) := by decide +kernel
theorem dX2_has_23 : decode cX2_has 23 = .ok (.iconst 0, 1) := by decide +kernel
theorem dX2_has_24 : decode cX2_has 24 = .ok (.ireturn, 1) := by decide +kernel
theorem dX2_put_0 : decode cX2_put 0 = .ok (.aload_n 0, 1) := by decide +kernel
theorem dX2_put_1 : decode cX2_put 1 = .ok (.getfield 11, 3) := by decide +kernel
theorem dX2_put_4 : decode cX2_put 4 = .ok (.iload_n 1, 1) := by decide +kernel
theorem dX2_put_5 : decode cX2_put 5 = .ok (.aaload, 1) := by decide +kernel
theorem dX2_put_6 : decode cX2_put 6 = .ok (.aload_n 2, 1) := by decide +kernel
theorem dX2_put_7 : decode cX2_put 7 = .ok (.invokevirtual 22, 3) := by decide +kernel
theorem dX2_put_10 : decode cX2_put 10 = .ok (.aload_n 0, 1) := by decide +kernel
theorem dX2_put_11 : decode cX2_put 11 = .ok (.getfield 17, 3) := by decide +kernel
theorem dX2_put_14 : decode cX2_put 14 = .ok (.iload_n 1, 1) := by decide +kernel
theorem dX2_put_15 : decode cX2_put 15 = .ok (.iconst 1, 1) := by decide +kernel
theorem dX2_put_16 : decode cX2_put 16 = .ok (.bastore, 1) := by decide +kernel
theorem dX2_put_17 : decode cX2_put 17 = .ok (.return_, 1) := by decide +kernel
theorem dX2_find_0 : decode cX2_find 0 = .ok (.aload_n 0, 1) := by decide +kernel
theorem dX2_find_1 : decode cX2_find 1 = .ok (.iload_n 1, 1) := by decide +kernel
theorem dX2_find_2 : decode cX2_find 2 = .ok (.invokevirtual 26, 3) := by decide +kernel
theorem dX2_find_5 : decode cX2_find 5 = .ok (.ifCond .ne 11, 3) := by decide +kernel
theorem dX2_find_8 : decode cX2_find 8 = .ok (.new 30, 3) := by decide +kernel
theorem dX2_find_11 : decode cX2_find 11 = .ok (.dup, 1) := by decide +kernel
theorem dX2_find_12 : decode cX2_find 12 = .ok (.invokespecial 32, 3) := by decide +kernel
theorem dX2_find_15 : decode cX2_find 15 = .ok (.athrow, 1) := by decide +kernel
theorem dX2_find_16 : decode cX2_find 16 = .ok (.aload_n 0, 1) := by decide +kernel
theorem dX2_find_17 : decode cX2_find 17 = .ok (.getfield 11, 3) := by decide +kernel
theorem dX2_find_20 : decode cX2_find 20 = .ok (.iload_n 1, 1) := by decide +kernel
theorem dX2_find_21 : decode cX2_find 21 = .ok (.aaload, 1) := by decide +kernel
theorem dX2_find_22 : decode cX2_find 22 = .ok (.areturn, 1) := by decide +kernel
theorem dX3_fit_0 : decode cX3_fit 0 = .ok (.lload_n 0, 1) := by decide +kernel
theorem dX3_fit_1 : decode cX3_fit 1 = .ok (.lload_n 0, 1) := by decide +kernel
theorem dX3_fit_2 : decode cX3_fit 2 = .ok (.l2i, 1) := by decide +kernel
theorem dX3_fit_3 : decode cX3_fit 3 = .ok (.i2l, 1) := by decide +kernel
theorem dX3_fit_4 : decode cX3_fit 4 = .ok (.lcmp, 1) := by decide +kernel
theorem dX3_fit_5 : decode cX3_fit 5 = .ok (.ifCond .eq 11, 3) := by decide +kernel
theorem dX3_fit_8 : decode cX3_fit 8 = .ok (.new 9, 3) := by decide +kernel
theorem dX3_fit_11 : decode cX3_fit 11 = .ok (.dup, 1) := by decide +kernel
theorem dX3_fit_12 : decode cX3_fit 12 = .ok (.invokespecial 11, 3) := by decide +kernel
theorem dX3_fit_15 : decode cX3_fit 15 = .ok (.athrow, 1) := by decide +kernel
theorem dX3_fit_16 : decode cX3_fit 16 = .ok (.lload_n 0, 1) := by decide +kernel
theorem dX3_fit_17 : decode cX3_fit 17 = .ok (.l2i, 1) := by decide +kernel
theorem dX3_fit_18 : decode cX3_fit 18 = .ok (.ireturn, 1) := by decide +kernel
theorem dX3_needDivides_0 : decode cX3_needDivides 0 = .ok (.iload_n 0, 1) := by decide +kernel
theorem dX3_needDivides_1 : decode cX3_needDivides 1 = .ok (.ifCond .eq 9, 3) := by decide +kernel
theorem dX3_needDivides_4 : decode cX3_needDivides 4 = .ok (.iload_n 1, 1) := by decide +kernel
theorem dX3_needDivides_5 : decode cX3_needDivides 5 = .ok (.iload_n 0, 1) := by decide +kernel
theorem dX3_needDivides_6 : decode cX3_needDivides 6 = .ok (.irem, 1) := by decide +kernel
theorem dX3_needDivides_7 : decode cX3_needDivides 7 = .ok (.ifCond .eq 11, 3) := by decide +kernel
theorem dX3_needDivides_10 : decode cX3_needDivides 10 = .ok (.new 12, 3) := by decide +kernel
theorem dX3_needDivides_13 : decode cX3_needDivides 13 = .ok (.dup, 1) := by decide +kernel
theorem dX3_needDivides_14 : decode cX3_needDivides 14 = .ok (.invokespecial 14, 3) := by decide +kernel
theorem dX3_needDivides_17 : decode cX3_needDivides 17 = .ok (.athrow, 1) := by decide +kernel
theorem dX3_needDivides_18 : decode cX3_needDivides 18 = .ok (.return_, 1) := by decide +kernel
theorem dX3_work_0 : decode cX3_work 0 = .ok (.iload_n 0, 1) := by decide +kernel
theorem dX3_work_1 : decode cX3_work 1 = .ok (.lookupswitch 177 #[(37, 110), (38, 171), (42, 101), (43, 83), (45, 92), (60, 138), (61, 160), (62, 149), (124, 124)], 83) := by decide +kernel
theorem dX3_work_84 : decode cX3_work 84 = .ok (.iload_n 1, 1) := by decide +kernel
theorem dX3_work_85 : decode cX3_work 85 = .ok (.i2l, 1) := by decide +kernel
theorem dX3_work_86 : decode cX3_work 86 = .ok (.iload_n 2, 1) := by decide +kernel
theorem dX3_work_87 : decode cX3_work 87 = .ok (.i2l, 1) := by decide +kernel
theorem dX3_work_88 : decode cX3_work 88 = .ok (.ladd, 1) := by decide +kernel
theorem dX3_work_89 : decode cX3_work 89 = .ok (.invokestatic 15, 3) := by decide +kernel
theorem dX3_work_92 : decode cX3_work 92 = .ok (.ireturn, 1) := by decide +kernel
theorem dX3_work_93 : decode cX3_work 93 = .ok (.iload_n 1, 1) := by decide +kernel
theorem dX3_work_94 : decode cX3_work 94 = .ok (.i2l, 1) := by decide +kernel
theorem dX3_work_95 : decode cX3_work 95 = .ok (.iload_n 2, 1) := by decide +kernel
theorem dX3_work_96 : decode cX3_work 96 = .ok (.i2l, 1) := by decide +kernel
theorem dX3_work_97 : decode cX3_work 97 = .ok (.lsub, 1) := by decide +kernel
theorem dX3_work_98 : decode cX3_work 98 = .ok (.invokestatic 15, 3) := by decide +kernel
theorem dX3_work_101 : decode cX3_work 101 = .ok (.ireturn, 1) := by decide +kernel
theorem dX3_work_102 : decode cX3_work 102 = .ok (.iload_n 1, 1) := by decide +kernel
theorem dX3_work_103 : decode cX3_work 103 = .ok (.i2l, 1) := by decide +kernel
theorem dX3_work_104 : decode cX3_work 104 = .ok (.iload_n 2, 1) := by decide +kernel
theorem dX3_work_105 : decode cX3_work 105 = .ok (.i2l, 1) := by decide +kernel
theorem dX3_work_106 : decode cX3_work 106 = .ok (.lmul, 1) := by decide +kernel
theorem dX3_work_107 : decode cX3_work 107 = .ok (.invokestatic 15, 3) := by decide +kernel
theorem dX3_work_110 : decode cX3_work 110 = .ok (.ireturn, 1) := by decide +kernel
theorem dX3_work_111 : decode cX3_work 111 = .ok (.iload_n 2, 1) := by decide +kernel
theorem dX3_work_112 : decode cX3_work 112 = .ok (.iload_n 1, 1) := by decide +kernel
theorem dX3_work_113 : decode cX3_work 113 = .ok (.invokestatic 21, 3) := by decide +kernel
theorem dX3_work_116 : decode cX3_work 116 = .ok (.iload_n 1, 1) := by decide +kernel
theorem dX3_work_117 : decode cX3_work 117 = .ok (.i2l, 1) := by decide +kernel
theorem dX3_work_118 : decode cX3_work 118 = .ok (.iload_n 2, 1) := by decide +kernel
theorem dX3_work_119 : decode cX3_work 119 = .ok (.i2l, 1) := by decide +kernel
theorem dX3_work_120 : decode cX3_work 120 = .ok (.ldiv, 1) := by decide +kernel
theorem dX3_work_121 : decode cX3_work 121 = .ok (.invokestatic 15, 3) := by decide +kernel
theorem dX3_work_124 : decode cX3_work 124 = .ok (.ireturn, 1) := by decide +kernel
theorem dX3_work_125 : decode cX3_work 125 = .ok (.iload_n 1, 1) := by decide +kernel
theorem dX3_work_126 : decode cX3_work 126 = .ok (.ifCond .ne 7, 3) := by decide +kernel
theorem dX3_work_129 : decode cX3_work 129 = .ok (.iload_n 2, 1) := by decide +kernel
theorem dX3_work_130 : decode cX3_work 130 = .ok (.goto 8, 3) := by decide +kernel
theorem dX3_work_133 : decode cX3_work 133 = .ok (.iload_n 2, 1) := by decide +kernel
theorem dX3_work_134 : decode cX3_work 134 = .ok (.iload_n 1, 1) := by decide +kernel
theorem dX3_work_135 : decode cX3_work 135 = .ok (.invokestatic 25, 3) := by decide +kernel
theorem dX3_work_138 : decode cX3_work 138 = .ok (.ireturn, 1) := by decide +kernel
theorem dX3_work_139 : decode cX3_work 139 = .ok (.iload_n 1, 1) := by decide +kernel
theorem dX3_work_140 : decode cX3_work 140 = .ok (.iload_n 2, 1) := by decide +kernel
theorem dX3_work_141 : decode cX3_work 141 = .ok (.if_icmp .ge 7, 3) := by decide +kernel
theorem dX3_work_144 : decode cX3_work 144 = .ok (.iconst 1, 1) := by decide +kernel
theorem dX3_work_145 : decode cX3_work 145 = .ok (.goto 4, 3) := by decide +kernel
theorem dX3_work_148 : decode cX3_work 148 = .ok (.iconst 0, 1) := by decide +kernel
theorem dX3_work_149 : decode cX3_work 149 = .ok (.ireturn, 1) := by decide +kernel
theorem dX3_work_150 : decode cX3_work 150 = .ok (.iload_n 1, 1) := by decide +kernel
theorem dX3_work_151 : decode cX3_work 151 = .ok (.iload_n 2, 1) := by decide +kernel
theorem dX3_work_152 : decode cX3_work 152 = .ok (.if_icmp .le 7, 3) := by decide +kernel
theorem dX3_work_155 : decode cX3_work 155 = .ok (.iconst 1, 1) := by decide +kernel
theorem dX3_work_156 : decode cX3_work 156 = .ok (.goto 4, 3) := by decide +kernel
theorem dX3_work_159 : decode cX3_work 159 = .ok (.iconst 0, 1) := by decide +kernel
theorem dX3_work_160 : decode cX3_work 160 = .ok (.ireturn, 1) := by decide +kernel
theorem dX3_work_161 : decode cX3_work 161 = .ok (.iload_n 1, 1) := by decide +kernel
theorem dX3_work_162 : decode cX3_work 162 = .ok (.iload_n 2, 1) := by decide +kernel
theorem dX3_work_163 : decode cX3_work 163 = .ok (.if_icmp .ne 7, 3) := by decide +kernel
theorem dX3_work_166 : decode cX3_work 166 = .ok (.iconst 1, 1) := by decide +kernel
theorem dX3_work_167 : decode cX3_work 167 = .ok (.goto 4, 3) := by decide +kernel
theorem dX3_work_170 : decode cX3_work 170 = .ok (.iconst 0, 1) := by decide +kernel
theorem dX3_work_171 : decode cX3_work 171 = .ok (.ireturn, 1) := by decide +kernel
theorem dX3_work_172 : decode cX3_work 172 = .ok (.iload_n 1, 1) := by decide +kernel
theorem dX3_work_173 : decode cX3_work 173 = .ok (.iload_n 2, 1) := by decide +kernel
theorem dX3_work_174 : decode cX3_work 174 = .ok (.invokestatic 31, 3) := by decide +kernel
theorem dX3_work_177 : decode cX3_work 177 = .ok (.ireturn, 1) := by decide +kernel
theorem dX3_work_178 : decode cX3_work 178 = .ok (.iload_n 1, 1) := by decide +kernel
theorem dX3_work_179 : decode cX3_work 179 = .ok (.iload_n 2, 1) := by decide +kernel
theorem dX3_work_180 : decode cX3_work 180 = .ok (.invokestatic 34, 3) := by decide +kernel
theorem dX3_work_183 : decode cX3_work 183 = .ok (.ireturn, 1) := by decide +kernel
theorem dX3_workAlone_0 : decode cX3_workAlone 0 = .ok (.iload_n 0, 1) := by decide +kernel
theorem dX3_workAlone_1 : decode cX3_workAlone 1 = .ok (.lookupswitch 50 #[(45, 27), (124, 34)], 27) := by decide +kernel
theorem dX3_workAlone_28 : decode cX3_workAlone 28 = .ok (.iload_n 1, 1) := by decide +kernel
theorem dX3_workAlone_29 : decode cX3_workAlone 29 = .ok (.i2l, 1) := by decide +kernel
theorem dX3_workAlone_30 : decode cX3_workAlone 30 = .ok (.lneg, 1) := by decide +kernel
theorem dX3_workAlone_31 : decode cX3_workAlone 31 = .ok (.invokestatic 15, 3) := by decide +kernel
theorem dX3_workAlone_34 : decode cX3_workAlone 34 = .ok (.ireturn, 1) := by decide +kernel
theorem dX3_workAlone_35 : decode cX3_workAlone 35 = .ok (.iload_n 1, 1) := by decide +kernel
theorem dX3_workAlone_36 : decode cX3_workAlone 36 = .ok (.ifCond .ge 9, 3) := by decide +kernel
theorem dX3_workAlone_39 : decode cX3_workAlone 39 = .ok (.iload_n 1, 1) := by decide +kernel
theorem dX3_workAlone_40 : decode cX3_workAlone 40 = .ok (.i2l, 1) := by decide +kernel
theorem dX3_workAlone_41 : decode cX3_workAlone 41 = .ok (.lneg, 1) := by decide +kernel
theorem dX3_workAlone_42 : decode cX3_workAlone 42 = .ok (.goto 5, 3) := by decide +kernel
theorem dX3_workAlone_45 : decode cX3_workAlone 45 = .ok (.iload_n 1, 1) := by decide +kernel
theorem dX3_workAlone_46 : decode cX3_workAlone 46 = .ok (.i2l, 1) := by decide +kernel
theorem dX3_workAlone_47 : decode cX3_workAlone 47 = .ok (.invokestatic 15, 3) := by decide +kernel
theorem dX3_workAlone_50 : decode cX3_workAlone 50 = .ok (.ireturn, 1) := by decide +kernel
theorem dX3_workAlone_51 : decode cX3_workAlone 51 = .ok (.iload_n 1, 1) := by decide +kernel
theorem dX3_workAlone_52 : decode cX3_workAlone 52 = .ok (.ifCond .le 7, 3) := by decide +kernel
theorem dX3_workAlone_55 : decode cX3_workAlone 55 = .ok (.iconst 1, 1) := by decide +kernel
theorem dX3_workAlone_56 : decode cX3_workAlone 56 = .ok (.goto 12, 3) := by decide +kernel
theorem dX3_workAlone_59 : decode cX3_workAlone 59 = .ok (.iload_n 1, 1) := by decide +kernel
theorem dX3_workAlone_60 : decode cX3_workAlone 60 = .ok (.ifCond .ge 7, 3) := by decide +kernel
theorem dX3_workAlone_63 : decode cX3_workAlone 63 = .ok (.iconst (-1), 1) := by decide +kernel
theorem dX3_workAlone_64 : decode cX3_workAlone 64 = .ok (.goto 4, 3) := by decide +kernel
theorem dX3_workAlone_67 : decode cX3_workAlone 67 = .ok (.iconst 0, 1) := by decide +kernel
theorem dX3_workAlone_68 : decode cX3_workAlone 68 = .ok (.ireturn, 1) := by decide +kernel
theorem dX3_fold_0 : decode cX3_fold 0 = .ok (.iload_n 3, 1) := by decide +kernel
theorem dX3_fold_1 : decode cX3_fold 1 = .ok (.ifCond .ne 8, 3) := by decide +kernel
theorem dX3_fold_4 : decode cX3_fold 4 = .ok (.iload_n 0, 1) := by decide +kernel
theorem dX3_fold_5 : decode cX3_fold 5 = .ok (.invokestatic 37, 3) := by decide +kernel
theorem dX3_fold_8 : decode cX3_fold 8 = .ok (.ireturn, 1) := by decide +kernel
theorem dX3_fold_9 : decode cX3_fold 9 = .ok (.aload_n 1, 1) := by decide +kernel
theorem dX3_fold_10 : decode cX3_fold 10 = .ok (.iload_n 2, 1) := by decide +kernel
theorem dX3_fold_11 : decode cX3_fold 11 = .ok (.iload_n 3, 1) := by decide +kernel
theorem dX3_fold_12 : decode cX3_fold 12 = .ok (.iadd, 1) := by decide +kernel
theorem dX3_fold_13 : decode cX3_fold 13 = .ok (.iconst 1, 1) := by decide +kernel
theorem dX3_fold_14 : decode cX3_fold 14 = .ok (.isub, 1) := by decide +kernel
theorem dX3_fold_15 : decode cX3_fold 15 = .ok (.iaload, 1) := by decide +kernel
theorem dX3_fold_16 : decode cX3_fold 16 = .ok (.istore 4, 2) := by decide +kernel
theorem dX3_fold_18 : decode cX3_fold 18 = .ok (.iload_n 3, 1) := by decide +kernel
theorem dX3_fold_19 : decode cX3_fold 19 = .ok (.iconst 2, 1) := by decide +kernel
theorem dX3_fold_20 : decode cX3_fold 20 = .ok (.isub, 1) := by decide +kernel
theorem dX3_fold_21 : decode cX3_fold 21 = .ok (.istore 5, 2) := by decide +kernel
theorem dX3_fold_23 : decode cX3_fold 23 = .ok (.iload 5, 2) := by decide +kernel
theorem dX3_fold_25 : decode cX3_fold 25 = .ok (.ifCond .lt 23, 3) := by decide +kernel
theorem dX3_fold_28 : decode cX3_fold 28 = .ok (.iload_n 0, 1) := by decide +kernel
theorem dX3_fold_29 : decode cX3_fold 29 = .ok (.aload_n 1, 1) := by decide +kernel
theorem dX3_fold_30 : decode cX3_fold 30 = .ok (.iload_n 2, 1) := by decide +kernel
theorem dX3_fold_31 : decode cX3_fold 31 = .ok (.iload 5, 2) := by decide +kernel
theorem dX3_fold_33 : decode cX3_fold 33 = .ok (.iadd, 1) := by decide +kernel
theorem dX3_fold_34 : decode cX3_fold 34 = .ok (.iaload, 1) := by decide +kernel
theorem dX3_fold_35 : decode cX3_fold 35 = .ok (.iload 4, 2) := by decide +kernel
theorem dX3_fold_37 : decode cX3_fold 37 = .ok (.invokestatic 41, 3) := by decide +kernel
theorem dX3_fold_40 : decode cX3_fold 40 = .ok (.istore 4, 2) := by decide +kernel
theorem dX3_fold_42 : decode cX3_fold 42 = .ok (.iinc 5 (-1), 3) := by decide +kernel
theorem dX3_fold_45 : decode cX3_fold 45 = .ok (.goto (-22), 3) := by decide +kernel
theorem dX3_fold_48 : decode cX3_fold 48 = .ok (.iload 4, 2) := by decide +kernel
theorem dX3_fold_50 : decode cX3_fold 50 = .ok (.ireturn, 1) := by decide +kernel
theorem dX3_ofNothing_0 : decode cX3_ofNothing 0 = .ok (.iload_n 0, 1) := by decide +kernel
theorem dX3_ofNothing_1 : decode cX3_ofNothing 1 = .ok (.bipush 43, 2) := by decide +kernel
theorem dX3_ofNothing_3 : decode cX3_ofNothing 3 = .ok (.if_icmp .eq 17, 3) := by decide +kernel
theorem dX3_ofNothing_6 : decode cX3_ofNothing 6 = .ok (.iload_n 0, 1) := by decide +kernel
theorem dX3_ofNothing_7 : decode cX3_ofNothing 7 = .ok (.bipush 42, 2) := by decide +kernel
theorem dX3_ofNothing_9 : decode cX3_ofNothing 9 = .ok (.if_icmp .eq 11, 3) := by decide +kernel
theorem dX3_ofNothing_12 : decode cX3_ofNothing 12 = .ok (.new 12, 3) := by decide +kernel
theorem dX3_ofNothing_15 : decode cX3_ofNothing 15 = .ok (.dup, 1) := by decide +kernel
theorem dX3_ofNothing_16 : decode cX3_ofNothing 16 = .ok (.invokespecial 14, 3) := by decide +kernel
theorem dX3_ofNothing_19 : decode cX3_ofNothing 19 = .ok (.athrow, 1) := by decide +kernel
theorem dX3_ofNothing_20 : decode cX3_ofNothing 20 = .ok (.iload_n 0, 1) := by decide +kernel
theorem dX3_ofNothing_21 : decode cX3_ofNothing 21 = .ok (.bipush 43, 2) := by decide +kernel
theorem dX3_ofNothing_23 : decode cX3_ofNothing 23 = .ok (.if_icmp .ne 7, 3) := by decide +kernel
theorem dX3_ofNothing_26 : decode cX3_ofNothing 26 = .ok (.iconst 0, 1) := by decide +kernel
theorem dX3_ofNothing_27 : decode cX3_ofNothing 27 = .ok (.goto 4, 3) := by decide +kernel
theorem dX3_ofNothing_30 : decode cX3_ofNothing 30 = .ok (.iconst 1, 1) := by decide +kernel
theorem dX3_ofNothing_31 : decode cX3_ofNothing 31 = .ok (.ireturn, 1) := by decide +kernel
theorem dX3_eachOfOne_0 : decode cX3_eachOfOne 0 = .ok (.aload_n 2, 1) := by decide +kernel
theorem dX3_eachOfOne_1 : decode cX3_eachOfOne 1 = .ok (.aload_n 1, 1) := by decide +kernel
theorem dX3_eachOfOne_2 : decode cX3_eachOfOne 2 = .ok (.invokevirtual 45, 3) := by decide +kernel
theorem dX3_eachOfOne_5 : decode cX3_eachOfOne 5 = .ok (.iconst 0, 1) := by decide +kernel
theorem dX3_eachOfOne_6 : decode cX3_eachOfOne 6 = .ok (.istore_n 3, 1) := by decide +kernel
theorem dX3_eachOfOne_7 : decode cX3_eachOfOne 7 = .ok (.iload_n 3, 1) := by decide +kernel
theorem dX3_eachOfOne_8 : decode cX3_eachOfOne 8 = .ok (.aload_n 2, 1) := by decide +kernel
theorem dX3_eachOfOne_9 : decode cX3_eachOfOne 9 = .ok (.getfield 51, 3) := by decide +kernel
theorem dX3_eachOfOne_12 : decode cX3_eachOfOne 12 = .ok (.if_icmp .ge 25, 3) := by decide +kernel
theorem dX3_eachOfOne_15 : decode cX3_eachOfOne 15 = .ok (.aload_n 2, 1) := by decide +kernel
theorem dX3_eachOfOne_16 : decode cX3_eachOfOne 16 = .ok (.getfield 55, 3) := by decide +kernel
theorem dX3_eachOfOne_19 : decode cX3_eachOfOne 19 = .ok (.iload_n 3, 1) := by decide +kernel
theorem dX3_eachOfOne_20 : decode cX3_eachOfOne 20 = .ok (.iload_n 0, 1) := by decide +kernel
theorem dX3_eachOfOne_21 : decode cX3_eachOfOne 21 = .ok (.aload_n 1, 1) := by decide +kernel
theorem dX3_eachOfOne_22 : decode cX3_eachOfOne 22 = .ok (.getfield 55, 3) := by decide +kernel
theorem dX3_eachOfOne_25 : decode cX3_eachOfOne 25 = .ok (.iload_n 3, 1) := by decide +kernel
theorem dX3_eachOfOne_26 : decode cX3_eachOfOne 26 = .ok (.iaload, 1) := by decide +kernel
theorem dX3_eachOfOne_27 : decode cX3_eachOfOne 27 = .ok (.invokestatic 59, 3) := by decide +kernel
theorem dX3_eachOfOne_30 : decode cX3_eachOfOne 30 = .ok (.iastore, 1) := by decide +kernel
theorem dX3_eachOfOne_31 : decode cX3_eachOfOne 31 = .ok (.iinc 3 1, 3) := by decide +kernel
theorem dX3_eachOfOne_34 : decode cX3_eachOfOne 34 = .ok (.goto (-27), 3) := by decide +kernel
theorem dX3_eachOfOne_37 : decode cX3_eachOfOne 37 = .ok (.return_, 1) := by decide +kernel
theorem dX3_each_0 : decode cX3_each 0 = .ok (.aload_n 1, 1) := by decide +kernel
theorem dX3_each_1 : decode cX3_each 1 = .ok (.invokevirtual 63, 3) := by decide +kernel
theorem dX3_each_4 : decode cX3_each 4 = .ok (.ifCond .ne 15, 3) := by decide +kernel
theorem dX3_each_7 : decode cX3_each 7 = .ok (.aload_n 2, 1) := by decide +kernel
theorem dX3_each_8 : decode cX3_each 8 = .ok (.invokevirtual 63, 3) := by decide +kernel
theorem dX3_each_11 : decode cX3_each 11 = .ok (.ifCond .ne 8, 3) := by decide +kernel
theorem dX3_each_14 : decode cX3_each 14 = .ok (.aload_n 1, 1) := by decide +kernel
theorem dX3_each_15 : decode cX3_each 15 = .ok (.aload_n 2, 1) := by decide +kernel
theorem dX3_each_16 : decode cX3_each 16 = .ok (.invokestatic 67, 3) := by decide +kernel
theorem dX3_each_19 : decode cX3_each 19 = .ok (.aload_n 3, 1) := by decide +kernel
theorem dX3_each_20 : decode cX3_each 20 = .ok (.aload_n 1, 1) := by decide +kernel
theorem dX3_each_21 : decode cX3_each 21 = .ok (.invokevirtual 63, 3) := by decide +kernel
theorem dX3_each_24 : decode cX3_each 24 = .ok (.ifCond .eq 7, 3) := by decide +kernel
theorem dX3_each_27 : decode cX3_each 27 = .ok (.aload_n 2, 1) := by decide +kernel
theorem dX3_each_28 : decode cX3_each 28 = .ok (.goto 4, 3) := by decide +kernel
theorem dX3_each_31 : decode cX3_each 31 = .ok (.aload_n 1, 1) := by decide +kernel
theorem dX3_each_32 : decode cX3_each 32 = .ok (.invokevirtual 45, 3) := by decide +kernel
theorem dX3_each_35 : decode cX3_each 35 = .ok (.iconst 0, 1) := by decide +kernel
theorem dX3_each_36 : decode cX3_each 36 = .ok (.istore 4, 2) := by decide +kernel
theorem dX3_each_38 : decode cX3_each 38 = .ok (.iload 4, 2) := by decide +kernel
theorem dX3_each_40 : decode cX3_each 40 = .ok (.aload_n 3, 1) := by decide +kernel
theorem dX3_each_41 : decode cX3_each 41 = .ok (.getfield 51, 3) := by decide +kernel
theorem dX3_each_44 : decode cX3_each 44 = .ok (.if_icmp .ge 32, 3) := by decide +kernel
theorem dX3_each_47 : decode cX3_each 47 = .ok (.aload_n 3, 1) := by decide +kernel
theorem dX3_each_48 : decode cX3_each 48 = .ok (.getfield 55, 3) := by decide +kernel
theorem dX3_each_51 : decode cX3_each 51 = .ok (.iload 4, 2) := by decide +kernel
theorem dX3_each_53 : decode cX3_each 53 = .ok (.iload_n 0, 1) := by decide +kernel
theorem dX3_each_54 : decode cX3_each 54 = .ok (.aload_n 1, 1) := by decide +kernel
theorem dX3_each_55 : decode cX3_each 55 = .ok (.iload 4, 2) := by decide +kernel
theorem dX3_each_57 : decode cX3_each 57 = .ok (.invokevirtual 71, 3) := by decide +kernel
theorem dX3_each_60 : decode cX3_each 60 = .ok (.aload_n 2, 1) := by decide +kernel
theorem dX3_each_61 : decode cX3_each 61 = .ok (.iload 4, 2) := by decide +kernel
theorem dX3_each_63 : decode cX3_each 63 = .ok (.invokevirtual 71, 3) := by decide +kernel
theorem dX3_each_66 : decode cX3_each 66 = .ok (.invokestatic 41, 3) := by decide +kernel
theorem dX3_each_69 : decode cX3_each 69 = .ok (.iastore, 1) := by decide +kernel
theorem dX3_each_70 : decode cX3_each 70 = .ok (.iinc 4 1, 3) := by decide +kernel
theorem dX3_each_73 : decode cX3_each 73 = .ok (.goto (-35), 3) := by decide +kernel
theorem dX3_each_76 : decode cX3_each 76 = .ok (.return_, 1) := by decide +kernel
theorem dX3_needSameShape_0 : decode cX3_needSameShape 0 = .ok (.aload_n 0, 1) := by decide +kernel
theorem dX3_needSameShape_1 : decode cX3_needSameShape 1 = .ok (.getfield 75, 3) := by decide +kernel
theorem dX3_needSameShape_4 : decode cX3_needSameShape 4 = .ok (.aload_n 1, 1) := by decide +kernel
theorem dX3_needSameShape_5 : decode cX3_needSameShape 5 = .ok (.getfield 75, 3) := by decide +kernel
theorem dX3_needSameShape_8 : decode cX3_needSameShape 8 = .ok (.if_icmp .eq 11, 3) := by decide +kernel
theorem dX3_needSameShape_11 : decode cX3_needSameShape 11 = .ok (.new 78, 3) := by decide +kernel
theorem dX3_needSameShape_14 : decode cX3_needSameShape 14 = .ok (.dup, 1) := by decide +kernel
theorem dX3_needSameShape_15 : decode cX3_needSameShape 15 = .ok (.invokespecial 80, 3) := by decide +kernel
theorem dX3_needSameShape_18 : decode cX3_needSameShape 18 = .ok (.athrow, 1) := by decide +kernel
theorem dX3_needSameShape_19 : decode cX3_needSameShape 19 = .ok (.iconst 0, 1) := by decide +kernel
theorem dX3_needSameShape_20 : decode cX3_needSameShape 20 = .ok (.istore_n 2, 1) := by decide +kernel
theorem dX3_needSameShape_21 : decode cX3_needSameShape 21 = .ok (.iload_n 2, 1) := by decide +kernel
theorem dX3_needSameShape_22 : decode cX3_needSameShape 22 = .ok (.aload_n 0, 1) := by decide +kernel
theorem dX3_needSameShape_23 : decode cX3_needSameShape 23 = .ok (.getfield 75, 3) := by decide +kernel
theorem dX3_needSameShape_26 : decode cX3_needSameShape 26 = .ok (.if_icmp .ge 32, 3) := by decide +kernel
theorem dX3_needSameShape_29 : decode cX3_needSameShape 29 = .ok (.aload_n 0, 1) := by decide +kernel
theorem dX3_needSameShape_30 : decode cX3_needSameShape 30 = .ok (.getfield 81, 3) := by decide +kernel
theorem dX3_needSameShape_33 : decode cX3_needSameShape 33 = .ok (.iload_n 2, 1) := by decide +kernel
theorem dX3_needSameShape_34 : decode cX3_needSameShape 34 = .ok (.iaload, 1) := by decide +kernel
theorem dX3_needSameShape_35 : decode cX3_needSameShape 35 = .ok (.aload_n 1, 1) := by decide +kernel
theorem dX3_needSameShape_36 : decode cX3_needSameShape 36 = .ok (.getfield 81, 3) := by decide +kernel
theorem dX3_needSameShape_39 : decode cX3_needSameShape 39 = .ok (.iload_n 2, 1) := by decide +kernel
theorem dX3_needSameShape_40 : decode cX3_needSameShape 40 = .ok (.iaload, 1) := by decide +kernel
theorem dX3_needSameShape_41 : decode cX3_needSameShape 41 = .ok (.if_icmp .eq 11, 3) := by decide +kernel
theorem dX3_needSameShape_44 : decode cX3_needSameShape 44 = .ok (.new 84, 3) := by decide +kernel
theorem dX3_needSameShape_47 : decode cX3_needSameShape 47 = .ok (.dup, 1) := by decide +kernel
theorem dX3_needSameShape_48 : decode cX3_needSameShape 48 = .ok (.invokespecial 86, 3) := by decide +kernel
theorem dX3_needSameShape_51 : decode cX3_needSameShape 51 = .ok (.athrow, 1) := by decide +kernel
theorem dX3_needSameShape_52 : decode cX3_needSameShape 52 = .ok (.iinc 2 1, 3) := by decide +kernel
theorem dX3_needSameShape_55 : decode cX3_needSameShape 55 = .ok (.goto (-34), 3) := by decide +kernel
theorem dX3_needSameShape_58 : decode cX3_needSameShape 58 = .ok (.return_, 1) := by decide +kernel
theorem dX3_reduce_0 : decode cX3_reduce 0 = .ok (.aload_n 1, 1) := by decide +kernel
theorem dX3_reduce_1 : decode cX3_reduce 1 = .ok (.invokevirtual 87, 3) := by decide +kernel
theorem dX3_reduce_4 : decode cX3_reduce 4 = .ok (.istore_n 3, 1) := by decide +kernel
theorem dX3_reduce_5 : decode cX3_reduce 5 = .ok (.aload_n 2, 1) := by decide +kernel
theorem dX3_reduce_6 : decode cX3_reduce 6 = .ok (.aload_n 1, 1) := by decide +kernel
theorem dX3_reduce_7 : decode cX3_reduce 7 = .ok (.iconst 0, 1) := by decide +kernel
theorem dX3_reduce_8 : decode cX3_reduce 8 = .ok (.aload_n 1, 1) := by decide +kernel
theorem dX3_reduce_9 : decode cX3_reduce 9 = .ok (.getfield 75, 3) := by decide +kernel
theorem dX3_reduce_12 : decode cX3_reduce 12 = .ok (.iconst 1, 1) := by decide +kernel
theorem dX3_reduce_13 : decode cX3_reduce 13 = .ok (.isub, 1) := by decide +kernel
theorem dX3_reduce_14 : decode cX3_reduce 14 = .ok (.invokevirtual 91, 3) := by decide +kernel
theorem dX3_reduce_17 : decode cX3_reduce 17 = .ok (.aload_n 2, 1) := by decide +kernel
theorem dX3_reduce_18 : decode cX3_reduce 18 = .ok (.invokevirtual 95, 3) := by decide +kernel
theorem dX3_reduce_21 : decode cX3_reduce 21 = .ok (.iconst 0, 1) := by decide +kernel
theorem dX3_reduce_22 : decode cX3_reduce 22 = .ok (.istore 4, 2) := by decide +kernel
theorem dX3_reduce_24 : decode cX3_reduce 24 = .ok (.iload 4, 2) := by decide +kernel
theorem dX3_reduce_26 : decode cX3_reduce 26 = .ok (.aload_n 2, 1) := by decide +kernel
theorem dX3_reduce_27 : decode cX3_reduce 27 = .ok (.getfield 51, 3) := by decide +kernel
theorem dX3_reduce_30 : decode cX3_reduce 30 = .ok (.if_icmp .ge 29, 3) := by decide +kernel
theorem dX3_reduce_33 : decode cX3_reduce 33 = .ok (.aload_n 2, 1) := by decide +kernel
theorem dX3_reduce_34 : decode cX3_reduce 34 = .ok (.getfield 55, 3) := by decide +kernel
theorem dX3_reduce_37 : decode cX3_reduce 37 = .ok (.iload 4, 2) := by decide +kernel
theorem dX3_reduce_39 : decode cX3_reduce 39 = .ok (.iload_n 0, 1) := by decide +kernel
theorem dX3_reduce_40 : decode cX3_reduce 40 = .ok (.aload_n 1, 1) := by decide +kernel
theorem dX3_reduce_41 : decode cX3_reduce 41 = .ok (.getfield 55, 3) := by decide +kernel
theorem dX3_reduce_44 : decode cX3_reduce 44 = .ok (.iload 4, 2) := by decide +kernel
theorem dX3_reduce_46 : decode cX3_reduce 46 = .ok (.iload_n 3, 1) := by decide +kernel
theorem dX3_reduce_47 : decode cX3_reduce 47 = .ok (.imul, 1) := by decide +kernel
theorem dX3_reduce_48 : decode cX3_reduce 48 = .ok (.iload_n 3, 1) := by decide +kernel
theorem dX3_reduce_49 : decode cX3_reduce 49 = .ok (.invokestatic 98, 3) := by decide +kernel
theorem dX3_reduce_52 : decode cX3_reduce 52 = .ok (.iastore, 1) := by decide +kernel
theorem dX3_reduce_53 : decode cX3_reduce 53 = .ok (.iinc 4 1, 3) := by decide +kernel
theorem dX3_reduce_56 : decode cX3_reduce 56 = .ok (.goto (-32), 3) := by decide +kernel
theorem dX3_reduce_59 : decode cX3_reduce 59 = .ok (.return_, 1) := by decide +kernel
theorem dX3_scan_0 : decode cX3_scan 0 = .ok (.aload_n 1, 1) := by decide +kernel
theorem dX3_scan_1 : decode cX3_scan 1 = .ok (.invokevirtual 87, 3) := by decide +kernel
theorem dX3_scan_4 : decode cX3_scan 4 = .ok (.istore_n 3, 1) := by decide +kernel
theorem dX3_scan_5 : decode cX3_scan 5 = .ok (.aload_n 2, 1) := by decide +kernel
theorem dX3_scan_6 : decode cX3_scan 6 = .ok (.aload_n 1, 1) := by decide +kernel
theorem dX3_scan_7 : decode cX3_scan 7 = .ok (.invokevirtual 45, 3) := by decide +kernel
theorem dX3_scan_10 : decode cX3_scan 10 = .ok (.iconst 0, 1) := by decide +kernel
theorem dX3_scan_11 : decode cX3_scan 11 = .ok (.istore 4, 2) := by decide +kernel
theorem dX3_scan_13 : decode cX3_scan 13 = .ok (.iconst 0, 1) := by decide +kernel
theorem dX3_scan_14 : decode cX3_scan 14 = .ok (.istore 5, 2) := by decide +kernel
theorem dX3_scan_16 : decode cX3_scan 16 = .ok (.iload 5, 2) := by decide +kernel
theorem dX3_scan_18 : decode cX3_scan 18 = .ok (.aload_n 2, 1) := by decide +kernel
theorem dX3_scan_19 : decode cX3_scan 19 = .ok (.getfield 51, 3) := by decide +kernel
theorem dX3_scan_22 : decode cX3_scan 22 = .ok (.if_icmp .ge 46, 3) := by decide +kernel
theorem dX3_scan_25 : decode cX3_scan 25 = .ok (.iload 5, 2) := by decide +kernel
theorem dX3_scan_27 : decode cX3_scan 27 = .ok (.iload 4, 2) := by decide +kernel
theorem dX3_scan_29 : decode cX3_scan 29 = .ok (.iload_n 3, 1) := by decide +kernel
theorem dX3_scan_30 : decode cX3_scan 30 = .ok (.iadd, 1) := by decide +kernel
theorem dX3_scan_31 : decode cX3_scan 31 = .ok (.if_icmp .ne 7, 3) := by decide +kernel
theorem dX3_scan_34 : decode cX3_scan 34 = .ok (.iload 5, 2) := by decide +kernel
theorem dX3_scan_36 : decode cX3_scan 36 = .ok (.istore 4, 2) := by decide +kernel
theorem dX3_scan_38 : decode cX3_scan 38 = .ok (.aload_n 2, 1) := by decide +kernel
theorem dX3_scan_39 : decode cX3_scan 39 = .ok (.getfield 55, 3) := by decide +kernel
theorem dX3_scan_42 : decode cX3_scan 42 = .ok (.iload 5, 2) := by decide +kernel
theorem dX3_scan_44 : decode cX3_scan 44 = .ok (.iload_n 0, 1) := by decide +kernel
theorem dX3_scan_45 : decode cX3_scan 45 = .ok (.aload_n 1, 1) := by decide +kernel
theorem dX3_scan_46 : decode cX3_scan 46 = .ok (.getfield 55, 3) := by decide +kernel
theorem dX3_scan_49 : decode cX3_scan 49 = .ok (.iload 4, 2) := by decide +kernel
theorem dX3_scan_51 : decode cX3_scan 51 = .ok (.iload 5, 2) := by decide +kernel
theorem dX3_scan_53 : decode cX3_scan 53 = .ok (.iload 4, 2) := by decide +kernel
theorem dX3_scan_55 : decode cX3_scan 55 = .ok (.isub, 1) := by decide +kernel
theorem dX3_scan_56 : decode cX3_scan 56 = .ok (.iconst 1, 1) := by decide +kernel
theorem dX3_scan_57 : decode cX3_scan 57 = .ok (.iadd, 1) := by decide +kernel
theorem dX3_scan_58 : decode cX3_scan 58 = .ok (.invokestatic 98, 3) := by decide +kernel
theorem dX3_scan_61 : decode cX3_scan 61 = .ok (.iastore, 1) := by decide +kernel
theorem dX3_scan_62 : decode cX3_scan 62 = .ok (.iinc 5 1, 3) := by decide +kernel
theorem dX3_scan_65 : decode cX3_scan 65 = .ok (.goto (-49), 3) := by decide +kernel
theorem dX3_scan_68 : decode cX3_scan 68 = .ok (.return_, 1) := by decide +kernel
theorem dX3_inner_0 : decode cX3_inner 0 = .ok (.aload_n 2, 1) := by decide +kernel
theorem dX3_inner_1 : decode cX3_inner 1 = .ok (.invokevirtual 63, 3) := by decide +kernel
theorem dX3_inner_4 : decode cX3_inner 4 = .ok (.ifCond .ne 23, 3) := by decide +kernel
theorem dX3_inner_7 : decode cX3_inner 7 = .ok (.aload_n 3, 1) := by decide +kernel
theorem dX3_inner_8 : decode cX3_inner 8 = .ok (.invokevirtual 63, 3) := by decide +kernel
theorem dX3_inner_11 : decode cX3_inner 11 = .ok (.ifCond .ne 16, 3) := by decide +kernel
theorem dX3_inner_14 : decode cX3_inner 14 = .ok (.aload_n 2, 1) := by decide +kernel
theorem dX3_inner_15 : decode cX3_inner 15 = .ok (.getfield 75, 3) := by decide +kernel
theorem dX3_inner_18 : decode cX3_inner 18 = .ok (.aload_n 3, 1) := by decide +kernel
theorem dX3_inner_19 : decode cX3_inner 19 = .ok (.getfield 75, 3) := by decide +kernel
theorem dX3_inner_22 : decode cX3_inner 22 = .ok (.iadd, 1) := by decide +kernel
theorem dX3_inner_23 : decode cX3_inner 23 = .ok (.iconst 5, 1) := by decide +kernel
theorem dX3_inner_24 : decode cX3_inner 24 = .ok (.if_icmp .le 11, 3) := by decide +kernel
theorem dX3_inner_27 : decode cX3_inner 27 = .ok (.new 78, 3) := by decide +kernel
theorem dX3_inner_30 : decode cX3_inner 30 = .ok (.dup, 1) := by decide +kernel
theorem dX3_inner_31 : decode cX3_inner 31 = .ok (.invokespecial 80, 3) := by decide +kernel
theorem dX3_inner_34 : decode cX3_inner 34 = .ok (.athrow, 1) := by decide +kernel
theorem dX3_inner_35 : decode cX3_inner 35 = .ok (.aload_n 2, 1) := by decide +kernel
theorem dX3_inner_36 : decode cX3_inner 36 = .ok (.invokevirtual 87, 3) := by decide +kernel
theorem dX3_inner_39 : decode cX3_inner 39 = .ok (.istore 6, 2) := by decide +kernel
theorem dX3_inner_41 : decode cX3_inner 41 = .ok (.iload 6, 2) := by decide +kernel
theorem dX3_inner_43 : decode cX3_inner 43 = .ok (.aload_n 3, 1) := by decide +kernel
theorem dX3_inner_44 : decode cX3_inner 44 = .ok (.getfield 81, 3) := by decide +kernel
theorem dX3_inner_47 : decode cX3_inner 47 = .ok (.iconst 0, 1) := by decide +kernel
theorem dX3_inner_48 : decode cX3_inner 48 = .ok (.iaload, 1) := by decide +kernel
theorem dX3_inner_49 : decode cX3_inner 49 = .ok (.if_icmp .eq 11, 3) := by decide +kernel
theorem dX3_inner_52 : decode cX3_inner 52 = .ok (.new 84, 3) := by decide +kernel
theorem dX3_inner_55 : decode cX3_inner 55 = .ok (.dup, 1) := by decide +kernel
theorem dX3_inner_56 : decode cX3_inner 56 = .ok (.invokespecial 86, 3) := by decide +kernel
theorem dX3_inner_59 : decode cX3_inner 59 = .ok (.athrow, 1) := by decide +kernel
theorem dX3_inner_60 : decode cX3_inner 60 = .ok (.aload 4, 2) := by decide +kernel
theorem dX3_inner_62 : decode cX3_inner 62 = .ok (.aload_n 2, 1) := by decide +kernel
theorem dX3_inner_63 : decode cX3_inner 63 = .ok (.iconst 0, 1) := by decide +kernel
theorem dX3_inner_64 : decode cX3_inner 64 = .ok (.aload_n 2, 1) := by decide +kernel
theorem dX3_inner_65 : decode cX3_inner 65 = .ok (.getfield 75, 3) := by decide +kernel
theorem dX3_inner_68 : decode cX3_inner 68 = .ok (.iconst 1, 1) := by decide +kernel
theorem dX3_inner_69 : decode cX3_inner 69 = .ok (.isub, 1) := by decide +kernel
theorem dX3_inner_70 : decode cX3_inner 70 = .ok (.invokevirtual 91, 3) := by decide +kernel
theorem dX3_inner_73 : decode cX3_inner 73 = .ok (.aload 4, 2) := by decide +kernel
theorem dX3_inner_75 : decode cX3_inner 75 = .ok (.aload_n 3, 1) := by decide +kernel
theorem dX3_inner_76 : decode cX3_inner 76 = .ok (.iconst 1, 1) := by decide +kernel
theorem dX3_inner_77 : decode cX3_inner 77 = .ok (.aload_n 3, 1) := by decide +kernel
theorem dX3_inner_78 : decode cX3_inner 78 = .ok (.getfield 75, 3) := by decide +kernel
theorem dX3_inner_81 : decode cX3_inner 81 = .ok (.invokevirtual 91, 3) := by decide +kernel
theorem dX3_inner_84 : decode cX3_inner 84 = .ok (.aload 4, 2) := by decide +kernel
theorem dX3_inner_86 : decode cX3_inner 86 = .ok (.invokevirtual 95, 3) := by decide +kernel
theorem dX3_inner_89 : decode cX3_inner 89 = .ok (.aload_n 3, 1) := by decide +kernel
theorem dX3_inner_90 : decode cX3_inner 90 = .ok (.iconst 1, 1) := by decide +kernel
theorem dX3_inner_91 : decode cX3_inner 91 = .ok (.aload_n 3, 1) := by decide +kernel
theorem dX3_inner_92 : decode cX3_inner 92 = .ok (.getfield 75, 3) := by decide +kernel
theorem dX3_inner_95 : decode cX3_inner 95 = .ok (.invokevirtual 102, 3) := by decide +kernel
theorem dX3_inner_98 : decode cX3_inner 98 = .ok (.istore 7, 2) := by decide +kernel
theorem dX3_inner_100 : decode cX3_inner 100 = .ok (.iconst 0, 1) := by decide +kernel
theorem dX3_inner_101 : decode cX3_inner 101 = .ok (.istore 8, 2) := by decide +kernel
theorem dX3_inner_103 : decode cX3_inner 103 = .ok (.iconst 0, 1) := by decide +kernel
theorem dX3_inner_104 : decode cX3_inner 104 = .ok (.istore 9, 2) := by decide +kernel
theorem dX3_inner_106 : decode cX3_inner 106 = .ok (.iconst 0, 1) := by decide +kernel
theorem dX3_inner_107 : decode cX3_inner 107 = .ok (.istore 10, 2) := by decide +kernel
theorem dX3_inner_109 : decode cX3_inner 109 = .ok (.iload 10, 2) := by decide +kernel
theorem dX3_inner_111 : decode cX3_inner 111 = .ok (.aload 4, 2) := by decide +kernel
theorem dX3_inner_113 : decode cX3_inner 113 = .ok (.getfield 51, 3) := by decide +kernel
theorem dX3_inner_116 : decode cX3_inner 116 = .ok (.if_icmp .ge 93, 3) := by decide +kernel
theorem dX3_inner_119 : decode cX3_inner 119 = .ok (.iconst 0, 1) := by decide +kernel
theorem dX3_inner_120 : decode cX3_inner 120 = .ok (.istore 11, 2) := by decide +kernel
theorem dX3_inner_122 : decode cX3_inner 122 = .ok (.iload 11, 2) := by decide +kernel
theorem dX3_inner_124 : decode cX3_inner 124 = .ok (.iload 6, 2) := by decide +kernel
theorem dX3_inner_126 : decode cX3_inner 126 = .ok (.if_icmp .ge 44, 3) := by decide +kernel
theorem dX3_inner_129 : decode cX3_inner 129 = .ok (.aload 5, 2) := by decide +kernel
theorem dX3_inner_131 : decode cX3_inner 131 = .ok (.iload 11, 2) := by decide +kernel
theorem dX3_inner_133 : decode cX3_inner 133 = .ok (.iload_n 1, 1) := by decide +kernel
theorem dX3_inner_134 : decode cX3_inner 134 = .ok (.aload_n 2, 1) := by decide +kernel
theorem dX3_inner_135 : decode cX3_inner 135 = .ok (.getfield 55, 3) := by decide +kernel
theorem dX3_inner_138 : decode cX3_inner 138 = .ok (.iload 8, 2) := by decide +kernel
theorem dX3_inner_140 : decode cX3_inner 140 = .ok (.iload 6, 2) := by decide +kernel
theorem dX3_inner_142 : decode cX3_inner 142 = .ok (.imul, 1) := by decide +kernel
theorem dX3_inner_143 : decode cX3_inner 143 = .ok (.iload 11, 2) := by decide +kernel
theorem dX3_inner_145 : decode cX3_inner 145 = .ok (.iadd, 1) := by decide +kernel
theorem dX3_inner_146 : decode cX3_inner 146 = .ok (.iaload, 1) := by decide +kernel
theorem dX3_inner_147 : decode cX3_inner 147 = .ok (.aload_n 3, 1) := by decide +kernel
theorem dX3_inner_148 : decode cX3_inner 148 = .ok (.getfield 55, 3) := by decide +kernel
theorem dX3_inner_151 : decode cX3_inner 151 = .ok (.iload 11, 2) := by decide +kernel
theorem dX3_inner_153 : decode cX3_inner 153 = .ok (.iload 7, 2) := by decide +kernel
theorem dX3_inner_155 : decode cX3_inner 155 = .ok (.imul, 1) := by decide +kernel
theorem dX3_inner_156 : decode cX3_inner 156 = .ok (.iload 9, 2) := by decide +kernel
theorem dX3_inner_158 : decode cX3_inner 158 = .ok (.iadd, 1) := by decide +kernel
theorem dX3_inner_159 : decode cX3_inner 159 = .ok (.iaload, 1) := by decide +kernel
theorem dX3_inner_160 : decode cX3_inner 160 = .ok (.invokestatic 41, 3) := by decide +kernel
theorem dX3_inner_163 : decode cX3_inner 163 = .ok (.iastore, 1) := by decide +kernel
theorem dX3_inner_164 : decode cX3_inner 164 = .ok (.iinc 11 1, 3) := by decide +kernel
theorem dX3_inner_167 : decode cX3_inner 167 = .ok (.goto (-45), 3) := by decide +kernel
theorem dX3_inner_170 : decode cX3_inner 170 = .ok (.aload 4, 2) := by decide +kernel
theorem dX3_inner_172 : decode cX3_inner 172 = .ok (.getfield 55, 3) := by decide +kernel
theorem dX3_inner_175 : decode cX3_inner 175 = .ok (.iload 10, 2) := by decide +kernel
theorem dX3_inner_177 : decode cX3_inner 177 = .ok (.iload_n 0, 1) := by decide +kernel
theorem dX3_inner_178 : decode cX3_inner 178 = .ok (.aload 5, 2) := by decide +kernel
theorem dX3_inner_180 : decode cX3_inner 180 = .ok (.iconst 0, 1) := by decide +kernel
theorem dX3_inner_181 : decode cX3_inner 181 = .ok (.iload 6, 2) := by decide +kernel
theorem dX3_inner_183 : decode cX3_inner 183 = .ok (.invokestatic 98, 3) := by decide +kernel
theorem dX3_inner_186 : decode cX3_inner 186 = .ok (.iastore, 1) := by decide +kernel
theorem dX3_inner_187 : decode cX3_inner 187 = .ok (.iinc 9 1, 3) := by decide +kernel
theorem dX3_inner_190 : decode cX3_inner 190 = .ok (.iload 9, 2) := by decide +kernel
theorem dX3_inner_192 : decode cX3_inner 192 = .ok (.iload 7, 2) := by decide +kernel
theorem dX3_inner_194 : decode cX3_inner 194 = .ok (.if_icmp .ne 9, 3) := by decide +kernel
theorem dX3_inner_197 : decode cX3_inner 197 = .ok (.iconst 0, 1) := by decide +kernel
theorem dX3_inner_198 : decode cX3_inner 198 = .ok (.istore 9, 2) := by decide +kernel
theorem dX3_inner_200 : decode cX3_inner 200 = .ok (.iinc 8 1, 3) := by decide +kernel
theorem dX3_inner_203 : decode cX3_inner 203 = .ok (.iinc 10 1, 3) := by decide +kernel
theorem dX3_inner_206 : decode cX3_inner 206 = .ok (.goto (-97), 3) := by decide +kernel
theorem dX3_inner_209 : decode cX3_inner 209 = .ok (.return_, 1) := by decide +kernel
theorem dX3_outer_0 : decode cX3_outer 0 = .ok (.aload_n 1, 1) := by decide +kernel
theorem dX3_outer_1 : decode cX3_outer 1 = .ok (.getfield 75, 3) := by decide +kernel
theorem dX3_outer_4 : decode cX3_outer 4 = .ok (.aload_n 2, 1) := by decide +kernel
theorem dX3_outer_5 : decode cX3_outer 5 = .ok (.getfield 75, 3) := by decide +kernel
theorem dX3_outer_8 : decode cX3_outer 8 = .ok (.iadd, 1) := by decide +kernel
theorem dX3_outer_9 : decode cX3_outer 9 = .ok (.iconst 3, 1) := by decide +kernel
theorem dX3_outer_10 : decode cX3_outer 10 = .ok (.if_icmp .le 11, 3) := by decide +kernel
theorem dX3_outer_13 : decode cX3_outer 13 = .ok (.new 78, 3) := by decide +kernel
theorem dX3_outer_16 : decode cX3_outer 16 = .ok (.dup, 1) := by decide +kernel
theorem dX3_outer_17 : decode cX3_outer 17 = .ok (.invokespecial 80, 3) := by decide +kernel
theorem dX3_outer_20 : decode cX3_outer 20 = .ok (.athrow, 1) := by decide +kernel
theorem dX3_outer_21 : decode cX3_outer 21 = .ok (.aload_n 3, 1) := by decide +kernel
theorem dX3_outer_22 : decode cX3_outer 22 = .ok (.aload_n 1, 1) := by decide +kernel
theorem dX3_outer_23 : decode cX3_outer 23 = .ok (.iconst 0, 1) := by decide +kernel
theorem dX3_outer_24 : decode cX3_outer 24 = .ok (.aload_n 1, 1) := by decide +kernel
theorem dX3_outer_25 : decode cX3_outer 25 = .ok (.getfield 75, 3) := by decide +kernel
theorem dX3_outer_28 : decode cX3_outer 28 = .ok (.invokevirtual 91, 3) := by decide +kernel
theorem dX3_outer_31 : decode cX3_outer 31 = .ok (.aload_n 3, 1) := by decide +kernel
theorem dX3_outer_32 : decode cX3_outer 32 = .ok (.aload_n 2, 1) := by decide +kernel
theorem dX3_outer_33 : decode cX3_outer 33 = .ok (.iconst 0, 1) := by decide +kernel
theorem dX3_outer_34 : decode cX3_outer 34 = .ok (.aload_n 2, 1) := by decide +kernel
theorem dX3_outer_35 : decode cX3_outer 35 = .ok (.getfield 75, 3) := by decide +kernel
theorem dX3_outer_38 : decode cX3_outer 38 = .ok (.invokevirtual 91, 3) := by decide +kernel
theorem dX3_outer_41 : decode cX3_outer 41 = .ok (.aload_n 3, 1) := by decide +kernel
theorem dX3_outer_42 : decode cX3_outer 42 = .ok (.invokevirtual 95, 3) := by decide +kernel
theorem dX3_outer_45 : decode cX3_outer 45 = .ok (.iconst 0, 1) := by decide +kernel
theorem dX3_outer_46 : decode cX3_outer 46 = .ok (.istore 4, 2) := by decide +kernel
theorem dX3_outer_48 : decode cX3_outer 48 = .ok (.iconst 0, 1) := by decide +kernel
theorem dX3_outer_49 : decode cX3_outer 49 = .ok (.istore 5, 2) := by decide +kernel
theorem dX3_outer_51 : decode cX3_outer 51 = .ok (.iload 5, 2) := by decide +kernel
theorem dX3_outer_53 : decode cX3_outer 53 = .ok (.aload_n 1, 1) := by decide +kernel
theorem dX3_outer_54 : decode cX3_outer 54 = .ok (.getfield 51, 3) := by decide +kernel
theorem dX3_outer_57 : decode cX3_outer 57 = .ok (.if_icmp .ge 55, 3) := by decide +kernel
theorem dX3_outer_60 : decode cX3_outer 60 = .ok (.iconst 0, 1) := by decide +kernel
theorem dX3_outer_61 : decode cX3_outer 61 = .ok (.istore 6, 2) := by decide +kernel
theorem dX3_outer_63 : decode cX3_outer 63 = .ok (.iload 6, 2) := by decide +kernel
theorem dX3_outer_65 : decode cX3_outer 65 = .ok (.aload_n 2, 1) := by decide +kernel
theorem dX3_outer_66 : decode cX3_outer 66 = .ok (.getfield 51, 3) := by decide +kernel
theorem dX3_outer_69 : decode cX3_outer 69 = .ok (.if_icmp .ge 37, 3) := by decide +kernel
theorem dX3_outer_72 : decode cX3_outer 72 = .ok (.aload_n 3, 1) := by decide +kernel
theorem dX3_outer_73 : decode cX3_outer 73 = .ok (.getfield 55, 3) := by decide +kernel
theorem dX3_outer_76 : decode cX3_outer 76 = .ok (.iload 4, 2) := by decide +kernel
theorem dX3_outer_78 : decode cX3_outer 78 = .ok (.iload_n 0, 1) := by decide +kernel
theorem dX3_outer_79 : decode cX3_outer 79 = .ok (.aload_n 1, 1) := by decide +kernel
theorem dX3_outer_80 : decode cX3_outer 80 = .ok (.getfield 55, 3) := by decide +kernel
theorem dX3_outer_83 : decode cX3_outer 83 = .ok (.iload 5, 2) := by decide +kernel
theorem dX3_outer_85 : decode cX3_outer 85 = .ok (.iaload, 1) := by decide +kernel
theorem dX3_outer_86 : decode cX3_outer 86 = .ok (.aload_n 2, 1) := by decide +kernel
theorem dX3_outer_87 : decode cX3_outer 87 = .ok (.getfield 55, 3) := by decide +kernel
theorem dX3_outer_90 : decode cX3_outer 90 = .ok (.iload 6, 2) := by decide +kernel
theorem dX3_outer_92 : decode cX3_outer 92 = .ok (.iaload, 1) := by decide +kernel
theorem dX3_outer_93 : decode cX3_outer 93 = .ok (.invokestatic 41, 3) := by decide +kernel
theorem dX3_outer_96 : decode cX3_outer 96 = .ok (.iastore, 1) := by decide +kernel
theorem dX3_outer_97 : decode cX3_outer 97 = .ok (.iinc 4 1, 3) := by decide +kernel
theorem dX3_outer_100 : decode cX3_outer 100 = .ok (.iinc 6 1, 3) := by decide +kernel
theorem dX3_outer_103 : decode cX3_outer 103 = .ok (.goto (-40), 3) := by decide +kernel
theorem dX3_outer_106 : decode cX3_outer 106 = .ok (.iinc 5 1, 3) := by decide +kernel
theorem dX3_outer_109 : decode cX3_outer 109 = .ok (.goto (-58), 3) := by decide +kernel
theorem dX3_outer_112 : decode cX3_outer 112 = .ok (.return_, 1) := by decide +kernel
theorem dX4_ofOne_0 : decode cX4_ofOne 0 = .ok (.iload_n 0, 1) := by decide +kernel
theorem dX4_ofOne_1 : decode cX4_ofOne 1 = .ok (.lookupswitch 95 #[(44, 59), (105, 43), (114, 51), (116, 87)], 43) := by decide +kernel
theorem dX4_ofOne_44 : decode cX4_ofOne 44 = .ok (.aload_n 1, 1) := by decide +kernel
theorem dX4_ofOne_45 : decode cX4_ofOne 45 = .ok (.aload_n 2, 1) := by decide +kernel
theorem dX4_ofOne_46 : decode cX4_ofOne 46 = .ok (.invokestatic 9, 3) := by decide +kernel
theorem dX4_ofOne_49 : decode cX4_ofOne 49 = .ok (.goto 52, 3) := by decide +kernel
theorem dX4_ofOne_52 : decode cX4_ofOne 52 = .ok (.aload_n 1, 1) := by decide +kernel
theorem dX4_ofOne_53 : decode cX4_ofOne 53 = .ok (.aload_n 2, 1) := by decide +kernel
theorem dX4_ofOne_54 : decode cX4_ofOne 54 = .ok (.invokestatic 15, 3) := by decide +kernel
theorem dX4_ofOne_57 : decode cX4_ofOne 57 = .ok (.goto 44, 3) := by decide +kernel
theorem dX4_ofOne_60 : decode cX4_ofOne 60 = .ok (.aload_n 2, 1) := by decide +kernel
theorem dX4_ofOne_61 : decode cX4_ofOne 61 = .ok (.aload_n 1, 1) := by decide +kernel
theorem dX4_ofOne_62 : decode cX4_ofOne 62 = .ok (.getfield 18, 3) := by decide +kernel
theorem dX4_ofOne_65 : decode cX4_ofOne 65 = .ok (.invokevirtual 24, 3) := by decide +kernel
theorem dX4_ofOne_68 : decode cX4_ofOne 68 = .ok (.aload_n 1, 1) := by decide +kernel
theorem dX4_ofOne_69 : decode cX4_ofOne 69 = .ok (.getfield 28, 3) := by decide +kernel
theorem dX4_ofOne_72 : decode cX4_ofOne 72 = .ok (.iconst 0, 1) := by decide +kernel
theorem dX4_ofOne_73 : decode cX4_ofOne 73 = .ok (.aload_n 2, 1) := by decide +kernel
theorem dX4_ofOne_74 : decode cX4_ofOne 74 = .ok (.getfield 28, 3) := by decide +kernel
theorem dX4_ofOne_77 : decode cX4_ofOne 77 = .ok (.iconst 0, 1) := by decide +kernel
theorem dX4_ofOne_78 : decode cX4_ofOne 78 = .ok (.aload_n 1, 1) := by decide +kernel
theorem dX4_ofOne_79 : decode cX4_ofOne 79 = .ok (.getfield 18, 3) := by decide +kernel
theorem dX4_ofOne_82 : decode cX4_ofOne 82 = .ok (.invokestatic 32, 3) := by decide +kernel
theorem dX4_ofOne_85 : decode cX4_ofOne 85 = .ok (.goto 16, 3) := by decide +kernel
theorem dX4_ofOne_88 : decode cX4_ofOne 88 = .ok (.aload_n 1, 1) := by decide +kernel
theorem dX4_ofOne_89 : decode cX4_ofOne 89 = .ok (.aload_n 2, 1) := by decide +kernel
theorem dX4_ofOne_90 : decode cX4_ofOne 90 = .ok (.invokestatic 38, 3) := by decide +kernel
theorem dX4_ofOne_93 : decode cX4_ofOne 93 = .ok (.goto 8, 3) := by decide +kernel
theorem dX4_ofOne_96 : decode cX4_ofOne 96 = .ok (.aload_n 1, 1) := by decide +kernel
theorem dX4_ofOne_97 : decode cX4_ofOne 97 = .ok (.aload_n 2, 1) := by decide +kernel
theorem dX4_ofOne_98 : decode cX4_ofOne 98 = .ok (.invokestatic 41, 3) := by decide +kernel
theorem dX4_ofOne_101 : decode cX4_ofOne 101 = .ok (.return_, 1) := by decide +kernel
theorem dX4_ofTwo_0 : decode cX4_ofTwo 0 = .ok (.iload_n 0, 1) := by decide +kernel
theorem dX4_ofTwo_1 : decode cX4_ofTwo 1 = .ok (.lookupswitch 45 #[(44, 36), (114, 27)], 27) := by decide +kernel
theorem dX4_ofTwo_28 : decode cX4_ofTwo 28 = .ok (.aload_n 1, 1) := by decide +kernel
theorem dX4_ofTwo_29 : decode cX4_ofTwo 29 = .ok (.aload_n 2, 1) := by decide +kernel
theorem dX4_ofTwo_30 : decode cX4_ofTwo 30 = .ok (.aload_n 3, 1) := by decide +kernel
theorem dX4_ofTwo_31 : decode cX4_ofTwo 31 = .ok (.invokestatic 44, 3) := by decide +kernel
theorem dX4_ofTwo_34 : decode cX4_ofTwo 34 = .ok (.goto 18, 3) := by decide +kernel
theorem dX4_ofTwo_37 : decode cX4_ofTwo 37 = .ok (.aload_n 1, 1) := by decide +kernel
theorem dX4_ofTwo_38 : decode cX4_ofTwo 38 = .ok (.aload_n 2, 1) := by decide +kernel
theorem dX4_ofTwo_39 : decode cX4_ofTwo 39 = .ok (.aload_n 3, 1) := by decide +kernel
theorem dX4_ofTwo_40 : decode cX4_ofTwo 40 = .ok (.invokestatic 48, 3) := by decide +kernel
theorem dX4_ofTwo_43 : decode cX4_ofTwo 43 = .ok (.goto 9, 3) := by decide +kernel
theorem dX4_ofTwo_46 : decode cX4_ofTwo 46 = .ok (.aload_n 1, 1) := by decide +kernel
theorem dX4_ofTwo_47 : decode cX4_ofTwo 47 = .ok (.aload_n 2, 1) := by decide +kernel
theorem dX4_ofTwo_48 : decode cX4_ofTwo 48 = .ok (.aload_n 3, 1) := by decide +kernel
theorem dX4_ofTwo_49 : decode cX4_ofTwo 49 = .ok (.invokestatic 51, 3) := by decide +kernel
theorem dX4_ofTwo_52 : decode cX4_ofTwo 52 = .ok (.return_, 1) := by decide +kernel
theorem dX4_upTo_0 : decode cX4_upTo 0 = .ok (.aload_n 0, 1) := by decide +kernel
theorem dX4_upTo_1 : decode cX4_upTo 1 = .ok (.getfield 54, 3) := by decide +kernel
theorem dX4_upTo_4 : decode cX4_upTo 4 = .ok (.iconst 1, 1) := by decide +kernel
theorem dX4_upTo_5 : decode cX4_upTo 5 = .ok (.if_icmp .le 11, 3) := by decide +kernel
theorem dX4_upTo_8 : decode cX4_upTo 8 = .ok (.new 57, 3) := by decide +kernel
theorem dX4_upTo_11 : decode cX4_upTo 11 = .ok (.dup, 1) := by decide +kernel
theorem dX4_upTo_12 : decode cX4_upTo 12 = .ok (.invokespecial 59, 3) := by decide +kernel
theorem dX4_upTo_15 : decode cX4_upTo 15 = .ok (.athrow, 1) := by decide +kernel
theorem dX4_upTo_16 : decode cX4_upTo 16 = .ok (.aload_n 0, 1) := by decide +kernel
theorem dX4_upTo_17 : decode cX4_upTo 17 = .ok (.getfield 18, 3) := by decide +kernel
theorem dX4_upTo_20 : decode cX4_upTo 20 = .ok (.iconst 1, 1) := by decide +kernel
theorem dX4_upTo_21 : decode cX4_upTo 21 = .ok (.if_icmp .eq 11, 3) := by decide +kernel
theorem dX4_upTo_24 : decode cX4_upTo 24 = .ok (.new 60, 3) := by decide +kernel
theorem dX4_upTo_27 : decode cX4_upTo 27 = .ok (.dup, 1) := by decide +kernel
theorem dX4_upTo_28 : decode cX4_upTo 28 = .ok (.invokespecial 62, 3) := by decide +kernel
theorem dX4_upTo_31 : decode cX4_upTo 31 = .ok (.athrow, 1) := by decide +kernel
theorem dX4_upTo_32 : decode cX4_upTo 32 = .ok (.aload_n 0, 1) := by decide +kernel
theorem dX4_upTo_33 : decode cX4_upTo 33 = .ok (.getfield 28, 3) := by decide +kernel
theorem dX4_upTo_36 : decode cX4_upTo 36 = .ok (.iconst 0, 1) := by decide +kernel
theorem dX4_upTo_37 : decode cX4_upTo 37 = .ok (.iaload, 1) := by decide +kernel
theorem dX4_upTo_38 : decode cX4_upTo 38 = .ok (.ifCond .ge 11, 3) := by decide +kernel
theorem dX4_upTo_41 : decode cX4_upTo 41 = .ok (.new 63, 3) := by decide +kernel
theorem dX4_upTo_44 : decode cX4_upTo 44 = .ok (.dup, 1) := by decide +kernel
theorem dX4_upTo_45 : decode cX4_upTo 45 = .ok (.invokespecial 65, 3) := by decide +kernel
theorem dX4_upTo_48 : decode cX4_upTo 48 = .ok (.athrow, 1) := by decide +kernel
theorem dX4_upTo_49 : decode cX4_upTo 49 = .ok (.aload_n 1, 1) := by decide +kernel
theorem dX4_upTo_50 : decode cX4_upTo 50 = .ok (.aload_n 0, 1) := by decide +kernel
theorem dX4_upTo_51 : decode cX4_upTo 51 = .ok (.getfield 28, 3) := by decide +kernel
theorem dX4_upTo_54 : decode cX4_upTo 54 = .ok (.iconst 0, 1) := by decide +kernel
theorem dX4_upTo_55 : decode cX4_upTo 55 = .ok (.iaload, 1) := by decide +kernel
theorem dX4_upTo_56 : decode cX4_upTo 56 = .ok (.invokevirtual 24, 3) := by decide +kernel
theorem dX4_upTo_59 : decode cX4_upTo 59 = .ok (.iconst 0, 1) := by decide +kernel
theorem dX4_upTo_60 : decode cX4_upTo 60 = .ok (.istore_n 2, 1) := by decide +kernel
theorem dX4_upTo_61 : decode cX4_upTo 61 = .ok (.iload_n 2, 1) := by decide +kernel
theorem dX4_upTo_62 : decode cX4_upTo 62 = .ok (.aload_n 1, 1) := by decide +kernel
theorem dX4_upTo_63 : decode cX4_upTo 63 = .ok (.getfield 18, 3) := by decide +kernel
theorem dX4_upTo_66 : decode cX4_upTo 66 = .ok (.if_icmp .ge 16, 3) := by decide +kernel
theorem dX4_upTo_69 : decode cX4_upTo 69 = .ok (.aload_n 1, 1) := by decide +kernel
theorem dX4_upTo_70 : decode cX4_upTo 70 = .ok (.getfield 28, 3) := by decide +kernel
theorem dX4_upTo_73 : decode cX4_upTo 73 = .ok (.iload_n 2, 1) := by decide +kernel
theorem dX4_upTo_74 : decode cX4_upTo 74 = .ok (.iload_n 2, 1) := by decide +kernel
theorem dX4_upTo_75 : decode cX4_upTo 75 = .ok (.iastore, 1) := by decide +kernel
theorem dX4_upTo_76 : decode cX4_upTo 76 = .ok (.iinc 2 1, 3) := by decide +kernel
theorem dX4_upTo_79 : decode cX4_upTo 79 = .ok (.goto (-18), 3) := by decide +kernel
theorem dX4_upTo_82 : decode cX4_upTo 82 = .ok (.return_, 1) := by decide +kernel
theorem dX4_lengthsOf_0 : decode cX4_lengthsOf 0 = .ok (.aload_n 1, 1) := by decide +kernel
theorem dX4_lengthsOf_1 : decode cX4_lengthsOf 1 = .ok (.aload_n 0, 1) := by decide +kernel
theorem dX4_lengthsOf_2 : decode cX4_lengthsOf 2 = .ok (.getfield 54, 3) := by decide +kernel
theorem dX4_lengthsOf_5 : decode cX4_lengthsOf 5 = .ok (.invokevirtual 24, 3) := by decide +kernel
theorem dX4_lengthsOf_8 : decode cX4_lengthsOf 8 = .ok (.aload_n 0, 1) := by decide +kernel
theorem dX4_lengthsOf_9 : decode cX4_lengthsOf 9 = .ok (.getfield 66, 3) := by decide +kernel
theorem dX4_lengthsOf_12 : decode cX4_lengthsOf 12 = .ok (.iconst 0, 1) := by decide +kernel
theorem dX4_lengthsOf_13 : decode cX4_lengthsOf 13 = .ok (.aload_n 1, 1) := by decide +kernel
theorem dX4_lengthsOf_14 : decode cX4_lengthsOf 14 = .ok (.getfield 28, 3) := by decide +kernel
theorem dX4_lengthsOf_17 : decode cX4_lengthsOf 17 = .ok (.iconst 0, 1) := by decide +kernel
theorem dX4_lengthsOf_18 : decode cX4_lengthsOf 18 = .ok (.aload_n 0, 1) := by decide +kernel
theorem dX4_lengthsOf_19 : decode cX4_lengthsOf 19 = .ok (.getfield 54, 3) := by decide +kernel
theorem dX4_lengthsOf_22 : decode cX4_lengthsOf 22 = .ok (.invokestatic 32, 3) := by decide +kernel
theorem dX4_lengthsOf_25 : decode cX4_lengthsOf 25 = .ok (.return_, 1) := by decide +kernel
theorem dX4_turnAxes_0 : decode cX4_turnAxes 0 = .ok (.aload_n 0, 1) := by decide +kernel
theorem dX4_turnAxes_1 : decode cX4_turnAxes 1 = .ok (.getfield 54, 3) := by decide +kernel
theorem dX4_turnAxes_4 : decode cX4_turnAxes 4 = .ok (.iconst 1, 1) := by decide +kernel
theorem dX4_turnAxes_5 : decode cX4_turnAxes 5 = .ok (.isub, 1) := by decide +kernel
theorem dX4_turnAxes_6 : decode cX4_turnAxes 6 = .ok (.istore_n 2, 1) := by decide +kernel
theorem dX4_turnAxes_7 : decode cX4_turnAxes 7 = .ok (.iload_n 2, 1) := by decide +kernel
theorem dX4_turnAxes_8 : decode cX4_turnAxes 8 = .ok (.ifCond .lt 19, 3) := by decide +kernel
theorem dX4_turnAxes_11 : decode cX4_turnAxes 11 = .ok (.aload_n 1, 1) := by decide +kernel
theorem dX4_turnAxes_12 : decode cX4_turnAxes 12 = .ok (.aload_n 0, 1) := by decide +kernel
theorem dX4_turnAxes_13 : decode cX4_turnAxes 13 = .ok (.getfield 66, 3) := by decide +kernel
theorem dX4_turnAxes_16 : decode cX4_turnAxes 16 = .ok (.iload_n 2, 1) := by decide +kernel
theorem dX4_turnAxes_17 : decode cX4_turnAxes 17 = .ok (.iaload, 1) := by decide +kernel
theorem dX4_turnAxes_18 : decode cX4_turnAxes 18 = .ok (.invokevirtual 24, 3) := by decide +kernel
theorem dX4_turnAxes_21 : decode cX4_turnAxes 21 = .ok (.iinc 2 (-1), 3) := by decide +kernel
theorem dX4_turnAxes_24 : decode cX4_turnAxes 24 = .ok (.goto (-17), 3) := by decide +kernel
theorem dX4_turnAxes_27 : decode cX4_turnAxes 27 = .ok (.aload_n 0, 1) := by decide +kernel
theorem dX4_turnAxes_28 : decode cX4_turnAxes 28 = .ok (.getfield 54, 3) := by decide +kernel
theorem dX4_turnAxes_31 : decode cX4_turnAxes 31 = .ok (.iconst 3, 1) := by decide +kernel
theorem dX4_turnAxes_32 : decode cX4_turnAxes 32 = .ok (.if_icmp .ge 7, 3) := by decide +kernel
theorem dX4_turnAxes_35 : decode cX4_turnAxes 35 = .ok (.iconst 1, 1) := by decide +kernel
theorem dX4_turnAxes_36 : decode cX4_turnAxes 36 = .ok (.goto 9, 3) := by decide +kernel
theorem dX4_turnAxes_39 : decode cX4_turnAxes 39 = .ok (.aload_n 0, 1) := by decide +kernel
theorem dX4_turnAxes_40 : decode cX4_turnAxes 40 = .ok (.getfield 66, 3) := by decide +kernel
theorem dX4_turnAxes_43 : decode cX4_turnAxes 43 = .ok (.iconst 0, 1) := by decide +kernel
theorem dX4_turnAxes_44 : decode cX4_turnAxes 44 = .ok (.iaload, 1) := by decide +kernel
theorem dX4_turnAxes_45 : decode cX4_turnAxes 45 = .ok (.istore_n 2, 1) := by decide +kernel
theorem dX4_turnAxes_46 : decode cX4_turnAxes 46 = .ok (.aload_n 0, 1) := by decide +kernel
theorem dX4_turnAxes_47 : decode cX4_turnAxes 47 = .ok (.getfield 54, 3) := by decide +kernel
theorem dX4_turnAxes_50 : decode cX4_turnAxes 50 = .ok (.iconst 2, 1) := by decide +kernel
theorem dX4_turnAxes_51 : decode cX4_turnAxes 51 = .ok (.if_icmp .ge 7, 3) := by decide +kernel
theorem dX4_turnAxes_54 : decode cX4_turnAxes 54 = .ok (.iconst 1, 1) := by decide +kernel
theorem dX4_turnAxes_55 : decode cX4_turnAxes 55 = .ok (.goto 14, 3) := by decide +kernel
theorem dX4_turnAxes_58 : decode cX4_turnAxes 58 = .ok (.aload_n 0, 1) := by decide +kernel
theorem dX4_turnAxes_59 : decode cX4_turnAxes 59 = .ok (.getfield 66, 3) := by decide +kernel
theorem dX4_turnAxes_62 : decode cX4_turnAxes 62 = .ok (.aload_n 0, 1) := by decide +kernel
theorem dX4_turnAxes_63 : decode cX4_turnAxes 63 = .ok (.getfield 54, 3) := by decide +kernel
theorem dX4_turnAxes_66 : decode cX4_turnAxes 66 = .ok (.iconst 2, 1) := by decide +kernel
theorem dX4_turnAxes_67 : decode cX4_turnAxes 67 = .ok (.isub, 1) := by decide +kernel
theorem dX4_turnAxes_68 : decode cX4_turnAxes 68 = .ok (.iaload, 1) := by decide +kernel
theorem dX4_turnAxes_69 : decode cX4_turnAxes 69 = .ok (.istore_n 3, 1) := by decide +kernel
theorem dX4_turnAxes_70 : decode cX4_turnAxes 70 = .ok (.aload_n 0, 1) := by decide +kernel
theorem dX4_turnAxes_71 : decode cX4_turnAxes 71 = .ok (.invokevirtual 69, 3) := by decide +kernel
theorem dX4_turnAxes_74 : decode cX4_turnAxes 74 = .ok (.istore 4, 2) := by decide +kernel
theorem dX4_turnAxes_76 : decode cX4_turnAxes 76 = .ok (.iconst 0, 1) := by decide +kernel
theorem dX4_turnAxes_77 : decode cX4_turnAxes 77 = .ok (.istore 5, 2) := by decide +kernel
theorem dX4_turnAxes_79 : decode cX4_turnAxes 79 = .ok (.iconst 0, 1) := by decide +kernel
theorem dX4_turnAxes_80 : decode cX4_turnAxes 80 = .ok (.istore 6, 2) := by decide +kernel
theorem dX4_turnAxes_82 : decode cX4_turnAxes 82 = .ok (.iload 6, 2) := by decide +kernel
theorem dX4_turnAxes_84 : decode cX4_turnAxes 84 = .ok (.iload 4, 2) := by decide +kernel
theorem dX4_turnAxes_86 : decode cX4_turnAxes 86 = .ok (.if_icmp .ge 67, 3) := by decide +kernel
theorem dX4_turnAxes_89 : decode cX4_turnAxes 89 = .ok (.iconst 0, 1) := by decide +kernel
theorem dX4_turnAxes_90 : decode cX4_turnAxes 90 = .ok (.istore 7, 2) := by decide +kernel
theorem dX4_turnAxes_92 : decode cX4_turnAxes 92 = .ok (.iload 7, 2) := by decide +kernel
theorem dX4_turnAxes_94 : decode cX4_turnAxes 94 = .ok (.iload_n 3, 1) := by decide +kernel
theorem dX4_turnAxes_95 : decode cX4_turnAxes 95 = .ok (.if_icmp .ge 52, 3) := by decide +kernel
theorem dX4_turnAxes_98 : decode cX4_turnAxes 98 = .ok (.iconst 0, 1) := by decide +kernel
theorem dX4_turnAxes_99 : decode cX4_turnAxes 99 = .ok (.istore 8, 2) := by decide +kernel
theorem dX4_turnAxes_101 : decode cX4_turnAxes 101 = .ok (.iload 8, 2) := by decide +kernel
theorem dX4_turnAxes_103 : decode cX4_turnAxes 103 = .ok (.iload_n 2, 1) := by decide +kernel
theorem dX4_turnAxes_104 : decode cX4_turnAxes 104 = .ok (.if_icmp .ge 37, 3) := by decide +kernel
theorem dX4_turnAxes_107 : decode cX4_turnAxes 107 = .ok (.aload_n 1, 1) := by decide +kernel
theorem dX4_turnAxes_108 : decode cX4_turnAxes 108 = .ok (.getfield 28, 3) := by decide +kernel
theorem dX4_turnAxes_111 : decode cX4_turnAxes 111 = .ok (.iload 5, 2) := by decide +kernel
theorem dX4_turnAxes_113 : decode cX4_turnAxes 113 = .ok (.aload_n 0, 1) := by decide +kernel
theorem dX4_turnAxes_114 : decode cX4_turnAxes 114 = .ok (.getfield 28, 3) := by decide +kernel
theorem dX4_turnAxes_117 : decode cX4_turnAxes 117 = .ok (.iload 8, 2) := by decide +kernel
theorem dX4_turnAxes_119 : decode cX4_turnAxes 119 = .ok (.iload_n 3, 1) := by decide +kernel
theorem dX4_turnAxes_120 : decode cX4_turnAxes 120 = .ok (.imul, 1) := by decide +kernel
theorem dX4_turnAxes_121 : decode cX4_turnAxes 121 = .ok (.iload 7, 2) := by decide +kernel
theorem dX4_turnAxes_123 : decode cX4_turnAxes 123 = .ok (.iadd, 1) := by decide +kernel
theorem dX4_turnAxes_124 : decode cX4_turnAxes 124 = .ok (.iload 4, 2) := by decide +kernel
theorem dX4_turnAxes_126 : decode cX4_turnAxes 126 = .ok (.imul, 1) := by decide +kernel
theorem dX4_turnAxes_127 : decode cX4_turnAxes 127 = .ok (.iload 6, 2) := by decide +kernel
theorem dX4_turnAxes_129 : decode cX4_turnAxes 129 = .ok (.iadd, 1) := by decide +kernel
theorem dX4_turnAxes_130 : decode cX4_turnAxes 130 = .ok (.iaload, 1) := by decide +kernel
theorem dX4_turnAxes_131 : decode cX4_turnAxes 131 = .ok (.iastore, 1) := by decide +kernel
theorem dX4_turnAxes_132 : decode cX4_turnAxes 132 = .ok (.iinc 5 1, 3) := by decide +kernel
theorem dX4_turnAxes_135 : decode cX4_turnAxes 135 = .ok (.iinc 8 1, 3) := by decide +kernel
theorem dX4_turnAxes_138 : decode cX4_turnAxes 138 = .ok (.goto (-37), 3) := by decide +kernel
theorem dX4_turnAxes_141 : decode cX4_turnAxes 141 = .ok (.iinc 7 1, 3) := by decide +kernel
theorem dX4_turnAxes_144 : decode cX4_turnAxes 144 = .ok (.goto (-52), 3) := by decide +kernel
theorem dX4_turnAxes_147 : decode cX4_turnAxes 147 = .ok (.iinc 6 1, 3) := by decide +kernel
theorem dX4_turnAxes_150 : decode cX4_turnAxes 150 = .ok (.goto (-68), 3) := by decide +kernel
theorem dX4_turnAxes_153 : decode cX4_turnAxes 153 = .ok (.return_, 1) := by decide +kernel
theorem dX4_turnRows_0 : decode cX4_turnRows 0 = .ok (.aload_n 0, 1) := by decide +kernel
theorem dX4_turnRows_1 : decode cX4_turnRows 1 = .ok (.invokevirtual 69, 3) := by decide +kernel
theorem dX4_turnRows_4 : decode cX4_turnRows 4 = .ok (.istore_n 2, 1) := by decide +kernel
theorem dX4_turnRows_5 : decode cX4_turnRows 5 = .ok (.aload_n 1, 1) := by decide +kernel
theorem dX4_turnRows_6 : decode cX4_turnRows 6 = .ok (.aload_n 0, 1) := by decide +kernel
theorem dX4_turnRows_7 : decode cX4_turnRows 7 = .ok (.invokevirtual 73, 3) := by decide +kernel
theorem dX4_turnRows_10 : decode cX4_turnRows 10 = .ok (.iconst 0, 1) := by decide +kernel
theorem dX4_turnRows_11 : decode cX4_turnRows 11 = .ok (.istore_n 3, 1) := by decide +kernel
theorem dX4_turnRows_12 : decode cX4_turnRows 12 = .ok (.iconst 0, 1) := by decide +kernel
theorem dX4_turnRows_13 : decode cX4_turnRows 13 = .ok (.istore 4, 2) := by decide +kernel
theorem dX4_turnRows_15 : decode cX4_turnRows 15 = .ok (.iload 4, 2) := by decide +kernel
theorem dX4_turnRows_17 : decode cX4_turnRows 17 = .ok (.aload_n 1, 1) := by decide +kernel
theorem dX4_turnRows_18 : decode cX4_turnRows 18 = .ok (.getfield 18, 3) := by decide +kernel
theorem dX4_turnRows_21 : decode cX4_turnRows 21 = .ok (.if_icmp .ge 42, 3) := by decide +kernel
theorem dX4_turnRows_24 : decode cX4_turnRows 24 = .ok (.iload 4, 2) := by decide +kernel
theorem dX4_turnRows_26 : decode cX4_turnRows 26 = .ok (.iload_n 3, 1) := by decide +kernel
theorem dX4_turnRows_27 : decode cX4_turnRows 27 = .ok (.iload_n 2, 1) := by decide +kernel
theorem dX4_turnRows_28 : decode cX4_turnRows 28 = .ok (.iadd, 1) := by decide +kernel
theorem dX4_turnRows_29 : decode cX4_turnRows 29 = .ok (.if_icmp .ne 6, 3) := by decide +kernel
theorem dX4_turnRows_32 : decode cX4_turnRows 32 = .ok (.iload 4, 2) := by decide +kernel
theorem dX4_turnRows_34 : decode cX4_turnRows 34 = .ok (.istore_n 3, 1) := by decide +kernel
theorem dX4_turnRows_35 : decode cX4_turnRows 35 = .ok (.aload_n 1, 1) := by decide +kernel
theorem dX4_turnRows_36 : decode cX4_turnRows 36 = .ok (.getfield 28, 3) := by decide +kernel
theorem dX4_turnRows_39 : decode cX4_turnRows 39 = .ok (.iload 4, 2) := by decide +kernel
theorem dX4_turnRows_41 : decode cX4_turnRows 41 = .ok (.aload_n 0, 1) := by decide +kernel
theorem dX4_turnRows_42 : decode cX4_turnRows 42 = .ok (.getfield 28, 3) := by decide +kernel
theorem dX4_turnRows_45 : decode cX4_turnRows 45 = .ok (.iload_n 3, 1) := by decide +kernel
theorem dX4_turnRows_46 : decode cX4_turnRows 46 = .ok (.iload_n 2, 1) := by decide +kernel
theorem dX4_turnRows_47 : decode cX4_turnRows 47 = .ok (.iadd, 1) := by decide +kernel
theorem dX4_turnRows_48 : decode cX4_turnRows 48 = .ok (.iconst 1, 1) := by decide +kernel
theorem dX4_turnRows_49 : decode cX4_turnRows 49 = .ok (.isub, 1) := by decide +kernel
theorem dX4_turnRows_50 : decode cX4_turnRows 50 = .ok (.iload 4, 2) := by decide +kernel
theorem dX4_turnRows_52 : decode cX4_turnRows 52 = .ok (.iload_n 3, 1) := by decide +kernel
theorem dX4_turnRows_53 : decode cX4_turnRows 53 = .ok (.isub, 1) := by decide +kernel
theorem dX4_turnRows_54 : decode cX4_turnRows 54 = .ok (.isub, 1) := by decide +kernel
theorem dX4_turnRows_55 : decode cX4_turnRows 55 = .ok (.iaload, 1) := by decide +kernel
theorem dX4_turnRows_56 : decode cX4_turnRows 56 = .ok (.iastore, 1) := by decide +kernel
theorem dX4_turnRows_57 : decode cX4_turnRows 57 = .ok (.iinc 4 1, 3) := by decide +kernel
theorem dX4_turnRows_60 : decode cX4_turnRows 60 = .ok (.goto (-45), 3) := by decide +kernel
theorem dX4_turnRows_63 : decode cX4_turnRows 63 = .ok (.return_, 1) := by decide +kernel
theorem dX4_reshape_0 : decode cX4_reshape 0 = .ok (.aload_n 0, 1) := by decide +kernel
theorem dX4_reshape_1 : decode cX4_reshape 1 = .ok (.getfield 54, 3) := by decide +kernel
theorem dX4_reshape_4 : decode cX4_reshape 4 = .ok (.iconst 1, 1) := by decide +kernel
theorem dX4_reshape_5 : decode cX4_reshape 5 = .ok (.if_icmp .gt 11, 3) := by decide +kernel
theorem dX4_reshape_8 : decode cX4_reshape 8 = .ok (.aload_n 0, 1) := by decide +kernel
theorem dX4_reshape_9 : decode cX4_reshape 9 = .ok (.getfield 18, 3) := by decide +kernel
theorem dX4_reshape_12 : decode cX4_reshape 12 = .ok (.iconst 3, 1) := by decide +kernel
theorem dX4_reshape_13 : decode cX4_reshape 13 = .ok (.if_icmp .le 11, 3) := by decide +kernel
theorem dX4_reshape_16 : decode cX4_reshape 16 = .ok (.new 57, 3) := by decide +kernel
theorem dX4_reshape_19 : decode cX4_reshape 19 = .ok (.dup, 1) := by decide +kernel
theorem dX4_reshape_20 : decode cX4_reshape 20 = .ok (.invokespecial 59, 3) := by decide +kernel
theorem dX4_reshape_23 : decode cX4_reshape 23 = .ok (.athrow, 1) := by decide +kernel
theorem dX4_reshape_24 : decode cX4_reshape 24 = .ok (.iconst 0, 1) := by decide +kernel
theorem dX4_reshape_25 : decode cX4_reshape 25 = .ok (.istore_n 3, 1) := by decide +kernel
theorem dX4_reshape_26 : decode cX4_reshape 26 = .ok (.iload_n 3, 1) := by decide +kernel
theorem dX4_reshape_27 : decode cX4_reshape 27 = .ok (.aload_n 0, 1) := by decide +kernel
theorem dX4_reshape_28 : decode cX4_reshape 28 = .ok (.getfield 18, 3) := by decide +kernel
theorem dX4_reshape_31 : decode cX4_reshape 31 = .ok (.if_icmp .ge 26, 3) := by decide +kernel
theorem dX4_reshape_34 : decode cX4_reshape 34 = .ok (.aload_n 0, 1) := by decide +kernel
theorem dX4_reshape_35 : decode cX4_reshape 35 = .ok (.getfield 28, 3) := by decide +kernel
theorem dX4_reshape_38 : decode cX4_reshape 38 = .ok (.iload_n 3, 1) := by decide +kernel
theorem dX4_reshape_39 : decode cX4_reshape 39 = .ok (.iaload, 1) := by decide +kernel
theorem dX4_reshape_40 : decode cX4_reshape 40 = .ok (.ifCond .ge 11, 3) := by decide +kernel
theorem dX4_reshape_43 : decode cX4_reshape 43 = .ok (.new 63, 3) := by decide +kernel
theorem dX4_reshape_46 : decode cX4_reshape 46 = .ok (.dup, 1) := by decide +kernel
theorem dX4_reshape_47 : decode cX4_reshape 47 = .ok (.invokespecial 65, 3) := by decide +kernel
theorem dX4_reshape_50 : decode cX4_reshape 50 = .ok (.athrow, 1) := by decide +kernel
theorem dX4_reshape_51 : decode cX4_reshape 51 = .ok (.iinc 3 1, 3) := by decide +kernel
theorem dX4_reshape_54 : decode cX4_reshape 54 = .ok (.goto (-28), 3) := by decide +kernel
theorem dX4_reshape_57 : decode cX4_reshape 57 = .ok (.iconst 0, 1) := by decide +kernel
theorem dX4_reshape_58 : decode cX4_reshape 58 = .ok (.istore_n 3, 1) := by decide +kernel
theorem dX4_reshape_59 : decode cX4_reshape 59 = .ok (.iload_n 3, 1) := by decide +kernel
theorem dX4_reshape_60 : decode cX4_reshape 60 = .ok (.aload_n 0, 1) := by decide +kernel
theorem dX4_reshape_61 : decode cX4_reshape 61 = .ok (.getfield 18, 3) := by decide +kernel
theorem dX4_reshape_64 : decode cX4_reshape 64 = .ok (.if_icmp .ge 19, 3) := by decide +kernel
theorem dX4_reshape_67 : decode cX4_reshape 67 = .ok (.aload_n 2, 1) := by decide +kernel
theorem dX4_reshape_68 : decode cX4_reshape 68 = .ok (.aload_n 0, 1) := by decide +kernel
theorem dX4_reshape_69 : decode cX4_reshape 69 = .ok (.getfield 28, 3) := by decide +kernel
theorem dX4_reshape_72 : decode cX4_reshape 72 = .ok (.iload_n 3, 1) := by decide +kernel
theorem dX4_reshape_73 : decode cX4_reshape 73 = .ok (.iaload, 1) := by decide +kernel
theorem dX4_reshape_74 : decode cX4_reshape 74 = .ok (.invokevirtual 24, 3) := by decide +kernel
theorem dX4_reshape_77 : decode cX4_reshape 77 = .ok (.iinc 3 1, 3) := by decide +kernel
theorem dX4_reshape_80 : decode cX4_reshape 80 = .ok (.goto (-21), 3) := by decide +kernel
theorem dX4_reshape_83 : decode cX4_reshape 83 = .ok (.aload_n 2, 1) := by decide +kernel
theorem dX4_reshape_84 : decode cX4_reshape 84 = .ok (.invokevirtual 77, 3) := by decide +kernel
theorem dX4_reshape_87 : decode cX4_reshape 87 = .ok (.aload_n 1, 1) := by decide +kernel
theorem dX4_reshape_88 : decode cX4_reshape 88 = .ok (.getfield 18, 3) := by decide +kernel
theorem dX4_reshape_91 : decode cX4_reshape 91 = .ok (.ifCond .ne 18, 3) := by decide +kernel
theorem dX4_reshape_94 : decode cX4_reshape 94 = .ok (.aload_n 2, 1) := by decide +kernel
theorem dX4_reshape_95 : decode cX4_reshape 95 = .ok (.getfield 18, 3) := by decide +kernel
theorem dX4_reshape_98 : decode cX4_reshape 98 = .ok (.ifCond .le 11, 3) := by decide +kernel
theorem dX4_reshape_101 : decode cX4_reshape 101 = .ok (.new 60, 3) := by decide +kernel
theorem dX4_reshape_104 : decode cX4_reshape 104 = .ok (.dup, 1) := by decide +kernel
theorem dX4_reshape_105 : decode cX4_reshape 105 = .ok (.invokespecial 62, 3) := by decide +kernel
theorem dX4_reshape_108 : decode cX4_reshape 108 = .ok (.athrow, 1) := by decide +kernel
theorem dX4_reshape_109 : decode cX4_reshape 109 = .ok (.iconst 0, 1) := by decide +kernel
theorem dX4_reshape_110 : decode cX4_reshape 110 = .ok (.istore_n 3, 1) := by decide +kernel
theorem dX4_reshape_111 : decode cX4_reshape 111 = .ok (.iconst 0, 1) := by decide +kernel
theorem dX4_reshape_112 : decode cX4_reshape 112 = .ok (.istore 4, 2) := by decide +kernel
theorem dX4_reshape_114 : decode cX4_reshape 114 = .ok (.iload 4, 2) := by decide +kernel
theorem dX4_reshape_116 : decode cX4_reshape 116 = .ok (.aload_n 2, 1) := by decide +kernel
theorem dX4_reshape_117 : decode cX4_reshape 117 = .ok (.getfield 18, 3) := by decide +kernel
theorem dX4_reshape_120 : decode cX4_reshape 120 = .ok (.if_icmp .ge 40, 3) := by decide +kernel
theorem dX4_reshape_123 : decode cX4_reshape 123 = .ok (.aload_n 2, 1) := by decide +kernel
theorem dX4_reshape_124 : decode cX4_reshape 124 = .ok (.getfield 28, 3) := by decide +kernel
theorem dX4_reshape_127 : decode cX4_reshape 127 = .ok (.iload 4, 2) := by decide +kernel
theorem dX4_reshape_129 : decode cX4_reshape 129 = .ok (.aload_n 1, 1) := by decide +kernel
theorem dX4_reshape_130 : decode cX4_reshape 130 = .ok (.getfield 28, 3) := by decide +kernel
theorem dX4_reshape_133 : decode cX4_reshape 133 = .ok (.iload_n 3, 1) := by decide +kernel
theorem dX4_reshape_134 : decode cX4_reshape 134 = .ok (.iaload, 1) := by decide +kernel
theorem dX4_reshape_135 : decode cX4_reshape 135 = .ok (.iastore, 1) := by decide +kernel
theorem dX4_reshape_136 : decode cX4_reshape 136 = .ok (.iload_n 3, 1) := by decide +kernel
theorem dX4_reshape_137 : decode cX4_reshape 137 = .ok (.iconst 1, 1) := by decide +kernel
theorem dX4_reshape_138 : decode cX4_reshape 138 = .ok (.iadd, 1) := by decide +kernel
theorem dX4_reshape_139 : decode cX4_reshape 139 = .ok (.aload_n 1, 1) := by decide +kernel
theorem dX4_reshape_140 : decode cX4_reshape 140 = .ok (.getfield 18, 3) := by decide +kernel
theorem dX4_reshape_143 : decode cX4_reshape 143 = .ok (.if_icmp .ne 7, 3) := by decide +kernel
theorem dX4_reshape_146 : decode cX4_reshape 146 = .ok (.iconst 0, 1) := by decide +kernel
theorem dX4_reshape_147 : decode cX4_reshape 147 = .ok (.goto 6, 3) := by decide +kernel
theorem dX4_reshape_150 : decode cX4_reshape 150 = .ok (.iload_n 3, 1) := by decide +kernel
theorem dX4_reshape_151 : decode cX4_reshape 151 = .ok (.iconst 1, 1) := by decide +kernel
theorem dX4_reshape_152 : decode cX4_reshape 152 = .ok (.iadd, 1) := by decide +kernel
theorem dX4_reshape_153 : decode cX4_reshape 153 = .ok (.istore_n 3, 1) := by decide +kernel
theorem dX4_reshape_154 : decode cX4_reshape 154 = .ok (.iinc 4 1, 3) := by decide +kernel
theorem dX4_reshape_157 : decode cX4_reshape 157 = .ok (.goto (-43), 3) := by decide +kernel
theorem dX4_reshape_160 : decode cX4_reshape 160 = .ok (.return_, 1) := by decide +kernel
theorem dX4_join_0 : decode cX4_join 0 = .ok (.iconst 1, 1) := by decide +kernel
theorem dX4_join_1 : decode cX4_join 1 = .ok (.aload_n 0, 1) := by decide +kernel
theorem dX4_join_2 : decode cX4_join 2 = .ok (.getfield 54, 3) := by decide +kernel
theorem dX4_join_5 : decode cX4_join 5 = .ok (.aload_n 1, 1) := by decide +kernel
theorem dX4_join_6 : decode cX4_join 6 = .ok (.getfield 54, 3) := by decide +kernel
theorem dX4_join_9 : decode cX4_join 9 = .ok (.invokestatic 80, 3) := by decide +kernel
theorem dX4_join_12 : decode cX4_join 12 = .ok (.invokestatic 80, 3) := by decide +kernel
theorem dX4_join_15 : decode cX4_join 15 = .ok (.istore_n 3, 1) := by decide +kernel
theorem dX4_join_16 : decode cX4_join 16 = .ok (.aload_n 0, 1) := by decide +kernel
theorem dX4_join_17 : decode cX4_join 17 = .ok (.getfield 54, 3) := by decide +kernel
theorem dX4_join_20 : decode cX4_join 20 = .ok (.iload_n 3, 1) := by decide +kernel
theorem dX4_join_21 : decode cX4_join 21 = .ok (.if_icmp .ne 7, 3) := by decide +kernel
theorem dX4_join_24 : decode cX4_join 24 = .ok (.aload_n 0, 1) := by decide +kernel
theorem dX4_join_25 : decode cX4_join 25 = .ok (.goto 4, 3) := by decide +kernel
theorem dX4_join_28 : decode cX4_join 28 = .ok (.aload_n 1, 1) := by decide +kernel
theorem dX4_join_29 : decode cX4_join 29 = .ok (.astore 4, 2) := by decide +kernel
theorem dX4_join_31 : decode cX4_join 31 = .ok (.aload_n 0, 1) := by decide +kernel
theorem dX4_join_32 : decode cX4_join 32 = .ok (.aload_n 1, 1) := by decide +kernel
theorem dX4_join_33 : decode cX4_join 33 = .ok (.iload_n 3, 1) := by decide +kernel
theorem dX4_join_34 : decode cX4_join 34 = .ok (.invokestatic 86, 3) := by decide +kernel
theorem dX4_join_37 : decode cX4_join 37 = .ok (.aload_n 0, 1) := by decide +kernel
theorem dX4_join_38 : decode cX4_join 38 = .ok (.getfield 54, 3) := by decide +kernel
theorem dX4_join_41 : decode cX4_join 41 = .ok (.iload_n 3, 1) := by decide +kernel
theorem dX4_join_42 : decode cX4_join 42 = .ok (.if_icmp .ne 10, 3) := by decide +kernel
theorem dX4_join_45 : decode cX4_join 45 = .ok (.aload_n 0, 1) := by decide +kernel
theorem dX4_join_46 : decode cX4_join 46 = .ok (.invokevirtual 69, 3) := by decide +kernel
theorem dX4_join_49 : decode cX4_join 49 = .ok (.goto 4, 3) := by decide +kernel
theorem dX4_join_52 : decode cX4_join 52 = .ok (.iconst 1, 1) := by decide +kernel
theorem dX4_join_53 : decode cX4_join 53 = .ok (.istore 5, 2) := by decide +kernel
theorem dX4_join_55 : decode cX4_join 55 = .ok (.aload_n 1, 1) := by decide +kernel
theorem dX4_join_56 : decode cX4_join 56 = .ok (.getfield 54, 3) := by decide +kernel
theorem dX4_join_59 : decode cX4_join 59 = .ok (.iload_n 3, 1) := by decide +kernel
theorem dX4_join_60 : decode cX4_join 60 = .ok (.if_icmp .ne 10, 3) := by decide +kernel
theorem dX4_join_63 : decode cX4_join 63 = .ok (.aload_n 1, 1) := by decide +kernel
theorem dX4_join_64 : decode cX4_join 64 = .ok (.invokevirtual 69, 3) := by decide +kernel
theorem dX4_join_67 : decode cX4_join 67 = .ok (.goto 4, 3) := by decide +kernel
theorem dX4_join_70 : decode cX4_join 70 = .ok (.iconst 1, 1) := by decide +kernel
theorem dX4_join_71 : decode cX4_join 71 = .ok (.istore 6, 2) := by decide +kernel
theorem dX4_join_73 : decode cX4_join 73 = .ok (.aload_n 2, 1) := by decide +kernel
theorem dX4_join_74 : decode cX4_join 74 = .ok (.aload 4, 2) := by decide +kernel
theorem dX4_join_76 : decode cX4_join 76 = .ok (.iconst 0, 1) := by decide +kernel
theorem dX4_join_77 : decode cX4_join 77 = .ok (.iload_n 3, 1) := by decide +kernel
theorem dX4_join_78 : decode cX4_join 78 = .ok (.iconst 1, 1) := by decide +kernel
theorem dX4_join_79 : decode cX4_join 79 = .ok (.isub, 1) := by decide +kernel
theorem dX4_join_80 : decode cX4_join 80 = .ok (.invokevirtual 90, 3) := by decide +kernel
theorem dX4_join_83 : decode cX4_join 83 = .ok (.aload_n 2, 1) := by decide +kernel
theorem dX4_join_84 : decode cX4_join 84 = .ok (.iload 5, 2) := by decide +kernel
theorem dX4_join_86 : decode cX4_join 86 = .ok (.iload 6, 2) := by decide +kernel
theorem dX4_join_88 : decode cX4_join 88 = .ok (.iadd, 1) := by decide +kernel
theorem dX4_join_89 : decode cX4_join 89 = .ok (.invokevirtual 24, 3) := by decide +kernel
theorem dX4_join_92 : decode cX4_join 92 = .ok (.aload_n 2, 1) := by decide +kernel
theorem dX4_join_93 : decode cX4_join 93 = .ok (.invokevirtual 77, 3) := by decide +kernel
theorem dX4_join_96 : decode cX4_join 96 = .ok (.iconst 0, 1) := by decide +kernel
theorem dX4_join_97 : decode cX4_join 97 = .ok (.istore 7, 2) := by decide +kernel
theorem dX4_join_99 : decode cX4_join 99 = .ok (.iconst 0, 1) := by decide +kernel
theorem dX4_join_100 : decode cX4_join 100 = .ok (.istore 8, 2) := by decide +kernel
theorem dX4_join_102 : decode cX4_join 102 = .ok (.iconst 0, 1) := by decide +kernel
theorem dX4_join_103 : decode cX4_join 103 = .ok (.istore 9, 2) := by decide +kernel
theorem dX4_join_105 : decode cX4_join 105 = .ok (.iconst 0, 1) := by decide +kernel
theorem dX4_join_106 : decode cX4_join 106 = .ok (.istore 10, 2) := by decide +kernel
theorem dX4_join_108 : decode cX4_join 108 = .ok (.iload 10, 2) := by decide +kernel
theorem dX4_join_110 : decode cX4_join 110 = .ok (.aload_n 2, 1) := by decide +kernel
theorem dX4_join_111 : decode cX4_join 111 = .ok (.getfield 18, 3) := by decide +kernel
theorem dX4_join_114 : decode cX4_join 114 = .ok (.if_icmp .ge 73, 3) := by decide +kernel
theorem dX4_join_117 : decode cX4_join 117 = .ok (.iload 9, 2) := by decide +kernel
theorem dX4_join_119 : decode cX4_join 119 = .ok (.iload 5, 2) := by decide +kernel
theorem dX4_join_121 : decode cX4_join 121 = .ok (.if_icmp .ge 22, 3) := by decide +kernel
theorem dX4_join_124 : decode cX4_join 124 = .ok (.aload_n 2, 1) := by decide +kernel
theorem dX4_join_125 : decode cX4_join 125 = .ok (.getfield 28, 3) := by decide +kernel
theorem dX4_join_128 : decode cX4_join 128 = .ok (.iload 10, 2) := by decide +kernel
theorem dX4_join_130 : decode cX4_join 130 = .ok (.aload_n 0, 1) := by decide +kernel
theorem dX4_join_131 : decode cX4_join 131 = .ok (.iload 7, 2) := by decide +kernel
theorem dX4_join_133 : decode cX4_join 133 = .ok (.invokevirtual 94, 3) := by decide +kernel
theorem dX4_join_136 : decode cX4_join 136 = .ok (.iastore, 1) := by decide +kernel
theorem dX4_join_137 : decode cX4_join 137 = .ok (.iinc 7 1, 3) := by decide +kernel
theorem dX4_join_140 : decode cX4_join 140 = .ok (.goto 19, 3) := by decide +kernel
theorem dX4_join_143 : decode cX4_join 143 = .ok (.aload_n 2, 1) := by decide +kernel
theorem dX4_join_144 : decode cX4_join 144 = .ok (.getfield 28, 3) := by decide +kernel
theorem dX4_join_147 : decode cX4_join 147 = .ok (.iload 10, 2) := by decide +kernel
theorem dX4_join_149 : decode cX4_join 149 = .ok (.aload_n 1, 1) := by decide +kernel
theorem dX4_join_150 : decode cX4_join 150 = .ok (.iload 8, 2) := by decide +kernel
theorem dX4_join_152 : decode cX4_join 152 = .ok (.invokevirtual 94, 3) := by decide +kernel
theorem dX4_join_155 : decode cX4_join 155 = .ok (.iastore, 1) := by decide +kernel
theorem dX4_join_156 : decode cX4_join 156 = .ok (.iinc 8 1, 3) := by decide +kernel
theorem dX4_join_159 : decode cX4_join 159 = .ok (.iload 9, 2) := by decide +kernel
theorem dX4_join_161 : decode cX4_join 161 = .ok (.iconst 1, 1) := by decide +kernel
theorem dX4_join_162 : decode cX4_join 162 = .ok (.iadd, 1) := by decide +kernel
theorem dX4_join_163 : decode cX4_join 163 = .ok (.iload 5, 2) := by decide +kernel
theorem dX4_join_165 : decode cX4_join 165 = .ok (.iload 6, 2) := by decide +kernel
theorem dX4_join_167 : decode cX4_join 167 = .ok (.iadd, 1) := by decide +kernel
theorem dX4_join_168 : decode cX4_join 168 = .ok (.if_icmp .ne 7, 3) := by decide +kernel
theorem dX4_join_171 : decode cX4_join 171 = .ok (.iconst 0, 1) := by decide +kernel
theorem dX4_join_172 : decode cX4_join 172 = .ok (.goto 7, 3) := by decide +kernel
theorem dX4_join_175 : decode cX4_join 175 = .ok (.iload 9, 2) := by decide +kernel
theorem dX4_join_177 : decode cX4_join 177 = .ok (.iconst 1, 1) := by decide +kernel
theorem dX4_join_178 : decode cX4_join 178 = .ok (.iadd, 1) := by decide +kernel
theorem dX4_join_179 : decode cX4_join 179 = .ok (.istore 9, 2) := by decide +kernel
theorem dX4_join_181 : decode cX4_join 181 = .ok (.iinc 10 1, 3) := by decide +kernel
theorem dX4_join_184 : decode cX4_join 184 = .ok (.goto (-76), 3) := by decide +kernel
theorem dX4_join_187 : decode cX4_join 187 = .ok (.return_, 1) := by decide +kernel
theorem dX4_needJoinable_0 : decode cX4_needJoinable 0 = .ok (.aload_n 0, 1) := by decide +kernel
theorem dX4_needJoinable_1 : decode cX4_needJoinable 1 = .ok (.invokevirtual 98, 3) := by decide +kernel
theorem dX4_needJoinable_4 : decode cX4_needJoinable 4 = .ok (.ifCond .ne 10, 3) := by decide +kernel
theorem dX4_needJoinable_7 : decode cX4_needJoinable 7 = .ok (.aload_n 1, 1) := by decide +kernel
theorem dX4_needJoinable_8 : decode cX4_needJoinable 8 = .ok (.invokevirtual 98, 3) := by decide +kernel
theorem dX4_needJoinable_11 : decode cX4_needJoinable 11 = .ok (.ifCond .eq 4, 3) := by decide +kernel
theorem dX4_needJoinable_14 : decode cX4_needJoinable 14 = .ok (.return_, 1) := by decide +kernel
theorem dX4_needJoinable_15 : decode cX4_needJoinable 15 = .ok (.aload_n 0, 1) := by decide +kernel
theorem dX4_needJoinable_16 : decode cX4_needJoinable 16 = .ok (.getfield 54, 3) := by decide +kernel
theorem dX4_needJoinable_19 : decode cX4_needJoinable 19 = .ok (.iload_n 2, 1) := by decide +kernel
theorem dX4_needJoinable_20 : decode cX4_needJoinable 20 = .ok (.iconst 1, 1) := by decide +kernel
theorem dX4_needJoinable_21 : decode cX4_needJoinable 21 = .ok (.isub, 1) := by decide +kernel
theorem dX4_needJoinable_22 : decode cX4_needJoinable 22 = .ok (.if_icmp .lt 13, 3) := by decide +kernel
theorem dX4_needJoinable_25 : decode cX4_needJoinable 25 = .ok (.aload_n 1, 1) := by decide +kernel
theorem dX4_needJoinable_26 : decode cX4_needJoinable 26 = .ok (.getfield 54, 3) := by decide +kernel
theorem dX4_needJoinable_29 : decode cX4_needJoinable 29 = .ok (.iload_n 2, 1) := by decide +kernel
theorem dX4_needJoinable_30 : decode cX4_needJoinable 30 = .ok (.iconst 1, 1) := by decide +kernel
theorem dX4_needJoinable_31 : decode cX4_needJoinable 31 = .ok (.isub, 1) := by decide +kernel
theorem dX4_needJoinable_32 : decode cX4_needJoinable 32 = .ok (.if_icmp .ge 11, 3) := by decide +kernel
theorem dX4_needJoinable_35 : decode cX4_needJoinable 35 = .ok (.new 57, 3) := by decide +kernel
theorem dX4_needJoinable_38 : decode cX4_needJoinable 38 = .ok (.dup, 1) := by decide +kernel
theorem dX4_needJoinable_39 : decode cX4_needJoinable 39 = .ok (.invokespecial 59, 3) := by decide +kernel
theorem dX4_needJoinable_42 : decode cX4_needJoinable 42 = .ok (.athrow, 1) := by decide +kernel
theorem dX4_needJoinable_43 : decode cX4_needJoinable 43 = .ok (.iconst 0, 1) := by decide +kernel
theorem dX4_needJoinable_44 : decode cX4_needJoinable 44 = .ok (.istore_n 3, 1) := by decide +kernel
theorem dX4_needJoinable_45 : decode cX4_needJoinable 45 = .ok (.iload_n 3, 1) := by decide +kernel
theorem dX4_needJoinable_46 : decode cX4_needJoinable 46 = .ok (.iload_n 2, 1) := by decide +kernel
theorem dX4_needJoinable_47 : decode cX4_needJoinable 47 = .ok (.iconst 1, 1) := by decide +kernel
theorem dX4_needJoinable_48 : decode cX4_needJoinable 48 = .ok (.isub, 1) := by decide +kernel
theorem dX4_needJoinable_49 : decode cX4_needJoinable 49 = .ok (.if_icmp .ge 32, 3) := by decide +kernel
theorem dX4_needJoinable_52 : decode cX4_needJoinable 52 = .ok (.aload_n 0, 1) := by decide +kernel
theorem dX4_needJoinable_53 : decode cX4_needJoinable 53 = .ok (.getfield 66, 3) := by decide +kernel
theorem dX4_needJoinable_56 : decode cX4_needJoinable 56 = .ok (.iload_n 3, 1) := by decide +kernel
theorem dX4_needJoinable_57 : decode cX4_needJoinable 57 = .ok (.iaload, 1) := by decide +kernel
theorem dX4_needJoinable_58 : decode cX4_needJoinable 58 = .ok (.aload_n 1, 1) := by decide +kernel
theorem dX4_needJoinable_59 : decode cX4_needJoinable 59 = .ok (.getfield 66, 3) := by decide +kernel
theorem dX4_needJoinable_62 : decode cX4_needJoinable 62 = .ok (.iload_n 3, 1) := by decide +kernel
theorem dX4_needJoinable_63 : decode cX4_needJoinable 63 = .ok (.iaload, 1) := by decide +kernel
theorem dX4_needJoinable_64 : decode cX4_needJoinable 64 = .ok (.if_icmp .eq 11, 3) := by decide +kernel
theorem dX4_needJoinable_67 : decode cX4_needJoinable 67 = .ok (.new 60, 3) := by decide +kernel
theorem dX4_needJoinable_70 : decode cX4_needJoinable 70 = .ok (.dup, 1) := by decide +kernel
theorem dX4_needJoinable_71 : decode cX4_needJoinable 71 = .ok (.invokespecial 62, 3) := by decide +kernel
theorem dX4_needJoinable_74 : decode cX4_needJoinable 74 = .ok (.athrow, 1) := by decide +kernel
theorem dX4_needJoinable_75 : decode cX4_needJoinable 75 = .ok (.iinc 3 1, 3) := by decide +kernel
theorem dX4_needJoinable_78 : decode cX4_needJoinable 78 = .ok (.goto (-33), 3) := by decide +kernel
theorem dX4_needJoinable_81 : decode cX4_needJoinable 81 = .ok (.return_, 1) := by decide +kernel
theorem dX4_pick_0 : decode cX4_pick 0 = .ok (.aload_n 1, 1) := by decide +kernel
theorem dX4_pick_1 : decode cX4_pick 1 = .ok (.invokevirtual 98, 3) := by decide +kernel
theorem dX4_pick_4 : decode cX4_pick 4 = .ok (.ifCond .ne 16, 3) := by decide +kernel
theorem dX4_pick_7 : decode cX4_pick 7 = .ok (.aload_n 0, 1) := by decide +kernel
theorem dX4_pick_8 : decode cX4_pick 8 = .ok (.getfield 54, 3) := by decide +kernel
theorem dX4_pick_11 : decode cX4_pick 11 = .ok (.aload_n 1, 1) := by decide +kernel
theorem dX4_pick_12 : decode cX4_pick 12 = .ok (.getfield 54, 3) := by decide +kernel
theorem dX4_pick_15 : decode cX4_pick 15 = .ok (.iadd, 1) := by decide +kernel
theorem dX4_pick_16 : decode cX4_pick 16 = .ok (.iconst 4, 1) := by decide +kernel
theorem dX4_pick_17 : decode cX4_pick 17 = .ok (.if_icmp .le 11, 3) := by decide +kernel
theorem dX4_pick_20 : decode cX4_pick 20 = .ok (.new 57, 3) := by decide +kernel
theorem dX4_pick_23 : decode cX4_pick 23 = .ok (.dup, 1) := by decide +kernel
theorem dX4_pick_24 : decode cX4_pick 24 = .ok (.invokespecial 59, 3) := by decide +kernel
theorem dX4_pick_27 : decode cX4_pick 27 = .ok (.athrow, 1) := by decide +kernel
theorem dX4_pick_28 : decode cX4_pick 28 = .ok (.aload_n 2, 1) := by decide +kernel
theorem dX4_pick_29 : decode cX4_pick 29 = .ok (.aload_n 0, 1) := by decide +kernel
theorem dX4_pick_30 : decode cX4_pick 30 = .ok (.iconst 0, 1) := by decide +kernel
theorem dX4_pick_31 : decode cX4_pick 31 = .ok (.aload_n 0, 1) := by decide +kernel
theorem dX4_pick_32 : decode cX4_pick 32 = .ok (.getfield 54, 3) := by decide +kernel
theorem dX4_pick_35 : decode cX4_pick 35 = .ok (.invokevirtual 90, 3) := by decide +kernel
theorem dX4_pick_38 : decode cX4_pick 38 = .ok (.aload_n 2, 1) := by decide +kernel
theorem dX4_pick_39 : decode cX4_pick 39 = .ok (.aload_n 1, 1) := by decide +kernel
theorem dX4_pick_40 : decode cX4_pick 40 = .ok (.iconst 1, 1) := by decide +kernel
theorem dX4_pick_41 : decode cX4_pick 41 = .ok (.aload_n 1, 1) := by decide +kernel
theorem dX4_pick_42 : decode cX4_pick 42 = .ok (.getfield 54, 3) := by decide +kernel
theorem dX4_pick_45 : decode cX4_pick 45 = .ok (.invokevirtual 90, 3) := by decide +kernel
theorem dX4_pick_48 : decode cX4_pick 48 = .ok (.aload_n 2, 1) := by decide +kernel
theorem dX4_pick_49 : decode cX4_pick 49 = .ok (.invokevirtual 77, 3) := by decide +kernel
theorem dX4_pick_52 : decode cX4_pick 52 = .ok (.aload_n 1, 1) := by decide +kernel
theorem dX4_pick_53 : decode cX4_pick 53 = .ok (.iconst 1, 1) := by decide +kernel
theorem dX4_pick_54 : decode cX4_pick 54 = .ok (.aload_n 1, 1) := by decide +kernel
theorem dX4_pick_55 : decode cX4_pick 55 = .ok (.getfield 54, 3) := by decide +kernel
theorem dX4_pick_58 : decode cX4_pick 58 = .ok (.invokevirtual 102, 3) := by decide +kernel
theorem dX4_pick_61 : decode cX4_pick 61 = .ok (.istore_n 3, 1) := by decide +kernel
theorem dX4_pick_62 : decode cX4_pick 62 = .ok (.iconst 0, 1) := by decide +kernel
theorem dX4_pick_63 : decode cX4_pick 63 = .ok (.istore 4, 2) := by decide +kernel
theorem dX4_pick_65 : decode cX4_pick 65 = .ok (.iload 4, 2) := by decide +kernel
theorem dX4_pick_67 : decode cX4_pick 67 = .ok (.aload_n 0, 1) := by decide +kernel
theorem dX4_pick_68 : decode cX4_pick 68 = .ok (.getfield 18, 3) := by decide +kernel
theorem dX4_pick_71 : decode cX4_pick 71 = .ok (.if_icmp .ge 62, 3) := by decide +kernel
theorem dX4_pick_74 : decode cX4_pick 74 = .ok (.aload_n 0, 1) := by decide +kernel
theorem dX4_pick_75 : decode cX4_pick 75 = .ok (.getfield 28, 3) := by decide +kernel
theorem dX4_pick_78 : decode cX4_pick 78 = .ok (.iload 4, 2) := by decide +kernel
theorem dX4_pick_80 : decode cX4_pick 80 = .ok (.iaload, 1) := by decide +kernel
theorem dX4_pick_81 : decode cX4_pick 81 = .ok (.istore 5, 2) := by decide +kernel
theorem dX4_pick_83 : decode cX4_pick 83 = .ok (.iload 5, 2) := by decide +kernel
theorem dX4_pick_85 : decode cX4_pick 85 = .ok (.ifCond .lt 14, 3) := by decide +kernel
theorem dX4_pick_88 : decode cX4_pick 88 = .ok (.iload 5, 2) := by decide +kernel
theorem dX4_pick_90 : decode cX4_pick 90 = .ok (.aload_n 1, 1) := by decide +kernel
theorem dX4_pick_91 : decode cX4_pick 91 = .ok (.getfield 66, 3) := by decide +kernel
theorem dX4_pick_94 : decode cX4_pick 94 = .ok (.iconst 0, 1) := by decide +kernel
theorem dX4_pick_95 : decode cX4_pick 95 = .ok (.iaload, 1) := by decide +kernel
theorem dX4_pick_96 : decode cX4_pick 96 = .ok (.if_icmp .lt 11, 3) := by decide +kernel
theorem dX4_pick_99 : decode cX4_pick 99 = .ok (.new 105, 3) := by decide +kernel
theorem dX4_pick_102 : decode cX4_pick 102 = .ok (.dup, 1) := by decide +kernel
theorem dX4_pick_103 : decode cX4_pick 103 = .ok (.invokespecial 107, 3) := by decide +kernel
theorem dX4_pick_106 : decode cX4_pick 106 = .ok (.athrow, 1) := by decide +kernel
theorem dX4_pick_107 : decode cX4_pick 107 = .ok (.aload_n 1, 1) := by decide +kernel
theorem dX4_pick_108 : decode cX4_pick 108 = .ok (.getfield 28, 3) := by decide +kernel
theorem dX4_pick_111 : decode cX4_pick 111 = .ok (.iload 5, 2) := by decide +kernel
theorem dX4_pick_113 : decode cX4_pick 113 = .ok (.iload_n 3, 1) := by decide +kernel
theorem dX4_pick_114 : decode cX4_pick 114 = .ok (.imul, 1) := by decide +kernel
theorem dX4_pick_115 : decode cX4_pick 115 = .ok (.aload_n 2, 1) := by decide +kernel
theorem dX4_pick_116 : decode cX4_pick 116 = .ok (.getfield 28, 3) := by decide +kernel
theorem dX4_pick_119 : decode cX4_pick 119 = .ok (.iload 4, 2) := by decide +kernel
theorem dX4_pick_121 : decode cX4_pick 121 = .ok (.iload_n 3, 1) := by decide +kernel
theorem dX4_pick_122 : decode cX4_pick 122 = .ok (.imul, 1) := by decide +kernel
theorem dX4_pick_123 : decode cX4_pick 123 = .ok (.iload_n 3, 1) := by decide +kernel
theorem dX4_pick_124 : decode cX4_pick 124 = .ok (.invokestatic 32, 3) := by decide +kernel
theorem dX4_pick_127 : decode cX4_pick 127 = .ok (.iinc 4 1, 3) := by decide +kernel
theorem dX4_pick_130 : decode cX4_pick 130 = .ok (.goto (-65), 3) := by decide +kernel
theorem dX4_pick_133 : decode cX4_pick 133 = .ok (.return_, 1) := by decide +kernel
theorem dX5_init_0 : decode cX5_init 0 = .ok (.aload_n 0, 1) := by decide +kernel
theorem dX5_init_1 : decode cX5_init 1 = .ok (.invokespecial 3, 3) := by decide +kernel
theorem dX5_init_4 : decode cX5_init 4 = .ok (.aload_n 0, 1) := by decide +kernel
theorem dX5_init_5 : decode cX5_init 5 = .ok (.new 9, 3) := by decide +kernel
theorem dX5_init_8 : decode cX5_init 8 = .ok (.dup, 1) := by decide +kernel
theorem dX5_init_9 : decode cX5_init 9 = .ok (.invokespecial 11, 3) := by decide +kernel
theorem dX5_init_12 : decode cX5_init 12 = .ok (.putfield 12, 3) := by decide +kernel
theorem dX5_init_15 : decode cX5_init 15 = .ok (.aload_n 0, 1) := by decide +kernel
theorem dX5_init_16 : decode cX5_init 16 = .ok (.sipush 200, 3) := by decide +kernel
theorem dX5_init_19 : decode cX5_init 19 = .ok (.newarray .int, 2) := by decide +kernel
theorem dX5_init_21 : decode cX5_init 21 = .ok (.putfield 18, 3) := by decide +kernel
theorem dX5_init_24 : decode cX5_init 24 = .ok (.aload_n 0, 1) := by decide +kernel
theorem dX5_init_25 : decode cX5_init 25 = .ok (.sipush 200, 3) := by decide +kernel
theorem dX5_init_28 : decode cX5_init 28 = .ok (.newarray .int, 2) := by decide +kernel
theorem dX5_init_30 : decode cX5_init 30 = .ok (.putfield 22, 3) := by decide +kernel
theorem dX5_init_33 : decode cX5_init 33 = .ok (.aload_n 0, 1) := by decide +kernel
theorem dX5_init_34 : decode cX5_init 34 = .ok (.sipush 200, 3) := by decide +kernel
theorem dX5_init_37 : decode cX5_init 37 = .ok (.newarray .int, 2) := by decide +kernel
theorem dX5_init_39 : decode cX5_init 39 = .ok (.putfield 25, 3) := by decide +kernel
theorem dX5_init_42 : decode cX5_init 42 = .ok (.aload_n 0, 1) := by decide +kernel
theorem dX5_init_43 : decode cX5_init 43 = .ok (.sipush 200, 3) := by decide +kernel
theorem dX5_init_46 : decode cX5_init 46 = .ok (.newarray .char, 2) := by decide +kernel
theorem dX5_init_48 : decode cX5_init 48 = .ok (.putfield 28, 3) := by decide +kernel
theorem dX5_init_51 : decode cX5_init 51 = .ok (.aload_n 0, 1) := by decide +kernel
theorem dX5_init_52 : decode cX5_init 52 = .ok (.sipush 200, 3) := by decide +kernel
theorem dX5_init_55 : decode cX5_init 55 = .ok (.newarray .char, 2) := by decide +kernel
theorem dX5_init_57 : decode cX5_init 57 = .ok (.putfield 32, 3) := by decide +kernel
theorem dX5_init_60 : decode cX5_init 60 = .ok (.aload_n 0, 1) := by decide +kernel
theorem dX5_init_61 : decode cX5_init 61 = .ok (.sipush 200, 3) := by decide +kernel
theorem dX5_init_64 : decode cX5_init 64 = .ok (.newarray .char, 2) := by decide +kernel
theorem dX5_init_66 : decode cX5_init 66 = .ok (.putfield 35, 3) := by decide +kernel
theorem dX5_init_69 : decode cX5_init 69 = .ok (.aload_n 0, 1) := by decide +kernel
theorem dX5_init_70 : decode cX5_init 70 = .ok (.sipush 200, 3) := by decide +kernel
theorem dX5_init_73 : decode cX5_init 73 = .ok (.newarray .int, 2) := by decide +kernel
theorem dX5_init_75 : decode cX5_init 75 = .ok (.putfield 38, 3) := by decide +kernel
theorem dX5_init_78 : decode cX5_init 78 = .ok (.return_, 1) := by decide +kernel
theorem dX5_read_0 : decode cX5_read 0 = .ok (.aload_n 0, 1) := by decide +kernel
theorem dX5_read_1 : decode cX5_read 1 = .ok (.iconst 0, 1) := by decide +kernel
theorem dX5_read_2 : decode cX5_read 2 = .ok (.putfield 41, 3) := by decide +kernel
theorem dX5_read_5 : decode cX5_read 5 = .ok (.aload_n 0, 1) := by decide +kernel
theorem dX5_read_6 : decode cX5_read 6 = .ok (.iconst 0, 1) := by decide +kernel
theorem dX5_read_7 : decode cX5_read 7 = .ok (.putfield 45, 3) := by decide +kernel
theorem dX5_read_10 : decode cX5_read 10 = .ok (.aload_n 0, 1) := by decide +kernel
theorem dX5_read_11 : decode cX5_read 11 = .ok (.iconst 0, 1) := by decide +kernel
theorem dX5_read_12 : decode cX5_read 12 = .ok (.putfield 48, 3) := by decide +kernel
theorem dX5_read_15 : decode cX5_read 15 = .ok (.aload_n 0, 1) := by decide +kernel
theorem dX5_read_16 : decode cX5_read 16 = .ok (.iconst 0, 1) := by decide +kernel
theorem dX5_read_17 : decode cX5_read 17 = .ok (.putfield 51, 3) := by decide +kernel
theorem dX5_read_20 : decode cX5_read 20 = .ok (.aload_n 0, 1) := by decide +kernel
theorem dX5_read_21 : decode cX5_read 21 = .ok (.iconst 1, 1) := by decide +kernel
theorem dX5_read_22 : decode cX5_read 22 = .ok (.putfield 54, 3) := by decide +kernel
theorem dX5_read_25 : decode cX5_read 25 = .ok (.aload_n 0, 1) := by decide +kernel
theorem dX5_read_26 : decode cX5_read 26 = .ok (.invokevirtual 58, 3) := by decide +kernel
theorem dX5_read_29 : decode cX5_read 29 = .ok (.iconst 0, 1) := by decide +kernel
theorem dX5_read_30 : decode cX5_read 30 = .ok (.istore_n 1, 1) := by decide +kernel
theorem dX5_read_31 : decode cX5_read 31 = .ok (.iload_n 1, 1) := by decide +kernel
theorem dX5_read_32 : decode cX5_read 32 = .ok (.sipush 200, 3) := by decide +kernel
theorem dX5_read_35 : decode cX5_read 35 = .ok (.if_icmp .ge 53, 3) := by decide +kernel
theorem dX5_read_38 : decode cX5_read 38 = .ok (.aload_n 0, 1) := by decide +kernel
theorem dX5_read_39 : decode cX5_read 39 = .ok (.getfield 41, 3) := by decide +kernel
theorem dX5_read_42 : decode cX5_read 42 = .ok (.aload_n 0, 1) := by decide +kernel
theorem dX5_read_43 : decode cX5_read 43 = .ok (.getfield 12, 3) := by decide +kernel
theorem dX5_read_46 : decode cX5_read 46 = .ok (.getfield 61, 3) := by decide +kernel
theorem dX5_read_49 : decode cX5_read 49 = .ok (.if_icmp .ge 39, 3) := by decide +kernel
theorem dX5_read_52 : decode cX5_read 52 = .ok (.aload_n 0, 1) := by decide +kernel
theorem dX5_read_53 : decode cX5_read 53 = .ok (.getfield 54, 3) := by decide +kernel
theorem dX5_read_56 : decode cX5_read 56 = .ok (.ifCond .eq 13, 3) := by decide +kernel
theorem dX5_read_59 : decode cX5_read 59 = .ok (.aload_n 0, 1) := by decide +kernel
theorem dX5_read_60 : decode cX5_read 60 = .ok (.invokevirtual 64, 3) := by decide +kernel
theorem dX5_read_63 : decode cX5_read 63 = .ok (.ifCond .eq 13, 3) := by decide +kernel
theorem dX5_read_66 : decode cX5_read 66 = .ok (.goto 12, 3) := by decide +kernel
theorem dX5_read_69 : decode cX5_read 69 = .ok (.aload_n 0, 1) := by decide +kernel
theorem dX5_read_70 : decode cX5_read 70 = .ok (.invokevirtual 68, 3) := by decide +kernel
theorem dX5_read_73 : decode cX5_read 73 = .ok (.ifCond .ne 5, 3) := by decide +kernel
theorem dX5_read_76 : decode cX5_read 76 = .ok (.iconst 0, 1) := by decide +kernel
theorem dX5_read_77 : decode cX5_read 77 = .ok (.ireturn, 1) := by decide +kernel
theorem dX5_read_78 : decode cX5_read 78 = .ok (.aload_n 0, 1) := by decide +kernel
theorem dX5_read_79 : decode cX5_read 79 = .ok (.invokevirtual 71, 3) := by decide +kernel
theorem dX5_read_82 : decode cX5_read 82 = .ok (.iinc 1 1, 3) := by decide +kernel
theorem dX5_read_85 : decode cX5_read 85 = .ok (.goto (-54), 3) := by decide +kernel
theorem dX5_read_88 : decode cX5_read 88 = .ok (.aload_n 0, 1) := by decide +kernel
theorem dX5_read_89 : decode cX5_read 89 = .ok (.getfield 54, 3) := by decide +kernel
theorem dX5_read_92 : decode cX5_read 92 = .ok (.ifCond .ne 14, 3) := by decide +kernel
theorem dX5_read_95 : decode cX5_read 95 = .ok (.aload_n 0, 1) := by decide +kernel
theorem dX5_read_96 : decode cX5_read 96 = .ok (.getfield 51, 3) := by decide +kernel
theorem dX5_read_99 : decode cX5_read 99 = .ok (.ifCond .ne 7, 3) := by decide +kernel
theorem dX5_read_102 : decode cX5_read 102 = .ok (.iconst 1, 1) := by decide +kernel
theorem dX5_read_103 : decode cX5_read 103 = .ok (.goto 4, 3) := by decide +kernel
theorem dX5_read_106 : decode cX5_read 106 = .ok (.iconst 0, 1) := by decide +kernel
theorem dX5_read_107 : decode cX5_read 107 = .ok (.ireturn, 1) := by decide +kernel
theorem dX5_readTarget_0 : decode cX5_readTarget 0 = .ok (.aload_n 0, 1) := by decide +kernel
theorem dX5_readTarget_1 : decode cX5_readTarget 1 = .ok (.iconst (-1), 1) := by decide +kernel
theorem dX5_readTarget_2 : decode cX5_readTarget 2 = .ok (.putfield 74, 3) := by decide +kernel
theorem dX5_readTarget_5 : decode cX5_readTarget 5 = .ok (.aload_n 0, 1) := by decide +kernel
theorem dX5_readTarget_6 : decode cX5_readTarget 6 = .ok (.invokevirtual 71, 3) := by decide +kernel
theorem dX5_readTarget_9 : decode cX5_readTarget 9 = .ok (.aload_n 0, 1) := by decide +kernel
theorem dX5_readTarget_10 : decode cX5_readTarget 10 = .ok (.getfield 41, 3) := by decide +kernel
theorem dX5_readTarget_13 : decode cX5_readTarget 13 = .ok (.istore_n 1, 1) := by decide +kernel
theorem dX5_readTarget_14 : decode cX5_readTarget 14 = .ok (.aload_n 0, 1) := by decide +kernel
theorem dX5_readTarget_15 : decode cX5_readTarget 15 = .ok (.getfield 12, 3) := by decide +kernel
theorem dX5_readTarget_18 : decode cX5_readTarget 18 = .ok (.aload_n 0, 1) := by decide +kernel
theorem dX5_readTarget_19 : decode cX5_readTarget 19 = .ok (.getfield 41, 3) := by decide +kernel
theorem dX5_readTarget_22 : decode cX5_readTarget 22 = .ok (.invokevirtual 77, 3) := by decide +kernel
theorem dX5_readTarget_25 : decode cX5_readTarget 25 = .ok (.istore_n 2, 1) := by decide +kernel
theorem dX5_readTarget_26 : decode cX5_readTarget 26 = .ok (.aload_n 0, 1) := by decide +kernel
theorem dX5_readTarget_27 : decode cX5_readTarget 27 = .ok (.dup, 1) := by decide +kernel
theorem dX5_readTarget_28 : decode cX5_readTarget 28 = .ok (.getfield 41, 3) := by decide +kernel
theorem dX5_readTarget_31 : decode cX5_readTarget 31 = .ok (.iconst 1, 1) := by decide +kernel
theorem dX5_readTarget_32 : decode cX5_readTarget 32 = .ok (.iadd, 1) := by decide +kernel
theorem dX5_readTarget_33 : decode cX5_readTarget 33 = .ok (.putfield 41, 3) := by decide +kernel
theorem dX5_readTarget_36 : decode cX5_readTarget 36 = .ok (.aload_n 0, 1) := by decide +kernel
theorem dX5_readTarget_37 : decode cX5_readTarget 37 = .ok (.invokevirtual 71, 3) := by decide +kernel
theorem dX5_readTarget_40 : decode cX5_readTarget 40 = .ok (.iload_n 2, 1) := by decide +kernel
theorem dX5_readTarget_41 : decode cX5_readTarget 41 = .ok (.invokestatic 81, 3) := by decide +kernel
theorem dX5_readTarget_44 : decode cX5_readTarget 44 = .ok (.ifCond .eq 44, 3) := by decide +kernel
theorem dX5_readTarget_47 : decode cX5_readTarget 47 = .ok (.aload_n 0, 1) := by decide +kernel
theorem dX5_readTarget_48 : decode cX5_readTarget 48 = .ok (.getfield 12, 3) := by decide +kernel
theorem dX5_readTarget_51 : decode cX5_readTarget 51 = .ok (.aload_n 0, 1) := by decide +kernel
theorem dX5_readTarget_52 : decode cX5_readTarget 52 = .ok (.getfield 41, 3) := by decide +kernel
theorem dX5_readTarget_55 : decode cX5_readTarget 55 = .ok (.invokevirtual 77, 3) := by decide +kernel
theorem dX5_readTarget_58 : decode cX5_readTarget 58 = .ok (.bipush 58, 2) := by decide +kernel
theorem dX5_readTarget_60 : decode cX5_readTarget 60 = .ok (.if_icmp .ne 28, 3) := by decide +kernel
theorem dX5_readTarget_63 : decode cX5_readTarget 63 = .ok (.aload_n 0, 1) := by decide +kernel
theorem dX5_readTarget_64 : decode cX5_readTarget 64 = .ok (.iload_n 2, 1) := by decide +kernel
theorem dX5_readTarget_65 : decode cX5_readTarget 65 = .ok (.bipush 65, 2) := by decide +kernel
theorem dX5_readTarget_67 : decode cX5_readTarget 67 = .ok (.isub, 1) := by decide +kernel
theorem dX5_readTarget_68 : decode cX5_readTarget 68 = .ok (.putfield 74, 3) := by decide +kernel
theorem dX5_readTarget_71 : decode cX5_readTarget 71 = .ok (.aload_n 0, 1) := by decide +kernel
theorem dX5_readTarget_72 : decode cX5_readTarget 72 = .ok (.dup, 1) := by decide +kernel
theorem dX5_readTarget_73 : decode cX5_readTarget 73 = .ok (.getfield 41, 3) := by decide +kernel
theorem dX5_readTarget_76 : decode cX5_readTarget 76 = .ok (.iconst 1, 1) := by decide +kernel
theorem dX5_readTarget_77 : decode cX5_readTarget 77 = .ok (.iadd, 1) := by decide +kernel
theorem dX5_readTarget_78 : decode cX5_readTarget 78 = .ok (.putfield 41, 3) := by decide +kernel
theorem dX5_readTarget_81 : decode cX5_readTarget 81 = .ok (.aload_n 0, 1) := by decide +kernel
theorem dX5_readTarget_82 : decode cX5_readTarget 82 = .ok (.invokevirtual 71, 3) := by decide +kernel
theorem dX5_readTarget_85 : decode cX5_readTarget 85 = .ok (.goto 8, 3) := by decide +kernel
theorem dX5_readTarget_88 : decode cX5_readTarget 88 = .ok (.aload_n 0, 1) := by decide +kernel
theorem dX5_readTarget_89 : decode cX5_readTarget 89 = .ok (.iload_n 1, 1) := by decide +kernel
theorem dX5_readTarget_90 : decode cX5_readTarget 90 = .ok (.putfield 41, 3) := by decide +kernel
theorem dX5_readTarget_93 : decode cX5_readTarget 93 = .ok (.return_, 1) := by decide +kernel
theorem dX5_readStart_0 : decode cX5_readStart 0 = .ok (.aload_n 0, 1) := by decide +kernel
theorem dX5_readStart_1 : decode cX5_readStart 1 = .ok (.getfield 12, 3) := by decide +kernel
theorem dX5_readStart_4 : decode cX5_readStart 4 = .ok (.aload_n 0, 1) := by decide +kernel
theorem dX5_readStart_5 : decode cX5_readStart 5 = .ok (.getfield 41, 3) := by decide +kernel
theorem dX5_readStart_8 : decode cX5_readStart 8 = .ok (.invokevirtual 77, 3) := by decide +kernel
theorem dX5_readStart_11 : decode cX5_readStart 11 = .ok (.istore_n 1, 1) := by decide +kernel
theorem dX5_readStart_12 : decode cX5_readStart 12 = .ok (.iload_n 1, 1) := by decide +kernel
theorem dX5_readStart_13 : decode cX5_readStart 13 = .ok (.invokestatic 85, 3) := by decide +kernel
theorem dX5_readStart_16 : decode cX5_readStart 16 = .ok (.ifCond .ne 9, 3) := by decide +kernel
theorem dX5_readStart_19 : decode cX5_readStart 19 = .ok (.iload_n 1, 1) := by decide +kernel
theorem dX5_readStart_20 : decode cX5_readStart 20 = .ok (.bipush 95, 2) := by decide +kernel
theorem dX5_readStart_22 : decode cX5_readStart 22 = .ok (.if_icmp .ne 8, 3) := by decide +kernel
theorem dX5_readStart_25 : decode cX5_readStart 25 = .ok (.aload_n 0, 1) := by decide +kernel
theorem dX5_readStart_26 : decode cX5_readStart 26 = .ok (.invokevirtual 88, 3) := by decide +kernel
theorem dX5_readStart_29 : decode cX5_readStart 29 = .ok (.ireturn, 1) := by decide +kernel
theorem dX5_readStart_30 : decode cX5_readStart 30 = .ok (.aload_n 0, 1) := by decide +kernel
theorem dX5_readStart_31 : decode cX5_readStart 31 = .ok (.dup, 1) := by decide +kernel
theorem dX5_readStart_32 : decode cX5_readStart 32 = .ok (.getfield 41, 3) := by decide +kernel
theorem dX5_readStart_35 : decode cX5_readStart 35 = .ok (.iconst 1, 1) := by decide +kernel
theorem dX5_readStart_36 : decode cX5_readStart 36 = .ok (.iadd, 1) := by decide +kernel
theorem dX5_readStart_37 : decode cX5_readStart 37 = .ok (.putfield 41, 3) := by decide +kernel
theorem dX5_readStart_40 : decode cX5_readStart 40 = .ok (.iload_n 1, 1) := by decide +kernel
theorem dX5_readStart_41 : decode cX5_readStart 41 = .ok (.bipush 40, 2) := by decide +kernel
theorem dX5_readStart_43 : decode cX5_readStart 43 = .ok (.if_icmp .ne 33, 3) := by decide +kernel
theorem dX5_readStart_46 : decode cX5_readStart 46 = .ok (.aload_n 0, 1) := by decide +kernel
theorem dX5_readStart_47 : decode cX5_readStart 47 = .ok (.dup, 1) := by decide +kernel
theorem dX5_readStart_48 : decode cX5_readStart 48 = .ok (.getfield 51, 3) := by decide +kernel
theorem dX5_readStart_51 : decode cX5_readStart 51 = .ok (.iconst 1, 1) := by decide +kernel
theorem dX5_readStart_52 : decode cX5_readStart 52 = .ok (.iadd, 1) := by decide +kernel
theorem dX5_readStart_53 : decode cX5_readStart 53 = .ok (.putfield 51, 3) := by decide +kernel
theorem dX5_readStart_56 : decode cX5_readStart 56 = .ok (.aload_n 0, 1) := by decide +kernel
theorem dX5_readStart_57 : decode cX5_readStart 57 = .ok (.iconst 2, 1) := by decide +kernel
theorem dX5_readStart_58 : decode cX5_readStart 58 = .ok (.invokevirtual 91, 3) := by decide +kernel
theorem dX5_readStart_61 : decode cX5_readStart 61 = .ok (.aload_n 0, 1) := by decide +kernel
theorem dX5_readStart_62 : decode cX5_readStart 62 = .ok (.getfield 51, 3) := by decide +kernel
theorem dX5_readStart_65 : decode cX5_readStart 65 = .ok (.bipush 6, 2) := by decide +kernel
theorem dX5_readStart_67 : decode cX5_readStart 67 = .ok (.if_icmp .gt 7, 3) := by decide +kernel
theorem dX5_readStart_70 : decode cX5_readStart 70 = .ok (.iconst 1, 1) := by decide +kernel
theorem dX5_readStart_71 : decode cX5_readStart 71 = .ok (.goto 4, 3) := by decide +kernel
theorem dX5_readStart_74 : decode cX5_readStart 74 = .ok (.iconst 0, 1) := by decide +kernel
theorem dX5_readStart_75 : decode cX5_readStart 75 = .ok (.ireturn, 1) := by decide +kernel
theorem dX5_readStart_76 : decode cX5_readStart 76 = .ok (.iload_n 1, 1) := by decide +kernel
theorem dX5_readStart_77 : decode cX5_readStart 77 = .ok (.invokestatic 81, 3) := by decide +kernel
theorem dX5_readStart_80 : decode cX5_readStart 80 = .ok (.ifCond .eq 28, 3) := by decide +kernel
theorem dX5_readStart_83 : decode cX5_readStart 83 = .ok (.aload_n 0, 1) := by decide +kernel
theorem dX5_readStart_84 : decode cX5_readStart 84 = .ok (.getfield 22, 3) := by decide +kernel
theorem dX5_readStart_87 : decode cX5_readStart 87 = .ok (.aload_n 0, 1) := by decide +kernel
theorem dX5_readStart_88 : decode cX5_readStart 88 = .ok (.getfield 45, 3) := by decide +kernel
theorem dX5_readStart_91 : decode cX5_readStart 91 = .ok (.iload_n 1, 1) := by decide +kernel
theorem dX5_readStart_92 : decode cX5_readStart 92 = .ok (.bipush 65, 2) := by decide +kernel
theorem dX5_readStart_94 : decode cX5_readStart 94 = .ok (.isub, 1) := by decide +kernel
theorem dX5_readStart_95 : decode cX5_readStart 95 = .ok (.iastore, 1) := by decide +kernel
theorem dX5_readStart_96 : decode cX5_readStart 96 = .ok (.aload_n 0, 1) := by decide +kernel
theorem dX5_readStart_97 : decode cX5_readStart 97 = .ok (.iconst 1, 1) := by decide +kernel
theorem dX5_readStart_98 : decode cX5_readStart 98 = .ok (.invokevirtual 91, 3) := by decide +kernel
theorem dX5_readStart_101 : decode cX5_readStart 101 = .ok (.aload_n 0, 1) := by decide +kernel
theorem dX5_readStart_102 : decode cX5_readStart 102 = .ok (.iconst 0, 1) := by decide +kernel
theorem dX5_readStart_103 : decode cX5_readStart 103 = .ok (.putfield 54, 3) := by decide +kernel
theorem dX5_readStart_106 : decode cX5_readStart 106 = .ok (.iconst 1, 1) := by decide +kernel
theorem dX5_readStart_107 : decode cX5_readStart 107 = .ok (.ireturn, 1) := by decide +kernel
theorem dX5_readStart_108 : decode cX5_readStart 108 = .ok (.aload_n 0, 1) := by decide +kernel
theorem dX5_readStart_109 : decode cX5_readStart 109 = .ok (.iload_n 1, 1) := by decide +kernel
theorem dX5_readStart_110 : decode cX5_readStart 110 = .ok (.invokevirtual 95, 3) := by decide +kernel
theorem dX5_readStart_113 : decode cX5_readStart 113 = .ok (.ireturn, 1) := by decide +kernel
theorem dX5_readBehindTerm_0 : decode cX5_readBehindTerm 0 = .ok (.aload_n 0, 1) := by decide +kernel
theorem dX5_readBehindTerm_1 : decode cX5_readBehindTerm 1 = .ok (.getfield 12, 3) := by decide +kernel
theorem dX5_readBehindTerm_4 : decode cX5_readBehindTerm 4 = .ok (.aload_n 0, 1) := by decide +kernel
theorem dX5_readBehindTerm_5 : decode cX5_readBehindTerm 5 = .ok (.getfield 41, 3) := by decide +kernel
theorem dX5_readBehindTerm_8 : decode cX5_readBehindTerm 8 = .ok (.invokevirtual 77, 3) := by decide +kernel
theorem dX5_readBehindTerm_11 : decode cX5_readBehindTerm 11 = .ok (.istore_n 1, 1) := by decide +kernel
theorem dX5_readBehindTerm_12 : decode cX5_readBehindTerm 12 = .ok (.aload_n 0, 1) := by decide +kernel
theorem dX5_readBehindTerm_13 : decode cX5_readBehindTerm 13 = .ok (.dup, 1) := by decide +kernel
theorem dX5_readBehindTerm_14 : decode cX5_readBehindTerm 14 = .ok (.getfield 41, 3) := by decide +kernel
theorem dX5_readBehindTerm_17 : decode cX5_readBehindTerm 17 = .ok (.iconst 1, 1) := by decide +kernel
theorem dX5_readBehindTerm_18 : decode cX5_readBehindTerm 18 = .ok (.iadd, 1) := by decide +kernel
theorem dX5_readBehindTerm_19 : decode cX5_readBehindTerm 19 = .ok (.putfield 41, 3) := by decide +kernel
theorem dX5_readBehindTerm_22 : decode cX5_readBehindTerm 22 = .ok (.iload_n 1, 1) := by decide +kernel
theorem dX5_readBehindTerm_23 : decode cX5_readBehindTerm 23 = .ok (.bipush 41, 2) := by decide +kernel
theorem dX5_readBehindTerm_25 : decode cX5_readBehindTerm 25 = .ok (.if_icmp .ne 31, 3) := by decide +kernel
theorem dX5_readBehindTerm_28 : decode cX5_readBehindTerm 28 = .ok (.aload_n 0, 1) := by decide +kernel
theorem dX5_readBehindTerm_29 : decode cX5_readBehindTerm 29 = .ok (.dup, 1) := by decide +kernel
theorem dX5_readBehindTerm_30 : decode cX5_readBehindTerm 30 = .ok (.getfield 51, 3) := by decide +kernel
theorem dX5_readBehindTerm_33 : decode cX5_readBehindTerm 33 = .ok (.iconst 1, 1) := by decide +kernel
theorem dX5_readBehindTerm_34 : decode cX5_readBehindTerm 34 = .ok (.isub, 1) := by decide +kernel
theorem dX5_readBehindTerm_35 : decode cX5_readBehindTerm 35 = .ok (.putfield 51, 3) := by decide +kernel
theorem dX5_readBehindTerm_38 : decode cX5_readBehindTerm 38 = .ok (.aload_n 0, 1) := by decide +kernel
theorem dX5_readBehindTerm_39 : decode cX5_readBehindTerm 39 = .ok (.iconst 3, 1) := by decide +kernel
theorem dX5_readBehindTerm_40 : decode cX5_readBehindTerm 40 = .ok (.invokevirtual 91, 3) := by decide +kernel
theorem dX5_readBehindTerm_43 : decode cX5_readBehindTerm 43 = .ok (.aload_n 0, 1) := by decide +kernel
theorem dX5_readBehindTerm_44 : decode cX5_readBehindTerm 44 = .ok (.getfield 51, 3) := by decide +kernel
theorem dX5_readBehindTerm_47 : decode cX5_readBehindTerm 47 = .ok (.ifCond .lt 7, 3) := by decide +kernel
theorem dX5_readBehindTerm_50 : decode cX5_readBehindTerm 50 = .ok (.iconst 1, 1) := by decide +kernel
theorem dX5_readBehindTerm_51 : decode cX5_readBehindTerm 51 = .ok (.goto 4, 3) := by decide +kernel
theorem dX5_readBehindTerm_54 : decode cX5_readBehindTerm 54 = .ok (.iconst 0, 1) := by decide +kernel
theorem dX5_readBehindTerm_55 : decode cX5_readBehindTerm 55 = .ok (.ireturn, 1) := by decide +kernel
theorem dX5_readBehindTerm_56 : decode cX5_readBehindTerm 56 = .ok (.aload_n 0, 1) := by decide +kernel
theorem dX5_readBehindTerm_57 : decode cX5_readBehindTerm 57 = .ok (.iconst 1, 1) := by decide +kernel
theorem dX5_readBehindTerm_58 : decode cX5_readBehindTerm 58 = .ok (.putfield 54, 3) := by decide +kernel
theorem dX5_readBehindTerm_61 : decode cX5_readBehindTerm 61 = .ok (.aload_n 0, 1) := by decide +kernel
theorem dX5_readBehindTerm_62 : decode cX5_readBehindTerm 62 = .ok (.iload_n 1, 1) := by decide +kernel
theorem dX5_readBehindTerm_63 : decode cX5_readBehindTerm 63 = .ok (.invokevirtual 98, 3) := by decide +kernel
theorem dX5_readBehindTerm_66 : decode cX5_readBehindTerm 66 = .ok (.ireturn, 1) := by decide +kernel
theorem dX5_readFunctionOfOne_0 : decode cX5_readFunctionOfOne 0 = .ok (.aload_n 0, 1) := by decide +kernel
theorem dX5_readFunctionOfOne_1 : decode cX5_readFunctionOfOne 1 = .ok (.invokevirtual 71, 3) := by decide +kernel
theorem dX5_readFunctionOfOne_4 : decode cX5_readFunctionOfOne 4 = .ok (.aload_n 0, 1) := by decide +kernel
theorem dX5_readFunctionOfOne_5 : decode cX5_readFunctionOfOne 5 = .ok (.getfield 12, 3) := by decide +kernel
theorem dX5_readFunctionOfOne_8 : decode cX5_readFunctionOfOne 8 = .ok (.aload_n 0, 1) := by decide +kernel
theorem dX5_readFunctionOfOne_9 : decode cX5_readFunctionOfOne 9 = .ok (.getfield 41, 3) := by decide +kernel
theorem dX5_readFunctionOfOne_12 : decode cX5_readFunctionOfOne 12 = .ok (.invokevirtual 77, 3) := by decide +kernel
theorem dX5_readFunctionOfOne_15 : decode cX5_readFunctionOfOne 15 = .ok (.istore_n 2, 1) := by decide +kernel
theorem dX5_readFunctionOfOne_16 : decode cX5_readFunctionOfOne 16 = .ok (.iload_n 1, 1) := by decide +kernel
theorem dX5_readFunctionOfOne_17 : decode cX5_readFunctionOfOne 17 = .ok (.invokestatic 101, 3) := by decide +kernel
theorem dX5_readFunctionOfOne_20 : decode cX5_readFunctionOfOne 20 = .ok (.ifCond .eq 35, 3) := by decide +kernel
theorem dX5_readFunctionOfOne_23 : decode cX5_readFunctionOfOne 23 = .ok (.iload_n 2, 1) := by decide +kernel
theorem dX5_readFunctionOfOne_24 : decode cX5_readFunctionOfOne 24 = .ok (.bipush 47, 2) := by decide +kernel
theorem dX5_readFunctionOfOne_26 : decode cX5_readFunctionOfOne 26 = .ok (.if_icmp .eq 9, 3) := by decide +kernel
theorem dX5_readFunctionOfOne_29 : decode cX5_readFunctionOfOne 29 = .ok (.iload_n 2, 1) := by decide +kernel
theorem dX5_readFunctionOfOne_30 : decode cX5_readFunctionOfOne 30 = .ok (.bipush 92, 2) := by decide +kernel
theorem dX5_readFunctionOfOne_32 : decode cX5_readFunctionOfOne 32 = .ok (.if_icmp .ne 23, 3) := by decide +kernel
theorem dX5_readFunctionOfOne_35 : decode cX5_readFunctionOfOne 35 = .ok (.aload_n 0, 1) := by decide +kernel
theorem dX5_readFunctionOfOne_36 : decode cX5_readFunctionOfOne 36 = .ok (.dup, 1) := by decide +kernel
theorem dX5_readFunctionOfOne_37 : decode cX5_readFunctionOfOne 37 = .ok (.getfield 41, 3) := by decide +kernel
theorem dX5_readFunctionOfOne_40 : decode cX5_readFunctionOfOne 40 = .ok (.iconst 1, 1) := by decide +kernel
theorem dX5_readFunctionOfOne_41 : decode cX5_readFunctionOfOne 41 = .ok (.iadd, 1) := by decide +kernel
theorem dX5_readFunctionOfOne_42 : decode cX5_readFunctionOfOne 42 = .ok (.putfield 41, 3) := by decide +kernel
theorem dX5_readFunctionOfOne_45 : decode cX5_readFunctionOfOne 45 = .ok (.aload_n 0, 1) := by decide +kernel
theorem dX5_readFunctionOfOne_46 : decode cX5_readFunctionOfOne 46 = .ok (.iconst 4, 1) := by decide +kernel
theorem dX5_readFunctionOfOne_47 : decode cX5_readFunctionOfOne 47 = .ok (.iload_n 1, 1) := by decide +kernel
theorem dX5_readFunctionOfOne_48 : decode cX5_readFunctionOfOne 48 = .ok (.iload_n 2, 1) := by decide +kernel
theorem dX5_readFunctionOfOne_49 : decode cX5_readFunctionOfOne 49 = .ok (.iconst 0, 1) := by decide +kernel
theorem dX5_readFunctionOfOne_50 : decode cX5_readFunctionOfOne 50 = .ok (.invokevirtual 104, 3) := by decide +kernel
theorem dX5_readFunctionOfOne_53 : decode cX5_readFunctionOfOne 53 = .ok (.iconst 1, 1) := by decide +kernel
theorem dX5_readFunctionOfOne_54 : decode cX5_readFunctionOfOne 54 = .ok (.ireturn, 1) := by decide +kernel
theorem dX5_readFunctionOfOne_55 : decode cX5_readFunctionOfOne 55 = .ok (.aload_n 0, 1) := by decide +kernel
theorem dX5_readFunctionOfOne_56 : decode cX5_readFunctionOfOne 56 = .ok (.iconst 4, 1) := by decide +kernel
theorem dX5_readFunctionOfOne_57 : decode cX5_readFunctionOfOne 57 = .ok (.iload_n 1, 1) := by decide +kernel
theorem dX5_readFunctionOfOne_58 : decode cX5_readFunctionOfOne 58 = .ok (.iconst 0, 1) := by decide +kernel
theorem dX5_readFunctionOfOne_59 : decode cX5_readFunctionOfOne 59 = .ok (.iconst 0, 1) := by decide +kernel
theorem dX5_readFunctionOfOne_60 : decode cX5_readFunctionOfOne 60 = .ok (.invokevirtual 104, 3) := by decide +kernel
theorem dX5_readFunctionOfOne_63 : decode cX5_readFunctionOfOne 63 = .ok (.ldc 108, 2) := by decide +kernel
theorem dX5_readFunctionOfOne_65 : decode cX5_readFunctionOfOne 65 = .ok (.iload_n 1, 1) := by decide +kernel
theorem dX5_readFunctionOfOne_66 : decode cX5_readFunctionOfOne 66 = .ok (.invokevirtual 110, 3) := by decide +kernel
theorem dX5_readFunctionOfOne_69 : decode cX5_readFunctionOfOne 69 = .ok (.ifCond .ge 12, 3) := by decide +kernel
theorem dX5_readFunctionOfOne_72 : decode cX5_readFunctionOfOne 72 = .ok (.ldc 116, 2) := by decide +kernel
theorem dX5_readFunctionOfOne_74 : decode cX5_readFunctionOfOne 74 = .ok (.iload_n 1, 1) := by decide +kernel
theorem dX5_readFunctionOfOne_75 : decode cX5_readFunctionOfOne 75 = .ok (.invokevirtual 110, 3) := by decide +kernel
theorem dX5_readFunctionOfOne_78 : decode cX5_readFunctionOfOne 78 = .ok (.ifCond .lt 7, 3) := by decide +kernel
theorem dX5_readFunctionOfOne_81 : decode cX5_readFunctionOfOne 81 = .ok (.iconst 1, 1) := by decide +kernel
theorem dX5_readFunctionOfOne_82 : decode cX5_readFunctionOfOne 82 = .ok (.goto 4, 3) := by decide +kernel
theorem dX5_readFunctionOfOne_85 : decode cX5_readFunctionOfOne 85 = .ok (.iconst 0, 1) := by decide +kernel
theorem dX5_readFunctionOfOne_86 : decode cX5_readFunctionOfOne 86 = .ok (.ireturn, 1) := by decide +kernel
theorem dX5_readFunctionOfTwo_0 : decode cX5_readFunctionOfTwo 0 = .ok (.iload_n 1, 1) := by decide +kernel
theorem dX5_readFunctionOfTwo_1 : decode cX5_readFunctionOfTwo 1 = .ok (.invokestatic 101, 3) := by decide +kernel
theorem dX5_readFunctionOfTwo_4 : decode cX5_readFunctionOfTwo 4 = .ok (.ifCond .ne 26, 3) := by decide +kernel
theorem dX5_readFunctionOfTwo_7 : decode cX5_readFunctionOfTwo 7 = .ok (.aload_n 0, 1) := by decide +kernel
theorem dX5_readFunctionOfTwo_8 : decode cX5_readFunctionOfTwo 8 = .ok (.iconst 5, 1) := by decide +kernel
theorem dX5_readFunctionOfTwo_9 : decode cX5_readFunctionOfTwo 9 = .ok (.iload_n 1, 1) := by decide +kernel
theorem dX5_readFunctionOfTwo_10 : decode cX5_readFunctionOfTwo 10 = .ok (.iconst 0, 1) := by decide +kernel
theorem dX5_readFunctionOfTwo_11 : decode cX5_readFunctionOfTwo 11 = .ok (.iconst 0, 1) := by decide +kernel
theorem dX5_readFunctionOfTwo_12 : decode cX5_readFunctionOfTwo 12 = .ok (.invokevirtual 104, 3) := by decide +kernel
theorem dX5_readFunctionOfTwo_15 : decode cX5_readFunctionOfTwo 15 = .ok (.ldc 118, 2) := by decide +kernel
theorem dX5_readFunctionOfTwo_17 : decode cX5_readFunctionOfTwo 17 = .ok (.iload_n 1, 1) := by decide +kernel
theorem dX5_readFunctionOfTwo_18 : decode cX5_readFunctionOfTwo 18 = .ok (.invokevirtual 110, 3) := by decide +kernel
theorem dX5_readFunctionOfTwo_21 : decode cX5_readFunctionOfTwo 21 = .ok (.ifCond .lt 7, 3) := by decide +kernel
theorem dX5_readFunctionOfTwo_24 : decode cX5_readFunctionOfTwo 24 = .ok (.iconst 1, 1) := by decide +kernel
theorem dX5_readFunctionOfTwo_25 : decode cX5_readFunctionOfTwo 25 = .ok (.goto 4, 3) := by decide +kernel
theorem dX5_readFunctionOfTwo_28 : decode cX5_readFunctionOfTwo 28 = .ok (.iconst 0, 1) := by decide +kernel
theorem dX5_readFunctionOfTwo_29 : decode cX5_readFunctionOfTwo 29 = .ok (.ireturn, 1) := by decide +kernel
theorem dX5_readFunctionOfTwo_30 : decode cX5_readFunctionOfTwo 30 = .ok (.aload_n 0, 1) := by decide +kernel
theorem dX5_readFunctionOfTwo_31 : decode cX5_readFunctionOfTwo 31 = .ok (.invokevirtual 71, 3) := by decide +kernel
theorem dX5_readFunctionOfTwo_34 : decode cX5_readFunctionOfTwo 34 = .ok (.aload_n 0, 1) := by decide +kernel
theorem dX5_readFunctionOfTwo_35 : decode cX5_readFunctionOfTwo 35 = .ok (.getfield 12, 3) := by decide +kernel
theorem dX5_readFunctionOfTwo_38 : decode cX5_readFunctionOfTwo 38 = .ok (.aload_n 0, 1) := by decide +kernel
theorem dX5_readFunctionOfTwo_39 : decode cX5_readFunctionOfTwo 39 = .ok (.getfield 41, 3) := by decide +kernel
theorem dX5_readFunctionOfTwo_42 : decode cX5_readFunctionOfTwo 42 = .ok (.invokevirtual 77, 3) := by decide +kernel
theorem dX5_readFunctionOfTwo_45 : decode cX5_readFunctionOfTwo 45 = .ok (.istore_n 2, 1) := by decide +kernel
theorem dX5_readFunctionOfTwo_46 : decode cX5_readFunctionOfTwo 46 = .ok (.iload_n 2, 1) := by decide +kernel
theorem dX5_readFunctionOfTwo_47 : decode cX5_readFunctionOfTwo 47 = .ok (.bipush 46, 2) := by decide +kernel
theorem dX5_readFunctionOfTwo_49 : decode cX5_readFunctionOfTwo 49 = .ok (.if_icmp .ne 52, 3) := by decide +kernel
theorem dX5_readFunctionOfTwo_52 : decode cX5_readFunctionOfTwo 52 = .ok (.aload_n 0, 1) := by decide +kernel
theorem dX5_readFunctionOfTwo_53 : decode cX5_readFunctionOfTwo 53 = .ok (.dup, 1) := by decide +kernel
theorem dX5_readFunctionOfTwo_54 : decode cX5_readFunctionOfTwo 54 = .ok (.getfield 41, 3) := by decide +kernel
theorem dX5_readFunctionOfTwo_57 : decode cX5_readFunctionOfTwo 57 = .ok (.iconst 1, 1) := by decide +kernel
theorem dX5_readFunctionOfTwo_58 : decode cX5_readFunctionOfTwo 58 = .ok (.iadd, 1) := by decide +kernel
theorem dX5_readFunctionOfTwo_59 : decode cX5_readFunctionOfTwo 59 = .ok (.putfield 41, 3) := by decide +kernel
theorem dX5_readFunctionOfTwo_62 : decode cX5_readFunctionOfTwo 62 = .ok (.aload_n 0, 1) := by decide +kernel
theorem dX5_readFunctionOfTwo_63 : decode cX5_readFunctionOfTwo 63 = .ok (.invokevirtual 71, 3) := by decide +kernel
theorem dX5_readFunctionOfTwo_66 : decode cX5_readFunctionOfTwo 66 = .ok (.aload_n 0, 1) := by decide +kernel
theorem dX5_readFunctionOfTwo_67 : decode cX5_readFunctionOfTwo 67 = .ok (.getfield 12, 3) := by decide +kernel
theorem dX5_readFunctionOfTwo_70 : decode cX5_readFunctionOfTwo 70 = .ok (.aload_n 0, 1) := by decide +kernel
theorem dX5_readFunctionOfTwo_71 : decode cX5_readFunctionOfTwo 71 = .ok (.getfield 41, 3) := by decide +kernel
theorem dX5_readFunctionOfTwo_74 : decode cX5_readFunctionOfTwo 74 = .ok (.invokevirtual 77, 3) := by decide +kernel
theorem dX5_readFunctionOfTwo_77 : decode cX5_readFunctionOfTwo 77 = .ok (.istore_n 3, 1) := by decide +kernel
theorem dX5_readFunctionOfTwo_78 : decode cX5_readFunctionOfTwo 78 = .ok (.aload_n 0, 1) := by decide +kernel
theorem dX5_readFunctionOfTwo_79 : decode cX5_readFunctionOfTwo 79 = .ok (.dup, 1) := by decide +kernel
theorem dX5_readFunctionOfTwo_80 : decode cX5_readFunctionOfTwo 80 = .ok (.getfield 41, 3) := by decide +kernel
theorem dX5_readFunctionOfTwo_83 : decode cX5_readFunctionOfTwo 83 = .ok (.iconst 1, 1) := by decide +kernel
theorem dX5_readFunctionOfTwo_84 : decode cX5_readFunctionOfTwo 84 = .ok (.iadd, 1) := by decide +kernel
theorem dX5_readFunctionOfTwo_85 : decode cX5_readFunctionOfTwo 85 = .ok (.putfield 41, 3) := by decide +kernel
theorem dX5_readFunctionOfTwo_88 : decode cX5_readFunctionOfTwo 88 = .ok (.aload_n 0, 1) := by decide +kernel
theorem dX5_readFunctionOfTwo_89 : decode cX5_readFunctionOfTwo 89 = .ok (.iconst 5, 1) := by decide +kernel
theorem dX5_readFunctionOfTwo_90 : decode cX5_readFunctionOfTwo 90 = .ok (.iload_n 1, 1) := by decide +kernel
theorem dX5_readFunctionOfTwo_91 : decode cX5_readFunctionOfTwo 91 = .ok (.iload_n 2, 1) := by decide +kernel
theorem dX5_readFunctionOfTwo_92 : decode cX5_readFunctionOfTwo 92 = .ok (.iload_n 3, 1) := by decide +kernel
theorem dX5_readFunctionOfTwo_93 : decode cX5_readFunctionOfTwo 93 = .ok (.invokevirtual 104, 3) := by decide +kernel
theorem dX5_readFunctionOfTwo_96 : decode cX5_readFunctionOfTwo 96 = .ok (.iload_n 3, 1) := by decide +kernel
theorem dX5_readFunctionOfTwo_97 : decode cX5_readFunctionOfTwo 97 = .ok (.invokestatic 101, 3) := by decide +kernel
theorem dX5_readFunctionOfTwo_100 : decode cX5_readFunctionOfTwo 100 = .ok (.ireturn, 1) := by decide +kernel
theorem dX5_readFunctionOfTwo_101 : decode cX5_readFunctionOfTwo 101 = .ok (.iload_n 2, 1) := by decide +kernel
theorem dX5_readFunctionOfTwo_102 : decode cX5_readFunctionOfTwo 102 = .ok (.bipush 64, 2) := by decide +kernel
theorem dX5_readFunctionOfTwo_104 : decode cX5_readFunctionOfTwo 104 = .ok (.if_icmp .ne 13, 3) := by decide +kernel
theorem dX5_readFunctionOfTwo_107 : decode cX5_readFunctionOfTwo 107 = .ok (.aload_n 0, 1) := by decide +kernel
theorem dX5_readFunctionOfTwo_108 : decode cX5_readFunctionOfTwo 108 = .ok (.dup, 1) := by decide +kernel
theorem dX5_readFunctionOfTwo_109 : decode cX5_readFunctionOfTwo 109 = .ok (.getfield 41, 3) := by decide +kernel
theorem dX5_readFunctionOfTwo_112 : decode cX5_readFunctionOfTwo 112 = .ok (.iconst 1, 1) := by decide +kernel
theorem dX5_readFunctionOfTwo_113 : decode cX5_readFunctionOfTwo 113 = .ok (.iadd, 1) := by decide +kernel
theorem dX5_readFunctionOfTwo_114 : decode cX5_readFunctionOfTwo 114 = .ok (.putfield 41, 3) := by decide +kernel
theorem dX5_readFunctionOfTwo_117 : decode cX5_readFunctionOfTwo 117 = .ok (.aload_n 0, 1) := by decide +kernel
theorem dX5_readFunctionOfTwo_118 : decode cX5_readFunctionOfTwo 118 = .ok (.iconst 5, 1) := by decide +kernel
theorem dX5_readFunctionOfTwo_119 : decode cX5_readFunctionOfTwo 119 = .ok (.iload_n 1, 1) := by decide +kernel
theorem dX5_readFunctionOfTwo_120 : decode cX5_readFunctionOfTwo 120 = .ok (.iload_n 2, 1) := by decide +kernel
theorem dX5_readFunctionOfTwo_121 : decode cX5_readFunctionOfTwo 121 = .ok (.bipush 64, 2) := by decide +kernel
theorem dX5_readFunctionOfTwo_123 : decode cX5_readFunctionOfTwo 123 = .ok (.if_icmp .ne 7, 3) := by decide +kernel
theorem dX5_readFunctionOfTwo_126 : decode cX5_readFunctionOfTwo 126 = .ok (.iload_n 2, 1) := by decide +kernel
theorem dX5_readFunctionOfTwo_127 : decode cX5_readFunctionOfTwo 127 = .ok (.goto 4, 3) := by decide +kernel
theorem dX5_readFunctionOfTwo_130 : decode cX5_readFunctionOfTwo 130 = .ok (.iconst 0, 1) := by decide +kernel
theorem dX5_readFunctionOfTwo_131 : decode cX5_readFunctionOfTwo 131 = .ok (.iconst 0, 1) := by decide +kernel
theorem dX5_readFunctionOfTwo_132 : decode cX5_readFunctionOfTwo 132 = .ok (.invokevirtual 104, 3) := by decide +kernel
theorem dX5_readFunctionOfTwo_135 : decode cX5_readFunctionOfTwo 135 = .ok (.iconst 1, 1) := by decide +kernel
theorem dX5_readFunctionOfTwo_136 : decode cX5_readFunctionOfTwo 136 = .ok (.ireturn, 1) := by decide +kernel
theorem dX5_readNumbers_0 : decode cX5_readNumbers 0 = .ok (.aload_n 0, 1) := by decide +kernel
theorem dX5_readNumbers_1 : decode cX5_readNumbers 1 = .ok (.getfield 48, 3) := by decide +kernel
theorem dX5_readNumbers_4 : decode cX5_readNumbers 4 = .ok (.istore_n 1, 1) := by decide +kernel
theorem dX5_readNumbers_5 : decode cX5_readNumbers 5 = .ok (.iconst 0, 1) := by decide +kernel
theorem dX5_readNumbers_6 : decode cX5_readNumbers 6 = .ok (.istore_n 2, 1) := by decide +kernel
theorem dX5_readNumbers_7 : decode cX5_readNumbers 7 = .ok (.iload_n 2, 1) := by decide +kernel
theorem dX5_readNumbers_8 : decode cX5_readNumbers 8 = .ok (.sipush 200, 3) := by decide +kernel
theorem dX5_readNumbers_11 : decode cX5_readNumbers 11 = .ok (.if_icmp .ge 58, 3) := by decide +kernel
theorem dX5_readNumbers_14 : decode cX5_readNumbers 14 = .ok (.aload_n 0, 1) := by decide +kernel
theorem dX5_readNumbers_15 : decode cX5_readNumbers 15 = .ok (.getfield 12, 3) := by decide +kernel
theorem dX5_readNumbers_18 : decode cX5_readNumbers 18 = .ok (.aload_n 0, 1) := by decide +kernel
theorem dX5_readNumbers_19 : decode cX5_readNumbers 19 = .ok (.getfield 41, 3) := by decide +kernel
theorem dX5_readNumbers_22 : decode cX5_readNumbers 22 = .ok (.invokevirtual 77, 3) := by decide +kernel
theorem dX5_readNumbers_25 : decode cX5_readNumbers 25 = .ok (.invokestatic 85, 3) := by decide +kernel
theorem dX5_readNumbers_28 : decode cX5_readNumbers 28 = .ok (.ifCond .ne 22, 3) := by decide +kernel
theorem dX5_readNumbers_31 : decode cX5_readNumbers 31 = .ok (.aload_n 0, 1) := by decide +kernel
theorem dX5_readNumbers_32 : decode cX5_readNumbers 32 = .ok (.getfield 12, 3) := by decide +kernel
theorem dX5_readNumbers_35 : decode cX5_readNumbers 35 = .ok (.aload_n 0, 1) := by decide +kernel
theorem dX5_readNumbers_36 : decode cX5_readNumbers 36 = .ok (.getfield 41, 3) := by decide +kernel
theorem dX5_readNumbers_39 : decode cX5_readNumbers 39 = .ok (.invokevirtual 77, 3) := by decide +kernel
theorem dX5_readNumbers_42 : decode cX5_readNumbers 42 = .ok (.bipush 95, 2) := by decide +kernel
theorem dX5_readNumbers_44 : decode cX5_readNumbers 44 = .ok (.if_icmp .eq 6, 3) := by decide +kernel
theorem dX5_readNumbers_47 : decode cX5_readNumbers 47 = .ok (.goto 22, 3) := by decide +kernel
theorem dX5_readNumbers_50 : decode cX5_readNumbers 50 = .ok (.aload_n 0, 1) := by decide +kernel
theorem dX5_readNumbers_51 : decode cX5_readNumbers 51 = .ok (.invokevirtual 120, 3) := by decide +kernel
theorem dX5_readNumbers_54 : decode cX5_readNumbers 54 = .ok (.ifCond .ne 5, 3) := by decide +kernel
theorem dX5_readNumbers_57 : decode cX5_readNumbers 57 = .ok (.iconst 0, 1) := by decide +kernel
theorem dX5_readNumbers_58 : decode cX5_readNumbers 58 = .ok (.ireturn, 1) := by decide +kernel
theorem dX5_readNumbers_59 : decode cX5_readNumbers 59 = .ok (.aload_n 0, 1) := by decide +kernel
theorem dX5_readNumbers_60 : decode cX5_readNumbers 60 = .ok (.invokevirtual 71, 3) := by decide +kernel
theorem dX5_readNumbers_63 : decode cX5_readNumbers 63 = .ok (.iinc 2 1, 3) := by decide +kernel
theorem dX5_readNumbers_66 : decode cX5_readNumbers 66 = .ok (.goto (-59), 3) := by decide +kernel
theorem dX5_readNumbers_69 : decode cX5_readNumbers 69 = .ok (.aload_n 0, 1) := by decide +kernel
theorem dX5_readNumbers_70 : decode cX5_readNumbers 70 = .ok (.getfield 22, 3) := by decide +kernel
theorem dX5_readNumbers_73 : decode cX5_readNumbers 73 = .ok (.aload_n 0, 1) := by decide +kernel
theorem dX5_readNumbers_74 : decode cX5_readNumbers 74 = .ok (.getfield 45, 3) := by decide +kernel
theorem dX5_readNumbers_77 : decode cX5_readNumbers 77 = .ok (.iload_n 1, 1) := by decide +kernel
theorem dX5_readNumbers_78 : decode cX5_readNumbers 78 = .ok (.iastore, 1) := by decide +kernel
theorem dX5_readNumbers_79 : decode cX5_readNumbers 79 = .ok (.aload_n 0, 1) := by decide +kernel
theorem dX5_readNumbers_80 : decode cX5_readNumbers 80 = .ok (.getfield 25, 3) := by decide +kernel
theorem dX5_readNumbers_83 : decode cX5_readNumbers 83 = .ok (.aload_n 0, 1) := by decide +kernel
theorem dX5_readNumbers_84 : decode cX5_readNumbers 84 = .ok (.getfield 45, 3) := by decide +kernel
theorem dX5_readNumbers_87 : decode cX5_readNumbers 87 = .ok (.aload_n 0, 1) := by decide +kernel
theorem dX5_readNumbers_88 : decode cX5_readNumbers 88 = .ok (.getfield 48, 3) := by decide +kernel
theorem dX5_readNumbers_91 : decode cX5_readNumbers 91 = .ok (.iload_n 1, 1) := by decide +kernel
theorem dX5_readNumbers_92 : decode cX5_readNumbers 92 = .ok (.isub, 1) := by decide +kernel
theorem dX5_readNumbers_93 : decode cX5_readNumbers 93 = .ok (.iastore, 1) := by decide +kernel
theorem dX5_readNumbers_94 : decode cX5_readNumbers 94 = .ok (.aload_n 0, 1) := by decide +kernel
theorem dX5_readNumbers_95 : decode cX5_readNumbers 95 = .ok (.iconst 0, 1) := by decide +kernel
theorem dX5_readNumbers_96 : decode cX5_readNumbers 96 = .ok (.invokevirtual 91, 3) := by decide +kernel
theorem dX5_readNumbers_99 : decode cX5_readNumbers 99 = .ok (.aload_n 0, 1) := by decide +kernel
theorem dX5_readNumbers_100 : decode cX5_readNumbers 100 = .ok (.iconst 0, 1) := by decide +kernel
theorem dX5_readNumbers_101 : decode cX5_readNumbers 101 = .ok (.putfield 54, 3) := by decide +kernel
theorem dX5_readNumbers_104 : decode cX5_readNumbers 104 = .ok (.iconst 1, 1) := by decide +kernel
theorem dX5_readNumbers_105 : decode cX5_readNumbers 105 = .ok (.ireturn, 1) := by decide +kernel
theorem dX5_readNumber_0 : decode cX5_readNumber 0 = .ok (.aload_n 0, 1) := by decide +kernel
theorem dX5_readNumber_1 : decode cX5_readNumber 1 = .ok (.getfield 12, 3) := by decide +kernel
theorem dX5_readNumber_4 : decode cX5_readNumber 4 = .ok (.aload_n 0, 1) := by decide +kernel
theorem dX5_readNumber_5 : decode cX5_readNumber 5 = .ok (.getfield 41, 3) := by decide +kernel
theorem dX5_readNumber_8 : decode cX5_readNumber 8 = .ok (.invokevirtual 77, 3) := by decide +kernel
theorem dX5_readNumber_11 : decode cX5_readNumber 11 = .ok (.bipush 95, 2) := by decide +kernel
theorem dX5_readNumber_13 : decode cX5_readNumber 13 = .ok (.if_icmp .ne 7, 3) := by decide +kernel
theorem dX5_readNumber_16 : decode cX5_readNumber 16 = .ok (.iconst 1, 1) := by decide +kernel
theorem dX5_readNumber_17 : decode cX5_readNumber 17 = .ok (.goto 4, 3) := by decide +kernel
theorem dX5_readNumber_20 : decode cX5_readNumber 20 = .ok (.iconst 0, 1) := by decide +kernel
theorem dX5_readNumber_21 : decode cX5_readNumber 21 = .ok (.istore_n 1, 1) := by decide +kernel
theorem dX5_readNumber_22 : decode cX5_readNumber 22 = .ok (.iload_n 1, 1) := by decide +kernel
theorem dX5_readNumber_23 : decode cX5_readNumber 23 = .ok (.ifCond .eq 13, 3) := by decide +kernel
theorem dX5_readNumber_26 : decode cX5_readNumber 26 = .ok (.aload_n 0, 1) := by decide +kernel
theorem dX5_readNumber_27 : decode cX5_readNumber 27 = .ok (.dup, 1) := by decide +kernel
theorem dX5_readNumber_28 : decode cX5_readNumber 28 = .ok (.getfield 41, 3) := by decide +kernel
theorem dX5_readNumber_31 : decode cX5_readNumber 31 = .ok (.iconst 1, 1) := by decide +kernel
theorem dX5_readNumber_32 : decode cX5_readNumber 32 = .ok (.iadd, 1) := by decide +kernel
theorem dX5_readNumber_33 : decode cX5_readNumber 33 = .ok (.putfield 41, 3) := by decide +kernel
theorem dX5_readNumber_36 : decode cX5_readNumber 36 = .ok (.iconst 0, 1) := by decide +kernel
theorem dX5_readNumber_37 : decode cX5_readNumber 37 = .ok (.istore_n 2, 1) := by decide +kernel
theorem dX5_readNumber_38 : decode cX5_readNumber 38 = .ok (.iconst 0, 1) := by decide +kernel
theorem dX5_readNumber_39 : decode cX5_readNumber 39 = .ok (.istore_n 3, 1) := by decide +kernel
theorem dX5_readNumber_40 : decode cX5_readNumber 40 = .ok (.iload_n 3, 1) := by decide +kernel
theorem dX5_readNumber_41 : decode cX5_readNumber 41 = .ok (.bipush 9, 2) := by decide +kernel
theorem dX5_readNumber_43 : decode cX5_readNumber 43 = .ok (.if_icmp .ge 56, 3) := by decide +kernel
theorem dX5_readNumber_46 : decode cX5_readNumber 46 = .ok (.aload_n 0, 1) := by decide +kernel
theorem dX5_readNumber_47 : decode cX5_readNumber 47 = .ok (.getfield 12, 3) := by decide +kernel
theorem dX5_readNumber_50 : decode cX5_readNumber 50 = .ok (.aload_n 0, 1) := by decide +kernel
theorem dX5_readNumber_51 : decode cX5_readNumber 51 = .ok (.getfield 41, 3) := by decide +kernel
theorem dX5_readNumber_54 : decode cX5_readNumber 54 = .ok (.invokevirtual 77, 3) := by decide +kernel
theorem dX5_readNumber_57 : decode cX5_readNumber 57 = .ok (.invokestatic 85, 3) := by decide +kernel
theorem dX5_readNumber_60 : decode cX5_readNumber 60 = .ok (.ifCond .eq 39, 3) := by decide +kernel
theorem dX5_readNumber_63 : decode cX5_readNumber 63 = .ok (.bipush 10, 2) := by decide +kernel
theorem dX5_readNumber_65 : decode cX5_readNumber 65 = .ok (.iload_n 2, 1) := by decide +kernel
theorem dX5_readNumber_66 : decode cX5_readNumber 66 = .ok (.imul, 1) := by decide +kernel
theorem dX5_readNumber_67 : decode cX5_readNumber 67 = .ok (.aload_n 0, 1) := by decide +kernel
theorem dX5_readNumber_68 : decode cX5_readNumber 68 = .ok (.getfield 12, 3) := by decide +kernel
theorem dX5_readNumber_71 : decode cX5_readNumber 71 = .ok (.aload_n 0, 1) := by decide +kernel
theorem dX5_readNumber_72 : decode cX5_readNumber 72 = .ok (.getfield 41, 3) := by decide +kernel
theorem dX5_readNumber_75 : decode cX5_readNumber 75 = .ok (.invokevirtual 77, 3) := by decide +kernel
theorem dX5_readNumber_78 : decode cX5_readNumber 78 = .ok (.bipush 48, 2) := by decide +kernel
theorem dX5_readNumber_80 : decode cX5_readNumber 80 = .ok (.isub, 1) := by decide +kernel
theorem dX5_readNumber_81 : decode cX5_readNumber 81 = .ok (.iadd, 1) := by decide +kernel
theorem dX5_readNumber_82 : decode cX5_readNumber 82 = .ok (.istore_n 2, 1) := by decide +kernel
theorem dX5_readNumber_83 : decode cX5_readNumber 83 = .ok (.aload_n 0, 1) := by decide +kernel
theorem dX5_readNumber_84 : decode cX5_readNumber 84 = .ok (.dup, 1) := by decide +kernel
theorem dX5_readNumber_85 : decode cX5_readNumber 85 = .ok (.getfield 41, 3) := by decide +kernel
theorem dX5_readNumber_88 : decode cX5_readNumber 88 = .ok (.iconst 1, 1) := by decide +kernel
theorem dX5_readNumber_89 : decode cX5_readNumber 89 = .ok (.iadd, 1) := by decide +kernel
theorem dX5_readNumber_90 : decode cX5_readNumber 90 = .ok (.putfield 41, 3) := by decide +kernel
theorem dX5_readNumber_93 : decode cX5_readNumber 93 = .ok (.iinc 3 1, 3) := by decide +kernel
theorem dX5_readNumber_96 : decode cX5_readNumber 96 = .ok (.goto (-56), 3) := by decide +kernel
theorem dX5_readNumber_99 : decode cX5_readNumber 99 = .ok (.aload_n 0, 1) := by decide +kernel
theorem dX5_readNumber_100 : decode cX5_readNumber 100 = .ok (.getfield 38, 3) := by decide +kernel
theorem dX5_readNumber_103 : decode cX5_readNumber 103 = .ok (.aload_n 0, 1) := by decide +kernel
theorem dX5_readNumber_104 : decode cX5_readNumber 104 = .ok (.getfield 48, 3) := by decide +kernel
theorem dX5_readNumber_107 : decode cX5_readNumber 107 = .ok (.iload_n 1, 1) := by decide +kernel
theorem dX5_readNumber_108 : decode cX5_readNumber 108 = .ok (.ifCond .eq 8, 3) := by decide +kernel
theorem dX5_readNumber_111 : decode cX5_readNumber 111 = .ok (.iload_n 2, 1) := by decide +kernel
theorem dX5_readNumber_112 : decode cX5_readNumber 112 = .ok (.ineg, 1) := by decide +kernel
theorem dX5_readNumber_113 : decode cX5_readNumber 113 = .ok (.goto 4, 3) := by decide +kernel
theorem dX5_readNumber_116 : decode cX5_readNumber 116 = .ok (.iload_n 2, 1) := by decide +kernel
theorem dX5_readNumber_117 : decode cX5_readNumber 117 = .ok (.iastore, 1) := by decide +kernel
theorem dX5_readNumber_118 : decode cX5_readNumber 118 = .ok (.aload_n 0, 1) := by decide +kernel
theorem dX5_readNumber_119 : decode cX5_readNumber 119 = .ok (.dup, 1) := by decide +kernel
theorem dX5_readNumber_120 : decode cX5_readNumber 120 = .ok (.getfield 48, 3) := by decide +kernel
theorem dX5_readNumber_123 : decode cX5_readNumber 123 = .ok (.iconst 1, 1) := by decide +kernel
theorem dX5_readNumber_124 : decode cX5_readNumber 124 = .ok (.iadd, 1) := by decide +kernel
theorem dX5_readNumber_125 : decode cX5_readNumber 125 = .ok (.putfield 48, 3) := by decide +kernel
theorem dX5_readNumber_128 : decode cX5_readNumber 128 = .ok (.iload_n 3, 1) := by decide +kernel
theorem dX5_readNumber_129 : decode cX5_readNumber 129 = .ok (.ifCond .le 40, 3) := by decide +kernel
theorem dX5_readNumber_132 : decode cX5_readNumber 132 = .ok (.aload_n 0, 1) := by decide +kernel
theorem dX5_readNumber_133 : decode cX5_readNumber 133 = .ok (.getfield 12, 3) := by decide +kernel
theorem dX5_readNumber_136 : decode cX5_readNumber 136 = .ok (.aload_n 0, 1) := by decide +kernel
theorem dX5_readNumber_137 : decode cX5_readNumber 137 = .ok (.getfield 41, 3) := by decide +kernel
theorem dX5_readNumber_140 : decode cX5_readNumber 140 = .ok (.invokevirtual 77, 3) := by decide +kernel
theorem dX5_readNumber_143 : decode cX5_readNumber 143 = .ok (.invokestatic 85, 3) := by decide +kernel
theorem dX5_readNumber_146 : decode cX5_readNumber 146 = .ok (.ifCond .ne 23, 3) := by decide +kernel
theorem dX5_readNumber_149 : decode cX5_readNumber 149 = .ok (.aload_n 0, 1) := by decide +kernel
theorem dX5_readNumber_150 : decode cX5_readNumber 150 = .ok (.getfield 12, 3) := by decide +kernel
theorem dX5_readNumber_153 : decode cX5_readNumber 153 = .ok (.aload_n 0, 1) := by decide +kernel
theorem dX5_readNumber_154 : decode cX5_readNumber 154 = .ok (.getfield 41, 3) := by decide +kernel
theorem dX5_readNumber_157 : decode cX5_readNumber 157 = .ok (.invokevirtual 77, 3) := by decide +kernel
theorem dX5_readNumber_160 : decode cX5_readNumber 160 = .ok (.bipush 95, 2) := by decide +kernel
theorem dX5_readNumber_162 : decode cX5_readNumber 162 = .ok (.if_icmp .eq 7, 3) := by decide +kernel
theorem dX5_readNumber_165 : decode cX5_readNumber 165 = .ok (.iconst 1, 1) := by decide +kernel
theorem dX5_readNumber_166 : decode cX5_readNumber 166 = .ok (.goto 4, 3) := by decide +kernel
theorem dX5_readNumber_169 : decode cX5_readNumber 169 = .ok (.iconst 0, 1) := by decide +kernel
theorem dX5_readNumber_170 : decode cX5_readNumber 170 = .ok (.ireturn, 1) := by decide +kernel
theorem dX5_skipBlanks_0 : decode cX5_skipBlanks 0 = .ok (.iconst 0, 1) := by decide +kernel
theorem dX5_skipBlanks_1 : decode cX5_skipBlanks 1 = .ok (.istore_n 1, 1) := by decide +kernel
theorem dX5_skipBlanks_2 : decode cX5_skipBlanks 2 = .ok (.iload_n 1, 1) := by decide +kernel
theorem dX5_skipBlanks_3 : decode cX5_skipBlanks 3 = .ok (.sipush 200, 3) := by decide +kernel
theorem dX5_skipBlanks_6 : decode cX5_skipBlanks 6 = .ok (.if_icmp .ge 35, 3) := by decide +kernel
theorem dX5_skipBlanks_9 : decode cX5_skipBlanks 9 = .ok (.aload_n 0, 1) := by decide +kernel
theorem dX5_skipBlanks_10 : decode cX5_skipBlanks 10 = .ok (.getfield 12, 3) := by decide +kernel
theorem dX5_skipBlanks_13 : decode cX5_skipBlanks 13 = .ok (.aload_n 0, 1) := by decide +kernel
theorem dX5_skipBlanks_14 : decode cX5_skipBlanks 14 = .ok (.getfield 41, 3) := by decide +kernel
theorem dX5_skipBlanks_17 : decode cX5_skipBlanks 17 = .ok (.invokevirtual 77, 3) := by decide +kernel
theorem dX5_skipBlanks_20 : decode cX5_skipBlanks 20 = .ok (.bipush 32, 2) := by decide +kernel
theorem dX5_skipBlanks_22 : decode cX5_skipBlanks 22 = .ok (.if_icmp .ne 19, 3) := by decide +kernel
theorem dX5_skipBlanks_25 : decode cX5_skipBlanks 25 = .ok (.aload_n 0, 1) := by decide +kernel
theorem dX5_skipBlanks_26 : decode cX5_skipBlanks 26 = .ok (.dup, 1) := by decide +kernel
theorem dX5_skipBlanks_27 : decode cX5_skipBlanks 27 = .ok (.getfield 41, 3) := by decide +kernel
theorem dX5_skipBlanks_30 : decode cX5_skipBlanks 30 = .ok (.iconst 1, 1) := by decide +kernel
theorem dX5_skipBlanks_31 : decode cX5_skipBlanks 31 = .ok (.iadd, 1) := by decide +kernel
theorem dX5_skipBlanks_32 : decode cX5_skipBlanks 32 = .ok (.putfield 41, 3) := by decide +kernel
theorem dX5_skipBlanks_35 : decode cX5_skipBlanks 35 = .ok (.iinc 1 1, 3) := by decide +kernel
theorem dX5_skipBlanks_38 : decode cX5_skipBlanks 38 = .ok (.goto (-36), 3) := by decide +kernel
theorem dX5_skipBlanks_41 : decode cX5_skipBlanks 41 = .ok (.return_, 1) := by decide +kernel
theorem dX5_addStep_0 : decode cX5_addStep 0 = .ok (.aload_n 0, 1) := by decide +kernel
theorem dX5_addStep_1 : decode cX5_addStep 1 = .ok (.getfield 18, 3) := by decide +kernel
theorem dX5_addStep_4 : decode cX5_addStep 4 = .ok (.aload_n 0, 1) := by decide +kernel
theorem dX5_addStep_5 : decode cX5_addStep 5 = .ok (.getfield 45, 3) := by decide +kernel
theorem dX5_addStep_8 : decode cX5_addStep 8 = .ok (.iload_n 1, 1) := by decide +kernel
theorem dX5_addStep_9 : decode cX5_addStep 9 = .ok (.iastore, 1) := by decide +kernel
theorem dX5_addStep_10 : decode cX5_addStep 10 = .ok (.aload_n 0, 1) := by decide +kernel
theorem dX5_addStep_11 : decode cX5_addStep 11 = .ok (.dup, 1) := by decide +kernel
theorem dX5_addStep_12 : decode cX5_addStep 12 = .ok (.getfield 45, 3) := by decide +kernel
theorem dX5_addStep_15 : decode cX5_addStep 15 = .ok (.iconst 1, 1) := by decide +kernel
theorem dX5_addStep_16 : decode cX5_addStep 16 = .ok (.iadd, 1) := by decide +kernel
theorem dX5_addStep_17 : decode cX5_addStep 17 = .ok (.putfield 45, 3) := by decide +kernel
theorem dX5_addStep_20 : decode cX5_addStep 20 = .ok (.return_, 1) := by decide +kernel
theorem dX5_addFunction_0 : decode cX5_addFunction 0 = .ok (.aload_n 0, 1) := by decide +kernel
theorem dX5_addFunction_1 : decode cX5_addFunction 1 = .ok (.getfield 28, 3) := by decide +kernel
theorem dX5_addFunction_4 : decode cX5_addFunction 4 = .ok (.aload_n 0, 1) := by decide +kernel
theorem dX5_addFunction_5 : decode cX5_addFunction 5 = .ok (.getfield 45, 3) := by decide +kernel
theorem dX5_addFunction_8 : decode cX5_addFunction 8 = .ok (.iload_n 2, 1) := by decide +kernel
theorem dX5_addFunction_9 : decode cX5_addFunction 9 = .ok (.castore, 1) := by decide +kernel
theorem dX5_addFunction_10 : decode cX5_addFunction 10 = .ok (.aload_n 0, 1) := by decide +kernel
theorem dX5_addFunction_11 : decode cX5_addFunction 11 = .ok (.getfield 32, 3) := by decide +kernel
theorem dX5_addFunction_14 : decode cX5_addFunction 14 = .ok (.aload_n 0, 1) := by decide +kernel
theorem dX5_addFunction_15 : decode cX5_addFunction 15 = .ok (.getfield 45, 3) := by decide +kernel
theorem dX5_addFunction_18 : decode cX5_addFunction 18 = .ok (.iload_n 3, 1) := by decide +kernel
theorem dX5_addFunction_19 : decode cX5_addFunction 19 = .ok (.castore, 1) := by decide +kernel
theorem dX5_addFunction_20 : decode cX5_addFunction 20 = .ok (.aload_n 0, 1) := by decide +kernel
theorem dX5_addFunction_21 : decode cX5_addFunction 21 = .ok (.getfield 35, 3) := by decide +kernel
theorem dX5_addFunction_24 : decode cX5_addFunction 24 = .ok (.aload_n 0, 1) := by decide +kernel
theorem dX5_addFunction_25 : decode cX5_addFunction 25 = .ok (.getfield 45, 3) := by decide +kernel
theorem dX5_addFunction_28 : decode cX5_addFunction 28 = .ok (.iload 4, 2) := by decide +kernel
theorem dX5_addFunction_30 : decode cX5_addFunction 30 = .ok (.castore, 1) := by decide +kernel
theorem dX5_addFunction_31 : decode cX5_addFunction 31 = .ok (.aload_n 0, 1) := by decide +kernel
theorem dX5_addFunction_32 : decode cX5_addFunction 32 = .ok (.iload_n 1, 1) := by decide +kernel
theorem dX5_addFunction_33 : decode cX5_addFunction 33 = .ok (.invokevirtual 91, 3) := by decide +kernel
theorem dX5_addFunction_36 : decode cX5_addFunction 36 = .ok (.return_, 1) := by decide +kernel
theorem dX5_isDigit_0 : decode cX5_isDigit 0 = .ok (.iload_n 0, 1) := by decide +kernel
theorem dX5_isDigit_1 : decode cX5_isDigit 1 = .ok (.bipush 48, 2) := by decide +kernel
theorem dX5_isDigit_3 : decode cX5_isDigit 3 = .ok (.if_icmp .lt 13, 3) := by decide +kernel
theorem dX5_isDigit_6 : decode cX5_isDigit 6 = .ok (.iload_n 0, 1) := by decide +kernel
theorem dX5_isDigit_7 : decode cX5_isDigit 7 = .ok (.bipush 57, 2) := by decide +kernel
theorem dX5_isDigit_9 : decode cX5_isDigit 9 = .ok (.if_icmp .gt 7, 3) := by decide +kernel
theorem dX5_isDigit_12 : decode cX5_isDigit 12 = .ok (.iconst 1, 1) := by decide +kernel
theorem dX5_isDigit_13 : decode cX5_isDigit 13 = .ok (.goto 4, 3) := by decide +kernel
theorem dX5_isDigit_16 : decode cX5_isDigit 16 = .ok (.iconst 0, 1) := by decide +kernel
theorem dX5_isDigit_17 : decode cX5_isDigit 17 = .ok (.ireturn, 1) := by decide +kernel
theorem dX5_isName_0 : decode cX5_isName 0 = .ok (.iload_n 0, 1) := by decide +kernel
theorem dX5_isName_1 : decode cX5_isName 1 = .ok (.bipush 65, 2) := by decide +kernel
theorem dX5_isName_3 : decode cX5_isName 3 = .ok (.if_icmp .lt 13, 3) := by decide +kernel
theorem dX5_isName_6 : decode cX5_isName 6 = .ok (.iload_n 0, 1) := by decide +kernel
theorem dX5_isName_7 : decode cX5_isName 7 = .ok (.bipush 73, 2) := by decide +kernel
theorem dX5_isName_9 : decode cX5_isName 9 = .ok (.if_icmp .ge 7, 3) := by decide +kernel
theorem dX5_isName_12 : decode cX5_isName 12 = .ok (.iconst 1, 1) := by decide +kernel
theorem dX5_isName_13 : decode cX5_isName 13 = .ok (.goto 4, 3) := by decide +kernel
theorem dX5_isName_16 : decode cX5_isName 16 = .ok (.iconst 0, 1) := by decide +kernel
theorem dX5_isName_17 : decode cX5_isName 17 = .ok (.ireturn, 1) := by decide +kernel
theorem dX5_isNumberFunction_0 : decode cX5_isNumberFunction 0 = .ok (.ldc 123, 2) := by decide +kernel
theorem dX5_isNumberFunction_2 : decode cX5_isNumberFunction 2 = .ok (.iload_n 0, 1) := by decide +kernel
theorem dX5_isNumberFunction_3 : decode cX5_isNumberFunction 3 = .ok (.invokevirtual 110, 3) := by decide +kernel
theorem dX5_isNumberFunction_6 : decode cX5_isNumberFunction 6 = .ok (.ifCond .lt 7, 3) := by decide +kernel
theorem dX5_isNumberFunction_9 : decode cX5_isNumberFunction 9 = .ok (.iconst 1, 1) := by decide +kernel
theorem dX5_isNumberFunction_10 : decode cX5_isNumberFunction 10 = .ok (.goto 4, 3) := by decide +kernel
theorem dX5_isNumberFunction_13 : decode cX5_isNumberFunction 13 = .ok (.iconst 0, 1) := by decide +kernel
theorem dX5_isNumberFunction_14 : decode cX5_isNumberFunction 14 = .ok (.ireturn, 1) := by decide +kernel
theorem dX6_init_0 : decode cX6_init 0 = .ok (.aload_n 0, 1) := by decide +kernel
theorem dX6_init_1 : decode cX6_init 1 = .ok (.invokespecial 3, 3) := by decide +kernel
theorem dX6_init_4 : decode cX6_init 4 = .ok (.aload_n 0, 1) := by decide +kernel
theorem dX6_init_5 : decode cX6_init 5 = .ok (.sipush 200, 3) := by decide +kernel
theorem dX6_init_8 : decode cX6_init 8 = .ok (.newarray .char, 2) := by decide +kernel
theorem dX6_init_10 : decode cX6_init 10 = .ok (.putfield 9, 3) := by decide +kernel
theorem dX6_init_13 : decode cX6_init 13 = .ok (.return_, 1) := by decide +kernel
theorem dX6_append_0 : decode cX6_append 0 = .ok (.iload_n 1, 1) := by decide +kernel
theorem dX6_append_1 : decode cX6_append 1 = .ok (.invokestatic 15, 3) := by decide +kernel
theorem dX6_append_4 : decode cX6_append 4 = .ok (.istore_n 2, 1) := by decide +kernel
theorem dX6_append_5 : decode cX6_append 5 = .ok (.aload_n 0, 1) := by decide +kernel
theorem dX6_append_6 : decode cX6_append 6 = .ok (.getfield 19, 3) := by decide +kernel
theorem dX6_append_9 : decode cX6_append 9 = .ok (.iload_n 2, 1) := by decide +kernel
theorem dX6_append_10 : decode cX6_append 10 = .ok (.iadd, 1) := by decide +kernel
theorem dX6_append_11 : decode cX6_append 11 = .ok (.sipush 200, 3) := by decide +kernel
theorem dX6_append_14 : decode cX6_append 14 = .ok (.if_icmp .le 5, 3) := by decide +kernel
theorem dX6_append_17 : decode cX6_append 17 = .ok (.iconst (-1), 1) := by decide +kernel
theorem dX6_append_18 : decode cX6_append 18 = .ok (.ireturn, 1) := by decide +kernel
theorem dX6_append_19 : decode cX6_append 19 = .ok (.iconst 0, 1) := by decide +kernel
theorem dX6_append_20 : decode cX6_append 20 = .ok (.istore_n 3, 1) := by decide +kernel
theorem dX6_append_21 : decode cX6_append 21 = .ok (.iload_n 3, 1) := by decide +kernel
theorem dX6_append_22 : decode cX6_append 22 = .ok (.iload_n 2, 1) := by decide +kernel
theorem dX6_append_23 : decode cX6_append 23 = .ok (.if_icmp .ge 31, 3) := by decide +kernel
theorem dX6_append_26 : decode cX6_append 26 = .ok (.aload_n 0, 1) := by decide +kernel
theorem dX6_append_27 : decode cX6_append 27 = .ok (.getfield 9, 3) := by decide +kernel
theorem dX6_append_30 : decode cX6_append 30 = .ok (.aload_n 0, 1) := by decide +kernel
theorem dX6_append_31 : decode cX6_append 31 = .ok (.getfield 19, 3) := by decide +kernel
theorem dX6_append_34 : decode cX6_append 34 = .ok (.iload_n 3, 1) := by decide +kernel
theorem dX6_append_35 : decode cX6_append 35 = .ok (.iadd, 1) := by decide +kernel
theorem dX6_append_36 : decode cX6_append 36 = .ok (.iload_n 1, 1) := by decide +kernel
theorem dX6_append_37 : decode cX6_append 37 = .ok (.bipush 8, 2) := by decide +kernel
theorem dX6_append_39 : decode cX6_append 39 = .ok (.iload_n 3, 1) := by decide +kernel
theorem dX6_append_40 : decode cX6_append 40 = .ok (.imul, 1) := by decide +kernel
theorem dX6_append_41 : decode cX6_append 41 = .ok (.ishr, 1) := by decide +kernel
theorem dX6_append_42 : decode cX6_append 42 = .ok (.sipush 255, 3) := by decide +kernel
theorem dX6_append_45 : decode cX6_append 45 = .ok (.iand, 1) := by decide +kernel
theorem dX6_append_46 : decode cX6_append 46 = .ok (.i2c, 1) := by decide +kernel
theorem dX6_append_47 : decode cX6_append 47 = .ok (.castore, 1) := by decide +kernel
theorem dX6_append_48 : decode cX6_append 48 = .ok (.iinc 3 1, 3) := by decide +kernel
theorem dX6_append_51 : decode cX6_append 51 = .ok (.goto (-30), 3) := by decide +kernel
theorem dX6_append_54 : decode cX6_append 54 = .ok (.aload_n 0, 1) := by decide +kernel
theorem dX6_append_55 : decode cX6_append 55 = .ok (.dup, 1) := by decide +kernel
theorem dX6_append_56 : decode cX6_append 56 = .ok (.getfield 19, 3) := by decide +kernel
theorem dX6_append_59 : decode cX6_append 59 = .ok (.iload_n 2, 1) := by decide +kernel
theorem dX6_append_60 : decode cX6_append 60 = .ok (.iadd, 1) := by decide +kernel
theorem dX6_append_61 : decode cX6_append 61 = .ok (.putfield 19, 3) := by decide +kernel
theorem dX6_append_64 : decode cX6_append 64 = .ok (.iload_n 2, 1) := by decide +kernel
theorem dX6_append_65 : decode cX6_append 65 = .ok (.ireturn, 1) := by decide +kernel
theorem dX6_leadingCodes_0 : decode cX6_leadingCodes 0 = .ok (.iconst 0, 1) := by decide +kernel
theorem dX6_leadingCodes_1 : decode cX6_leadingCodes 1 = .ok (.istore_n 1, 1) := by decide +kernel
theorem dX6_leadingCodes_2 : decode cX6_leadingCodes 2 = .ok (.iload_n 1, 1) := by decide +kernel
theorem dX6_leadingCodes_3 : decode cX6_leadingCodes 3 = .ok (.iconst 4, 1) := by decide +kernel
theorem dX6_leadingCodes_4 : decode cX6_leadingCodes 4 = .ok (.if_icmp .ge 24, 3) := by decide +kernel
theorem dX6_leadingCodes_7 : decode cX6_leadingCodes 7 = .ok (.iload_n 0, 1) := by decide +kernel
theorem dX6_leadingCodes_8 : decode cX6_leadingCodes 8 = .ok (.bipush 8, 2) := by decide +kernel
theorem dX6_leadingCodes_10 : decode cX6_leadingCodes 10 = .ok (.iload_n 1, 1) := by decide +kernel
theorem dX6_leadingCodes_11 : decode cX6_leadingCodes 11 = .ok (.imul, 1) := by decide +kernel
theorem dX6_leadingCodes_12 : decode cX6_leadingCodes 12 = .ok (.ishr, 1) := by decide +kernel
theorem dX6_leadingCodes_13 : decode cX6_leadingCodes 13 = .ok (.sipush 255, 3) := by decide +kernel
theorem dX6_leadingCodes_16 : decode cX6_leadingCodes 16 = .ok (.iand, 1) := by decide +kernel
theorem dX6_leadingCodes_17 : decode cX6_leadingCodes 17 = .ok (.ifCond .ne 5, 3) := by decide +kernel
theorem dX6_leadingCodes_20 : decode cX6_leadingCodes 20 = .ok (.iload_n 1, 1) := by decide +kernel
theorem dX6_leadingCodes_21 : decode cX6_leadingCodes 21 = .ok (.ireturn, 1) := by decide +kernel
theorem dX6_leadingCodes_22 : decode cX6_leadingCodes 22 = .ok (.iinc 1 1, 3) := by decide +kernel
theorem dX6_leadingCodes_25 : decode cX6_leadingCodes 25 = .ok (.goto (-23), 3) := by decide +kernel
theorem dX6_leadingCodes_28 : decode cX6_leadingCodes 28 = .ok (.iconst 4, 1) := by decide +kernel
theorem dX6_leadingCodes_29 : decode cX6_leadingCodes 29 = .ok (.ireturn, 1) := by decide +kernel
theorem dX6_codeAt_0 : decode cX6_codeAt 0 = .ok (.iload_n 1, 1) := by decide +kernel
theorem dX6_codeAt_1 : decode cX6_codeAt 1 = .ok (.ifCond .lt 20, 3) := by decide +kernel
theorem dX6_codeAt_4 : decode cX6_codeAt 4 = .ok (.iload_n 1, 1) := by decide +kernel
theorem dX6_codeAt_5 : decode cX6_codeAt 5 = .ok (.aload_n 0, 1) := by decide +kernel
theorem dX6_codeAt_6 : decode cX6_codeAt 6 = .ok (.getfield 19, 3) := by decide +kernel
theorem dX6_codeAt_9 : decode cX6_codeAt 9 = .ok (.if_icmp .ge 12, 3) := by decide +kernel
theorem dX6_codeAt_12 : decode cX6_codeAt 12 = .ok (.aload_n 0, 1) := by decide +kernel
theorem dX6_codeAt_13 : decode cX6_codeAt 13 = .ok (.getfield 9, 3) := by decide +kernel
theorem dX6_codeAt_16 : decode cX6_codeAt 16 = .ok (.iload_n 1, 1) := by decide +kernel
theorem dX6_codeAt_17 : decode cX6_codeAt 17 = .ok (.caload, 1) := by decide +kernel
theorem dX6_codeAt_18 : decode cX6_codeAt 18 = .ok (.goto 4, 3) := by decide +kernel
theorem dX6_codeAt_21 : decode cX6_codeAt 21 = .ok (.iconst 0, 1) := by decide +kernel
theorem dX6_codeAt_22 : decode cX6_codeAt 22 = .ok (.ireturn, 1) := by decide +kernel
theorem dX7_init_0 : decode cX7_init 0 = .ok (.aload_n 0, 1) := by decide +kernel
theorem dX7_init_1 : decode cX7_init 1 = .ok (.invokespecial 1, 3) := by decide +kernel
theorem dX7_init_4 : decode cX7_init 4 = .ok (.aload_n 0, 1) := by decide +kernel
theorem dX7_init_5 : decode cX7_init 5 = .ok (.new 7, 3) := by decide +kernel
theorem dX7_init_8 : decode cX7_init 8 = .ok (.dup, 1) := by decide +kernel
theorem dX7_init_9 : decode cX7_init 9 = .ok (.invokespecial 9, 3) := by decide +kernel
theorem dX7_init_12 : decode cX7_init 12 = .ok (.putfield 10, 3) := by decide +kernel
theorem dX7_init_15 : decode cX7_init 15 = .ok (.aload_n 0, 1) := by decide +kernel
theorem dX7_init_16 : decode cX7_init 16 = .ok (.new 16, 3) := by decide +kernel
theorem dX7_init_19 : decode cX7_init 19 = .ok (.dup, 1) := by decide +kernel
theorem dX7_init_20 : decode cX7_init 20 = .ok (.invokespecial 18, 3) := by decide +kernel
theorem dX7_init_23 : decode cX7_init 23 = .ok (.putfield 19, 3) := by decide +kernel
theorem dX7_init_26 : decode cX7_init 26 = .ok (.aload_n 0, 1) := by decide +kernel
theorem dX7_init_27 : decode cX7_init 27 = .ok (.new 23, 3) := by decide +kernel
theorem dX7_init_30 : decode cX7_init 30 = .ok (.dup, 1) := by decide +kernel
theorem dX7_init_31 : decode cX7_init 31 = .ok (.invokespecial 25, 3) := by decide +kernel
theorem dX7_init_34 : decode cX7_init 34 = .ok (.putfield 26, 3) := by decide +kernel
theorem dX7_init_37 : decode cX7_init 37 = .ok (.aload_n 0, 1) := by decide +kernel
theorem dX7_init_38 : decode cX7_init 38 = .ok (.new 30, 3) := by decide +kernel
theorem dX7_init_41 : decode cX7_init 41 = .ok (.dup, 1) := by decide +kernel
theorem dX7_init_42 : decode cX7_init 42 = .ok (.invokespecial 32, 3) := by decide +kernel
theorem dX7_init_45 : decode cX7_init 45 = .ok (.putfield 33, 3) := by decide +kernel
theorem dX7_init_48 : decode cX7_init 48 = .ok (.return_, 1) := by decide +kernel
theorem dX7_feed_0 : decode cX7_feed 0 = .ok (.aload_n 0, 1) := by decide +kernel
theorem dX7_feed_1 : decode cX7_feed 1 = .ok (.getfield 10, 3) := by decide +kernel
theorem dX7_feed_4 : decode cX7_feed 4 = .ok (.getfield 37, 3) := by decide +kernel
theorem dX7_feed_7 : decode cX7_feed 7 = .ok (.iload_n 1, 1) := by decide +kernel
theorem dX7_feed_8 : decode cX7_feed 8 = .ok (.invokevirtual 41, 3) := by decide +kernel
theorem dX7_feed_11 : decode cX7_feed 11 = .ok (.ireturn, 1) := by decide +kernel
theorem dX7_clear_0 : decode cX7_clear 0 = .ok (.aload_n 0, 1) := by decide +kernel
theorem dX7_clear_1 : decode cX7_clear 1 = .ok (.getfield 10, 3) := by decide +kernel
theorem dX7_clear_4 : decode cX7_clear 4 = .ok (.getfield 37, 3) := by decide +kernel
theorem dX7_clear_7 : decode cX7_clear 7 = .ok (.iconst 0, 1) := by decide +kernel
theorem dX7_clear_8 : decode cX7_clear 8 = .ok (.putfield 47, 3) := by decide +kernel
theorem dX7_clear_11 : decode cX7_clear 11 = .ok (.return_, 1) := by decide +kernel
theorem dX7_run_0 : decode cX7_run 0 = .ok (.aload_n 0, 1) := by decide +kernel
theorem dX7_run_1 : decode cX7_run 1 = .ok (.getfield 10, 3) := by decide +kernel
theorem dX7_run_4 : decode cX7_run 4 = .ok (.invokevirtual 51, 3) := by decide +kernel
theorem dX7_run_7 : decode cX7_run 7 = .ok (.ifCond .ne 5, 3) := by decide +kernel
theorem dX7_run_10 : decode cX7_run 10 = .ok (.iconst (-1), 1) := by decide +kernel
theorem dX7_run_11 : decode cX7_run 11 = .ok (.ireturn, 1) := by decide +kernel
theorem dX7_run_12 : decode cX7_run 12 = .ok (.aload_n 0, 1) := by decide +kernel
theorem dX7_run_13 : decode cX7_run 13 = .ok (.getfield 26, 3) := by decide +kernel
theorem dX7_run_16 : decode cX7_run 16 = .ok (.aload_n 0, 1) := by decide +kernel
theorem dX7_run_17 : decode cX7_run 17 = .ok (.getfield 10, 3) := by decide +kernel
theorem dX7_run_20 : decode cX7_run 20 = .ok (.aload_n 0, 1) := by decide +kernel
theorem dX7_run_21 : decode cX7_run 21 = .ok (.getfield 19, 3) := by decide +kernel
theorem dX7_run_24 : decode cX7_run 24 = .ok (.invokevirtual 55, 3) := by decide +kernel
theorem dX7_run_27 : decode cX7_run 27 = .ok (.astore_n 1, 1) := by decide +kernel
theorem dX7_run_28 : decode cX7_run 28 = .ok (.aload_n 0, 1) := by decide +kernel
theorem dX7_run_29 : decode cX7_run 29 = .ok (.getfield 33, 3) := by decide +kernel
theorem dX7_run_32 : decode cX7_run 32 = .ok (.aload_n 1, 1) := by decide +kernel
theorem dX7_run_33 : decode cX7_run 33 = .ok (.invokevirtual 59, 3) := by decide +kernel
theorem dX7_run_36 : decode cX7_run 36 = .ok (.aload_n 0, 1) := by decide +kernel
theorem dX7_run_37 : decode cX7_run 37 = .ok (.getfield 10, 3) := by decide +kernel
theorem dX7_run_40 : decode cX7_run 40 = .ok (.getfield 63, 3) := by decide +kernel
theorem dX7_run_43 : decode cX7_run 43 = .ok (.iconst (-1), 1) := by decide +kernel
theorem dX7_run_44 : decode cX7_run 44 = .ok (.if_icmp .eq 18, 3) := by decide +kernel
theorem dX7_run_47 : decode cX7_run 47 = .ok (.aload_n 0, 1) := by decide +kernel
theorem dX7_run_48 : decode cX7_run 48 = .ok (.getfield 19, 3) := by decide +kernel
theorem dX7_run_51 : decode cX7_run 51 = .ok (.aload_n 0, 1) := by decide +kernel
theorem dX7_run_52 : decode cX7_run 52 = .ok (.getfield 10, 3) := by decide +kernel
theorem dX7_run_55 : decode cX7_run 55 = .ok (.getfield 63, 3) := by decide +kernel
theorem dX7_run_58 : decode cX7_run 58 = .ok (.aload_n 1, 1) := by decide +kernel
theorem dX7_run_59 : decode cX7_run 59 = .ok (.invokevirtual 66, 3) := by decide +kernel
theorem dX7_run_62 : decode cX7_run 62 = .ok (.aload_n 0, 1) := by decide +kernel
theorem dX7_run_63 : decode cX7_run 63 = .ok (.getfield 33, 3) := by decide +kernel
theorem dX7_run_66 : decode cX7_run 66 = .ok (.getfield 70, 3) := by decide +kernel
theorem dX7_run_69 : decode cX7_run 69 = .ok (.ireturn, 1) := by decide +kernel
theorem dX7_rank_0 : decode cX7_rank 0 = .ok (.aload_n 0, 1) := by decide +kernel
theorem dX7_rank_1 : decode cX7_rank 1 = .ok (.getfield 33, 3) := by decide +kernel
theorem dX7_rank_4 : decode cX7_rank 4 = .ok (.getfield 73, 3) := by decide +kernel
theorem dX7_rank_7 : decode cX7_rank 7 = .ok (.ireturn, 1) := by decide +kernel
theorem dX7_axis_0 : decode cX7_axis 0 = .ok (.iload_n 1, 1) := by decide +kernel
theorem dX7_axis_1 : decode cX7_axis 1 = .ok (.ifCond .lt 26, 3) := by decide +kernel
theorem dX7_axis_4 : decode cX7_axis 4 = .ok (.iload_n 1, 1) := by decide +kernel
theorem dX7_axis_5 : decode cX7_axis 5 = .ok (.aload_n 0, 1) := by decide +kernel
theorem dX7_axis_6 : decode cX7_axis 6 = .ok (.getfield 33, 3) := by decide +kernel
theorem dX7_axis_9 : decode cX7_axis 9 = .ok (.getfield 73, 3) := by decide +kernel
theorem dX7_axis_12 : decode cX7_axis 12 = .ok (.if_icmp .ge 15, 3) := by decide +kernel
theorem dX7_axis_15 : decode cX7_axis 15 = .ok (.aload_n 0, 1) := by decide +kernel
theorem dX7_axis_16 : decode cX7_axis 16 = .ok (.getfield 33, 3) := by decide +kernel
theorem dX7_axis_19 : decode cX7_axis 19 = .ok (.getfield 76, 3) := by decide +kernel
theorem dX7_axis_22 : decode cX7_axis 22 = .ok (.iload_n 1, 1) := by decide +kernel
theorem dX7_axis_23 : decode cX7_axis 23 = .ok (.iaload, 1) := by decide +kernel
theorem dX7_axis_24 : decode cX7_axis 24 = .ok (.goto 4, 3) := by decide +kernel
theorem dX7_axis_27 : decode cX7_axis 27 = .ok (.iconst (-1), 1) := by decide +kernel
theorem dX7_axis_28 : decode cX7_axis 28 = .ok (.ireturn, 1) := by decide +kernel
theorem dX7_size_0 : decode cX7_size 0 = .ok (.aload_n 0, 1) := by decide +kernel
theorem dX7_size_1 : decode cX7_size 1 = .ok (.getfield 33, 3) := by decide +kernel
theorem dX7_size_4 : decode cX7_size 4 = .ok (.getfield 70, 3) := by decide +kernel
theorem dX7_size_7 : decode cX7_size 7 = .ok (.ireturn, 1) := by decide +kernel
theorem dX7_element_0 : decode cX7_element 0 = .ok (.iload_n 1, 1) := by decide +kernel
theorem dX7_element_1 : decode cX7_element 1 = .ok (.ifCond .lt 27, 3) := by decide +kernel
theorem dX7_element_4 : decode cX7_element 4 = .ok (.iload_n 1, 1) := by decide +kernel
theorem dX7_element_5 : decode cX7_element 5 = .ok (.aload_n 0, 1) := by decide +kernel
theorem dX7_element_6 : decode cX7_element 6 = .ok (.getfield 33, 3) := by decide +kernel
theorem dX7_element_9 : decode cX7_element 9 = .ok (.getfield 70, 3) := by decide +kernel
theorem dX7_element_12 : decode cX7_element 12 = .ok (.if_icmp .ge 16, 3) := by decide +kernel
theorem dX7_element_15 : decode cX7_element 15 = .ok (.aload_n 0, 1) := by decide +kernel
theorem dX7_element_16 : decode cX7_element 16 = .ok (.getfield 33, 3) := by decide +kernel
theorem dX7_element_19 : decode cX7_element 19 = .ok (.getfield 80, 3) := by decide +kernel
theorem dX7_element_22 : decode cX7_element 22 = .ok (.iload_n 1, 1) := by decide +kernel
theorem dX7_element_23 : decode cX7_element 23 = .ok (.iaload, 1) := by decide +kernel
theorem dX7_element_24 : decode cX7_element 24 = .ok (.i2l, 1) := by decide +kernel
theorem dX7_element_25 : decode cX7_element 25 = .ok (.goto 6, 3) := by decide +kernel
theorem dX7_element_28 : decode cX7_element 28 = .ok (.ldc2_w 83, 3) := by decide +kernel
theorem dX7_element_31 : decode cX7_element 31 = .ok (.lreturn, 1) := by decide +kernel
theorem dX7_sum_0 : decode cX7_sum 0 = .ok (.lconst 0, 1) := by decide +kernel
theorem dX7_sum_1 : decode cX7_sum 1 = .ok (.lstore_n 1, 1) := by decide +kernel
theorem dX7_sum_2 : decode cX7_sum 2 = .ok (.iconst 0, 1) := by decide +kernel
theorem dX7_sum_3 : decode cX7_sum 3 = .ok (.istore_n 3, 1) := by decide +kernel
theorem dX7_sum_4 : decode cX7_sum 4 = .ok (.iload_n 3, 1) := by decide +kernel
theorem dX7_sum_5 : decode cX7_sum 5 = .ok (.aload_n 0, 1) := by decide +kernel
theorem dX7_sum_6 : decode cX7_sum 6 = .ok (.getfield 33, 3) := by decide +kernel
theorem dX7_sum_9 : decode cX7_sum 9 = .ok (.getfield 70, 3) := by decide +kernel
theorem dX7_sum_12 : decode cX7_sum 12 = .ok (.if_icmp .ge 22, 3) := by decide +kernel
theorem dX7_sum_15 : decode cX7_sum 15 = .ok (.lload_n 1, 1) := by decide +kernel
theorem dX7_sum_16 : decode cX7_sum 16 = .ok (.aload_n 0, 1) := by decide +kernel
theorem dX7_sum_17 : decode cX7_sum 17 = .ok (.getfield 33, 3) := by decide +kernel
theorem dX7_sum_20 : decode cX7_sum 20 = .ok (.getfield 80, 3) := by decide +kernel
theorem dX7_sum_23 : decode cX7_sum 23 = .ok (.iload_n 3, 1) := by decide +kernel
theorem dX7_sum_24 : decode cX7_sum 24 = .ok (.iaload, 1) := by decide +kernel
theorem dX7_sum_25 : decode cX7_sum 25 = .ok (.i2l, 1) := by decide +kernel
theorem dX7_sum_26 : decode cX7_sum 26 = .ok (.ladd, 1) := by decide +kernel
theorem dX7_sum_27 : decode cX7_sum 27 = .ok (.lstore_n 1, 1) := by decide +kernel
theorem dX7_sum_28 : decode cX7_sum 28 = .ok (.iinc 3 1, 3) := by decide +kernel
theorem dX7_sum_31 : decode cX7_sum 31 = .ok (.goto (-27), 3) := by decide +kernel
theorem dX7_sum_34 : decode cX7_sum 34 = .ok (.lload_n 1, 1) := by decide +kernel
theorem dX7_sum_35 : decode cX7_sum 35 = .ok (.lreturn, 1) := by decide +kernel
theorem dX7_held_0 : decode cX7_held 0 = .ok (.aload_n 0, 1) := by decide +kernel
theorem dX7_held_1 : decode cX7_held 1 = .ok (.getfield 19, 3) := by decide +kernel
theorem dX7_held_4 : decode cX7_held 4 = .ok (.iload_n 1, 1) := by decide +kernel
theorem dX7_held_5 : decode cX7_held 5 = .ok (.invokevirtual 85, 3) := by decide +kernel
theorem dX7_held_8 : decode cX7_held 8 = .ok (.ifCond .eq 18, 3) := by decide +kernel
theorem dX7_held_11 : decode cX7_held 11 = .ok (.aload_n 0, 1) := by decide +kernel
theorem dX7_held_12 : decode cX7_held 12 = .ok (.getfield 19, 3) := by decide +kernel
theorem dX7_held_15 : decode cX7_held 15 = .ok (.getfield 89, 3) := by decide +kernel
theorem dX7_held_18 : decode cX7_held 18 = .ok (.iload_n 1, 1) := by decide +kernel
theorem dX7_held_19 : decode cX7_held 19 = .ok (.aaload, 1) := by decide +kernel
theorem dX7_held_20 : decode cX7_held 20 = .ok (.getfield 70, 3) := by decide +kernel
theorem dX7_held_23 : decode cX7_held 23 = .ok (.goto 4, 3) := by decide +kernel
theorem dX7_held_26 : decode cX7_held 26 = .ok (.iconst (-1), 1) := by decide +kernel
theorem dX7_held_27 : decode cX7_held 27 = .ok (.ireturn, 1) := by decide +kernel
theorem dX7_forget_0 : decode cX7_forget 0 = .ok (.aload_n 0, 1) := by decide +kernel
theorem dX7_forget_1 : decode cX7_forget 1 = .ok (.getfield 19, 3) := by decide +kernel
theorem dX7_forget_4 : decode cX7_forget 4 = .ok (.iload_n 1, 1) := by decide +kernel
theorem dX7_forget_5 : decode cX7_forget 5 = .ok (.invokevirtual 85, 3) := by decide +kernel
theorem dX7_forget_8 : decode cX7_forget 8 = .ok (.ifCond .ne 5, 3) := by decide +kernel
theorem dX7_forget_11 : decode cX7_forget 11 = .ok (.iconst 0, 1) := by decide +kernel
theorem dX7_forget_12 : decode cX7_forget 12 = .ok (.ireturn, 1) := by decide +kernel
theorem dX7_forget_13 : decode cX7_forget 13 = .ok (.aload_n 0, 1) := by decide +kernel
theorem dX7_forget_14 : decode cX7_forget 14 = .ok (.getfield 19, 3) := by decide +kernel
theorem dX7_forget_17 : decode cX7_forget 17 = .ok (.getfield 93, 3) := by decide +kernel
theorem dX7_forget_20 : decode cX7_forget 20 = .ok (.iload_n 1, 1) := by decide +kernel
theorem dX7_forget_21 : decode cX7_forget 21 = .ok (.iconst 0, 1) := by decide +kernel
theorem dX7_forget_22 : decode cX7_forget 22 = .ok (.bastore, 1) := by decide +kernel
theorem dX7_forget_23 : decode cX7_forget 23 = .ok (.iconst 1, 1) := by decide +kernel
theorem dX7_forget_24 : decode cX7_forget 24 = .ok (.ireturn, 1) := by decide +kernel
theorem dX7_done_0 : decode cX7_done 0 = .ok (.aload_n 0, 1) := by decide +kernel
theorem dX7_done_1 : decode cX7_done 1 = .ok (.getfield 26, 3) := by decide +kernel
theorem dX7_done_4 : decode cX7_done 4 = .ok (.getfield 97, 3) := by decide +kernel
theorem dX7_done_7 : decode cX7_done 7 = .ok (.ireturn, 1) := by decide +kernel
theorem dL_run_0 : decode cL_run 0 = .ok (.aload_n 1, 1) := by decide +kernel
theorem dL_run_1 : decode cL_run 1 = .ok (.iconst 0, 1) := by decide +kernel
theorem dL_run_2 : decode cL_run 2 = .ok (.aload_n 0, 1) := by decide +kernel
theorem dL_run_3 : decode cL_run 3 = .ok (.invokevirtual 7, 3) := by decide +kernel
theorem dL_run_6 : decode cL_run 6 = .ok (.i2l, 1) := by decide +kernel
theorem dL_run_7 : decode cL_run 7 = .ok (.lastore, 1) := by decide +kernel
theorem dL_run_8 : decode cL_run 8 = .ok (.goto 22, 3) := by decide +kernel
theorem dL_run_11 : decode cL_run 11 = .ok (.astore_n 2, 1) := by decide +kernel
theorem dL_run_12 : decode cL_run 12 = .ok (.iconst 1, 1) := by decide +kernel
theorem dL_run_13 : decode cL_run 13 = .ok (.ireturn, 1) := by decide +kernel
theorem dL_run_14 : decode cL_run 14 = .ok (.astore_n 2, 1) := by decide +kernel
theorem dL_run_15 : decode cL_run 15 = .ok (.iconst 2, 1) := by decide +kernel
theorem dL_run_16 : decode cL_run 16 = .ok (.ireturn, 1) := by decide +kernel
theorem dL_run_17 : decode cL_run 17 = .ok (.astore_n 2, 1) := by decide +kernel
theorem dL_run_18 : decode cL_run 18 = .ok (.iconst 3, 1) := by decide +kernel
theorem dL_run_19 : decode cL_run 19 = .ok (.ireturn, 1) := by decide +kernel
theorem dL_run_20 : decode cL_run 20 = .ok (.astore_n 2, 1) := by decide +kernel
theorem dL_run_21 : decode cL_run 21 = .ok (.iconst 4, 1) := by decide +kernel
theorem dL_run_22 : decode cL_run 22 = .ok (.ireturn, 1) := by decide +kernel
theorem dL_run_23 : decode cL_run 23 = .ok (.astore_n 2, 1) := by decide +kernel
theorem dL_run_24 : decode cL_run 24 = .ok (.iconst 5, 1) := by decide +kernel
theorem dL_run_25 : decode cL_run 25 = .ok (.ireturn, 1) := by decide +kernel
theorem dL_run_26 : decode cL_run 26 = .ok (.astore_n 2, 1) := by decide +kernel
theorem dL_run_27 : decode cL_run 27 = .ok (.bipush 6, 2) := by decide +kernel
theorem dL_run_29 : decode cL_run 29 = .ok (.ireturn, 1) := by decide +kernel
theorem dL_run_30 : decode cL_run 30 = .ok (.iconst 0, 1) := by decide +kernel
theorem dL_run_31 : decode cL_run 31 = .ok (.ireturn, 1) := by decide +kernel
theorem dL_law_0 : decode cL_law 0 = .ok (.new 8, 3) := by decide +kernel
theorem dL_law_3 : decode cL_law 3 = .ok (.dup, 1) := by decide +kernel
theorem dL_law_4 : decode cL_law 4 = .ok (.invokespecial 25, 3) := by decide +kernel
theorem dL_law_7 : decode cL_law 7 = .ok (.astore_n 1, 1) := by decide +kernel
theorem dL_law_8 : decode cL_law 8 = .ok (.new 26, 3) := by decide +kernel
theorem dL_law_11 : decode cL_law 11 = .ok (.dup, 1) := by decide +kernel
theorem dL_law_12 : decode cL_law 12 = .ok (.invokespecial 28, 3) := by decide +kernel
theorem dL_law_15 : decode cL_law 15 = .ok (.astore_n 2, 1) := by decide +kernel
theorem dL_law_16 : decode cL_law 16 = .ok (.iconst 1, 1) := by decide +kernel
theorem dL_law_17 : decode cL_law 17 = .ok (.newarray .long, 2) := by decide +kernel
theorem dL_law_19 : decode cL_law 19 = .ok (.astore_n 3, 1) := by decide +kernel
theorem dL_law_20 : decode cL_law 20 = .ok (.iconst 0, 1) := by decide +kernel
theorem dL_law_21 : decode cL_law 21 = .ok (.istore 4, 2) := by decide +kernel
theorem dL_law_23 : decode cL_law 23 = .ok (.iload 4, 2) := by decide +kernel
theorem dL_law_25 : decode cL_law 25 = .ok (.aload_n 0, 1) := by decide +kernel
theorem dL_law_26 : decode cL_law 26 = .ok (.arraylength, 1) := by decide +kernel
theorem dL_law_27 : decode cL_law 27 = .ok (.iconst 2, 1) := by decide +kernel
theorem dL_law_28 : decode cL_law 28 = .ok (.isub, 1) := by decide +kernel
theorem dL_law_29 : decode cL_law 29 = .ok (.if_icmp .gt 307, 3) := by decide +kernel
theorem dL_law_32 : decode cL_law 32 = .ok (.aload_n 0, 1) := by decide +kernel
theorem dL_law_33 : decode cL_law 33 = .ok (.iload 4, 2) := by decide +kernel
theorem dL_law_35 : decode cL_law 35 = .ok (.iaload, 1) := by decide +kernel
theorem dL_law_36 : decode cL_law 36 = .ok (.bipush 15, 2) := by decide +kernel
theorem dL_law_38 : decode cL_law 38 = .ok (.iand, 1) := by decide +kernel
theorem dL_law_39 : decode cL_law 39 = .ok (.tableswitch 291 0 10 #[57, 82, 93, 137, 150, 175, 188, 214, 228, 253, 278], 57) := by decide +kernel
theorem dL_law_96 : decode cL_law 96 = .ok (.aload_n 1, 1) := by decide +kernel
theorem dL_law_97 : decode cL_law 97 = .ok (.aload_n 0, 1) := by decide +kernel
theorem dL_law_98 : decode cL_law 98 = .ok (.iload 4, 2) := by decide +kernel
theorem dL_law_100 : decode cL_law 100 = .ok (.iconst 1, 1) := by decide +kernel
theorem dL_law_101 : decode cL_law 101 = .ok (.iadd, 1) := by decide +kernel
theorem dL_law_102 : decode cL_law 102 = .ok (.iaload, 1) := by decide +kernel
theorem dL_law_103 : decode cL_law 103 = .ok (.invokevirtual 29, 3) := by decide +kernel
theorem dL_law_106 : decode cL_law 106 = .ok (.aload_n 2, 1) := by decide +kernel
theorem dL_law_107 : decode cL_law 107 = .ok (.aload_n 0, 1) := by decide +kernel
theorem dL_law_108 : decode cL_law 108 = .ok (.iload 4, 2) := by decide +kernel
theorem dL_law_110 : decode cL_law 110 = .ok (.iconst 1, 1) := by decide +kernel
theorem dL_law_111 : decode cL_law 111 = .ok (.iadd, 1) := by decide +kernel
theorem dL_law_112 : decode cL_law 112 = .ok (.iaload, 1) := by decide +kernel
theorem dL_law_113 : decode cL_law 113 = .ok (.invokevirtual 33, 3) := by decide +kernel
theorem dL_law_116 : decode cL_law 116 = .ok (.if_icmp .eq 214, 3) := by decide +kernel
theorem dL_law_119 : decode cL_law 119 = .ok (.iconst 0, 1) := by decide +kernel
theorem dL_law_120 : decode cL_law 120 = .ok (.ireturn, 1) := by decide +kernel
theorem dL_law_121 : decode cL_law 121 = .ok (.aload_n 1, 1) := by decide +kernel
theorem dL_law_122 : decode cL_law 122 = .ok (.invokevirtual 34, 3) := by decide +kernel
theorem dL_law_125 : decode cL_law 125 = .ok (.aload_n 2, 1) := by decide +kernel
theorem dL_law_126 : decode cL_law 126 = .ok (.invokevirtual 37, 3) := by decide +kernel
theorem dL_law_129 : decode cL_law 129 = .ok (.goto 201, 3) := by decide +kernel
theorem dL_law_132 : decode cL_law 132 = .ok (.aload_n 1, 1) := by decide +kernel
theorem dL_law_133 : decode cL_law 133 = .ok (.aload_n 3, 1) := by decide +kernel
theorem dL_law_134 : decode cL_law 134 = .ok (.invokestatic 38, 3) := by decide +kernel
theorem dL_law_137 : decode cL_law 137 = .ok (.istore 5, 2) := by decide +kernel
theorem dL_law_139 : decode cL_law 139 = .ok (.aload_n 2, 1) := by decide +kernel
theorem dL_law_140 : decode cL_law 140 = .ok (.invokevirtual 43, 3) := by decide +kernel
theorem dL_law_143 : decode cL_law 143 = .ok (.istore 6, 2) := by decide +kernel
theorem dL_law_145 : decode cL_law 145 = .ok (.aload_n 2, 1) := by decide +kernel
theorem dL_law_146 : decode cL_law 146 = .ok (.invokevirtual 44, 3) := by decide +kernel
theorem dL_law_149 : decode cL_law 149 = .ok (.iload 5, 2) := by decide +kernel
theorem dL_law_151 : decode cL_law 151 = .ok (.if_icmp .eq 5, 3) := by decide +kernel
theorem dL_law_154 : decode cL_law 154 = .ok (.iconst 0, 1) := by decide +kernel
theorem dL_law_155 : decode cL_law 155 = .ok (.ireturn, 1) := by decide +kernel
theorem dL_law_156 : decode cL_law 156 = .ok (.iload 5, 2) := by decide +kernel
theorem dL_law_158 : decode cL_law 158 = .ok (.ifCond .ne 15, 3) := by decide +kernel
theorem dL_law_161 : decode cL_law 161 = .ok (.aload_n 3, 1) := by decide +kernel
theorem dL_law_162 : decode cL_law 162 = .ok (.iconst 0, 1) := by decide +kernel
theorem dL_law_163 : decode cL_law 163 = .ok (.laload, 1) := by decide +kernel
theorem dL_law_164 : decode cL_law 164 = .ok (.iload 6, 2) := by decide +kernel
theorem dL_law_166 : decode cL_law 166 = .ok (.i2l, 1) := by decide +kernel
theorem dL_law_167 : decode cL_law 167 = .ok (.lcmp, 1) := by decide +kernel
theorem dL_law_168 : decode cL_law 168 = .ok (.ifCond .eq 5, 3) := by decide +kernel
theorem dL_law_171 : decode cL_law 171 = .ok (.iconst 0, 1) := by decide +kernel
theorem dL_law_172 : decode cL_law 172 = .ok (.ireturn, 1) := by decide +kernel
theorem dL_law_173 : decode cL_law 173 = .ok (.goto 157, 3) := by decide +kernel
theorem dL_law_176 : decode cL_law 176 = .ok (.aload_n 1, 1) := by decide +kernel
theorem dL_law_177 : decode cL_law 177 = .ok (.invokevirtual 47, 3) := by decide +kernel
theorem dL_law_180 : decode cL_law 180 = .ok (.aload_n 2, 1) := by decide +kernel
theorem dL_law_181 : decode cL_law 181 = .ok (.invokevirtual 50, 3) := by decide +kernel
theorem dL_law_184 : decode cL_law 184 = .ok (.if_icmp .eq 146, 3) := by decide +kernel
theorem dL_law_187 : decode cL_law 187 = .ok (.iconst 0, 1) := by decide +kernel
theorem dL_law_188 : decode cL_law 188 = .ok (.ireturn, 1) := by decide +kernel
theorem dL_law_189 : decode cL_law 189 = .ok (.aload_n 1, 1) := by decide +kernel
theorem dL_law_190 : decode cL_law 190 = .ok (.aload_n 0, 1) := by decide +kernel
theorem dL_law_191 : decode cL_law 191 = .ok (.iload 4, 2) := by decide +kernel
theorem dL_law_193 : decode cL_law 193 = .ok (.iconst 1, 1) := by decide +kernel
theorem dL_law_194 : decode cL_law 194 = .ok (.iadd, 1) := by decide +kernel
theorem dL_law_195 : decode cL_law 195 = .ok (.iaload, 1) := by decide +kernel
theorem dL_law_196 : decode cL_law 196 = .ok (.invokevirtual 51, 3) := by decide +kernel
theorem dL_law_199 : decode cL_law 199 = .ok (.aload_n 2, 1) := by decide +kernel
theorem dL_law_200 : decode cL_law 200 = .ok (.aload_n 0, 1) := by decide +kernel
theorem dL_law_201 : decode cL_law 201 = .ok (.iload 4, 2) := by decide +kernel
theorem dL_law_203 : decode cL_law 203 = .ok (.iconst 1, 1) := by decide +kernel
theorem dL_law_204 : decode cL_law 204 = .ok (.iadd, 1) := by decide +kernel
theorem dL_law_205 : decode cL_law 205 = .ok (.iaload, 1) := by decide +kernel
theorem dL_law_206 : decode cL_law 206 = .ok (.invokevirtual 54, 3) := by decide +kernel
theorem dL_law_209 : decode cL_law 209 = .ok (.if_icmp .eq 121, 3) := by decide +kernel
theorem dL_law_212 : decode cL_law 212 = .ok (.iconst 0, 1) := by decide +kernel
theorem dL_law_213 : decode cL_law 213 = .ok (.ireturn, 1) := by decide +kernel
theorem dL_law_214 : decode cL_law 214 = .ok (.aload_n 1, 1) := by decide +kernel
theorem dL_law_215 : decode cL_law 215 = .ok (.invokevirtual 55, 3) := by decide +kernel
theorem dL_law_218 : decode cL_law 218 = .ok (.aload_n 2, 1) := by decide +kernel
theorem dL_law_219 : decode cL_law 219 = .ok (.invokevirtual 58, 3) := by decide +kernel
theorem dL_law_222 : decode cL_law 222 = .ok (.if_icmp .eq 108, 3) := by decide +kernel
theorem dL_law_225 : decode cL_law 225 = .ok (.iconst 0, 1) := by decide +kernel
theorem dL_law_226 : decode cL_law 226 = .ok (.ireturn, 1) := by decide +kernel
theorem dL_law_227 : decode cL_law 227 = .ok (.aload_n 1, 1) := by decide +kernel
theorem dL_law_228 : decode cL_law 228 = .ok (.aload_n 0, 1) := by decide +kernel
theorem dL_law_229 : decode cL_law 229 = .ok (.iload 4, 2) := by decide +kernel
theorem dL_law_231 : decode cL_law 231 = .ok (.iconst 1, 1) := by decide +kernel
theorem dL_law_232 : decode cL_law 232 = .ok (.iadd, 1) := by decide +kernel
theorem dL_law_233 : decode cL_law 233 = .ok (.iaload, 1) := by decide +kernel
theorem dL_law_234 : decode cL_law 234 = .ok (.invokevirtual 59, 3) := by decide +kernel
theorem dL_law_237 : decode cL_law 237 = .ok (.aload_n 2, 1) := by decide +kernel
theorem dL_law_238 : decode cL_law 238 = .ok (.aload_n 0, 1) := by decide +kernel
theorem dL_law_239 : decode cL_law 239 = .ok (.iload 4, 2) := by decide +kernel
theorem dL_law_241 : decode cL_law 241 = .ok (.iconst 1, 1) := by decide +kernel
theorem dL_law_242 : decode cL_law 242 = .ok (.iadd, 1) := by decide +kernel
theorem dL_law_243 : decode cL_law 243 = .ok (.iaload, 1) := by decide +kernel
theorem dL_law_244 : decode cL_law 244 = .ok (.invokevirtual 63, 3) := by decide +kernel
theorem dL_law_247 : decode cL_law 247 = .ok (.lcmp, 1) := by decide +kernel
theorem dL_law_248 : decode cL_law 248 = .ok (.ifCond .eq 82, 3) := by decide +kernel
theorem dL_law_251 : decode cL_law 251 = .ok (.iconst 0, 1) := by decide +kernel
theorem dL_law_252 : decode cL_law 252 = .ok (.ireturn, 1) := by decide +kernel
theorem dL_law_253 : decode cL_law 253 = .ok (.aload_n 1, 1) := by decide +kernel
theorem dL_law_254 : decode cL_law 254 = .ok (.invokevirtual 64, 3) := by decide +kernel
theorem dL_law_257 : decode cL_law 257 = .ok (.aload_n 2, 1) := by decide +kernel
theorem dL_law_258 : decode cL_law 258 = .ok (.invokevirtual 68, 3) := by decide +kernel
theorem dL_law_261 : decode cL_law 261 = .ok (.lcmp, 1) := by decide +kernel
theorem dL_law_262 : decode cL_law 262 = .ok (.ifCond .eq 68, 3) := by decide +kernel
theorem dL_law_265 : decode cL_law 265 = .ok (.iconst 0, 1) := by decide +kernel
theorem dL_law_266 : decode cL_law 266 = .ok (.ireturn, 1) := by decide +kernel
theorem dL_law_267 : decode cL_law 267 = .ok (.aload_n 1, 1) := by decide +kernel
theorem dL_law_268 : decode cL_law 268 = .ok (.aload_n 0, 1) := by decide +kernel
theorem dL_law_269 : decode cL_law 269 = .ok (.iload 4, 2) := by decide +kernel
theorem dL_law_271 : decode cL_law 271 = .ok (.iconst 1, 1) := by decide +kernel
theorem dL_law_272 : decode cL_law 272 = .ok (.iadd, 1) := by decide +kernel
theorem dL_law_273 : decode cL_law 273 = .ok (.iaload, 1) := by decide +kernel
theorem dL_law_274 : decode cL_law 274 = .ok (.invokevirtual 69, 3) := by decide +kernel
theorem dL_law_277 : decode cL_law 277 = .ok (.aload_n 2, 1) := by decide +kernel
theorem dL_law_278 : decode cL_law 278 = .ok (.aload_n 0, 1) := by decide +kernel
theorem dL_law_279 : decode cL_law 279 = .ok (.iload 4, 2) := by decide +kernel
theorem dL_law_281 : decode cL_law 281 = .ok (.iconst 1, 1) := by decide +kernel
theorem dL_law_282 : decode cL_law 282 = .ok (.iadd, 1) := by decide +kernel
theorem dL_law_283 : decode cL_law 283 = .ok (.iaload, 1) := by decide +kernel
theorem dL_law_284 : decode cL_law 284 = .ok (.invokevirtual 72, 3) := by decide +kernel
theorem dL_law_287 : decode cL_law 287 = .ok (.if_icmp .eq 43, 3) := by decide +kernel
theorem dL_law_290 : decode cL_law 290 = .ok (.iconst 0, 1) := by decide +kernel
theorem dL_law_291 : decode cL_law 291 = .ok (.ireturn, 1) := by decide +kernel
theorem dL_law_292 : decode cL_law 292 = .ok (.aload_n 1, 1) := by decide +kernel
theorem dL_law_293 : decode cL_law 293 = .ok (.aload_n 0, 1) := by decide +kernel
theorem dL_law_294 : decode cL_law 294 = .ok (.iload 4, 2) := by decide +kernel
theorem dL_law_296 : decode cL_law 296 = .ok (.iconst 1, 1) := by decide +kernel
theorem dL_law_297 : decode cL_law 297 = .ok (.iadd, 1) := by decide +kernel
theorem dL_law_298 : decode cL_law 298 = .ok (.iaload, 1) := by decide +kernel
theorem dL_law_299 : decode cL_law 299 = .ok (.invokevirtual 73, 3) := by decide +kernel
theorem dL_law_302 : decode cL_law 302 = .ok (.aload_n 2, 1) := by decide +kernel
theorem dL_law_303 : decode cL_law 303 = .ok (.aload_n 0, 1) := by decide +kernel
theorem dL_law_304 : decode cL_law 304 = .ok (.iload 4, 2) := by decide +kernel
theorem dL_law_306 : decode cL_law 306 = .ok (.iconst 1, 1) := by decide +kernel
theorem dL_law_307 : decode cL_law 307 = .ok (.iadd, 1) := by decide +kernel
theorem dL_law_308 : decode cL_law 308 = .ok (.iaload, 1) := by decide +kernel
theorem dL_law_309 : decode cL_law 309 = .ok (.invokevirtual 77, 3) := by decide +kernel
theorem dL_law_312 : decode cL_law 312 = .ok (.if_icmp .eq 18, 3) := by decide +kernel
theorem dL_law_315 : decode cL_law 315 = .ok (.iconst 0, 1) := by decide +kernel
theorem dL_law_316 : decode cL_law 316 = .ok (.ireturn, 1) := by decide +kernel
theorem dL_law_317 : decode cL_law 317 = .ok (.aload_n 1, 1) := by decide +kernel
theorem dL_law_318 : decode cL_law 318 = .ok (.invokevirtual 78, 3) := by decide +kernel
theorem dL_law_321 : decode cL_law 321 = .ok (.aload_n 2, 1) := by decide +kernel
theorem dL_law_322 : decode cL_law 322 = .ok (.invokevirtual 81, 3) := by decide +kernel
theorem dL_law_325 : decode cL_law 325 = .ok (.if_icmp .eq 5, 3) := by decide +kernel
theorem dL_law_328 : decode cL_law 328 = .ok (.iconst 0, 1) := by decide +kernel
theorem dL_law_329 : decode cL_law 329 = .ok (.ireturn, 1) := by decide +kernel
theorem dL_law_330 : decode cL_law 330 = .ok (.iinc 4 2, 3) := by decide +kernel
theorem dL_law_333 : decode cL_law 333 = .ok (.goto (-310), 3) := by decide +kernel
theorem dL_law_336 : decode cL_law 336 = .ok (.iconst 1, 1) := by decide +kernel
theorem dL_law_337 : decode cL_law 337 = .ok (.ireturn, 1) := by decide +kernel
