theorem dX8_init_0 : decode cX8_init 0 = .ok (.aload_n 0, 1) := by decide +kernel
theorem dX8_init_1 : decode cX8_init 1 = .ok (.invokespecial 1, 3) := by decide +kernel
theorem dX8_init_4 : decode cX8_init 4 = .ok (.aload_n 0, 1) := by decide +kernel
theorem dX8_init_5 : decode cX8_init 5 = .ok (.sipush 200, 3) := by decide +kernel
theorem dX8_init_8 : decode cX8_init 8 = .ok (.newarray .int, 2) := by decide +kernel
theorem dX8_init_10 : decode cX8_init 10 = .ok (.putfield 7, 3) := by decide +kernel
theorem dX8_init_13 : decode cX8_init 13 = .ok (.aload_n 0, 1) := by decide +kernel
theorem dX8_init_14 : decode cX8_init 14 = .ok (.bipush 20, 2) := by decide +kernel
theorem dX8_init_16 : decode cX8_init 16 = .ok (.newarray .int, 2) := by decide +kernel
theorem dX8_init_18 : decode cX8_init 18 = .ok (.putfield 13, 3) := by decide +kernel
theorem dX8_init_21 : decode cX8_init 21 = .ok (.aload_n 0, 1) := by decide +kernel
theorem dX8_init_22 : decode cX8_init 22 = .ok (.bipush 60, 2) := by decide +kernel
theorem dX8_init_24 : decode cX8_init 24 = .ok (.newarray .int, 2) := by decide +kernel
theorem dX8_init_26 : decode cX8_init 26 = .ok (.putfield 16, 3) := by decide +kernel
theorem dX8_init_29 : decode cX8_init 29 = .ok (.aload_n 0, 1) := by decide +kernel
theorem dX8_init_30 : decode cX8_init 30 = .ok (.sipush 960, 3) := by decide +kernel
theorem dX8_init_33 : decode cX8_init 33 = .ok (.newarray .int, 2) := by decide +kernel
theorem dX8_init_35 : decode cX8_init 35 = .ok (.putfield 19, 3) := by decide +kernel
theorem dX8_init_38 : decode cX8_init 38 = .ok (.aload_n 0, 1) := by decide +kernel
theorem dX8_init_39 : decode cX8_init 39 = .ok (.sipush 201, 3) := by decide +kernel
theorem dX8_init_42 : decode cX8_init 42 = .ok (.newarray .int, 2) := by decide +kernel
theorem dX8_init_44 : decode cX8_init 44 = .ok (.putfield 22, 3) := by decide +kernel
theorem dX8_init_47 : decode cX8_init 47 = .ok (.aload_n 0, 1) := by decide +kernel
theorem dX8_init_48 : decode cX8_init 48 = .ok (.sipush 201, 3) := by decide +kernel
theorem dX8_init_51 : decode cX8_init 51 = .ok (.newarray .int, 2) := by decide +kernel
theorem dX8_init_53 : decode cX8_init 53 = .ok (.putfield 25, 3) := by decide +kernel
theorem dX8_init_56 : decode cX8_init 56 = .ok (.aload_n 0, 1) := by decide +kernel
theorem dX8_init_57 : decode cX8_init 57 = .ok (.sipush 201, 3) := by decide +kernel
theorem dX8_init_60 : decode cX8_init 60 = .ok (.newarray .int, 2) := by decide +kernel
theorem dX8_init_62 : decode cX8_init 62 = .ok (.putfield 28, 3) := by decide +kernel
theorem dX8_init_65 : decode cX8_init 65 = .ok (.aload_n 0, 1) := by decide +kernel
theorem dX8_init_66 : decode cX8_init 66 = .ok (.bipush 101, 2) := by decide +kernel
theorem dX8_init_68 : decode cX8_init 68 = .ok (.newarray .int, 2) := by decide +kernel
theorem dX8_init_70 : decode cX8_init 70 = .ok (.putfield 31, 3) := by decide +kernel
theorem dX8_init_73 : decode cX8_init 73 = .ok (.aload_n 0, 1) := by decide +kernel
theorem dX8_init_74 : decode cX8_init 74 = .ok (.bipush 8, 2) := by decide +kernel
theorem dX8_init_76 : decode cX8_init 76 = .ok (.newarray .boolean, 2) := by decide +kernel
theorem dX8_init_78 : decode cX8_init 78 = .ok (.putfield 34, 3) := by decide +kernel
theorem dX8_init_81 : decode cX8_init 81 = .ok (.aload_n 0, 1) := by decide +kernel
theorem dX8_init_82 : decode cX8_init 82 = .ok (.bipush 8, 2) := by decide +kernel
theorem dX8_init_84 : decode cX8_init 84 = .ok (.newarray .boolean, 2) := by decide +kernel
theorem dX8_init_86 : decode cX8_init 86 = .ok (.putfield 38, 3) := by decide +kernel
theorem dX8_init_89 : decode cX8_init 89 = .ok (.aload_n 0, 1) := by decide +kernel
theorem dX8_init_90 : decode cX8_init 90 = .ok (.bipush 8, 2) := by decide +kernel
theorem dX8_init_92 : decode cX8_init 92 = .ok (.newarray .int, 2) := by decide +kernel
theorem dX8_init_94 : decode cX8_init 94 = .ok (.putfield 41, 3) := by decide +kernel
theorem dX8_init_97 : decode cX8_init 97 = .ok (.aload_n 0, 1) := by decide +kernel
theorem dX8_init_98 : decode cX8_init 98 = .ok (.bipush 49, 2) := by decide +kernel
theorem dX8_init_100 : decode cX8_init 100 = .ok (.newarray .int, 2) := by decide +kernel
theorem dX8_init_102 : decode cX8_init 102 = .ok (.putfield 44, 3) := by decide +kernel
theorem dX8_init_105 : decode cX8_init 105 = .ok (.iconst 0, 1) := by decide +kernel
theorem dX8_init_106 : decode cX8_init 106 = .ok (.istore_n 1, 1) := by decide +kernel
theorem dX8_init_107 : decode cX8_init 107 = .ok (.iload_n 1, 1) := by decide +kernel
theorem dX8_init_108 : decode cX8_init 108 = .ok (.bipush 8, 2) := by decide +kernel
theorem dX8_init_110 : decode cX8_init 110 = .ok (.if_icmp .ge 19, 3) := by decide +kernel
theorem dX8_init_113 : decode cX8_init 113 = .ok (.aload_n 0, 1) := by decide +kernel
theorem dX8_init_114 : decode cX8_init 114 = .ok (.getfield 13, 3) := by decide +kernel
theorem dX8_init_117 : decode cX8_init 117 = .ok (.bipush 9, 2) := by decide +kernel
theorem dX8_init_119 : decode cX8_init 119 = .ok (.iload_n 1, 1) := by decide +kernel
theorem dX8_init_120 : decode cX8_init 120 = .ok (.iadd, 1) := by decide +kernel
theorem dX8_init_121 : decode cX8_init 121 = .ok (.iconst (-1), 1) := by decide +kernel
theorem dX8_init_122 : decode cX8_init 122 = .ok (.iastore, 1) := by decide +kernel
theorem dX8_init_123 : decode cX8_init 123 = .ok (.iinc 1 1, 3) := by decide +kernel
theorem dX8_init_126 : decode cX8_init 126 = .ok (.goto (-19), 3) := by decide +kernel
theorem dX8_init_129 : decode cX8_init 129 = .ok (.aload_n 0, 1) := by decide +kernel
theorem dX8_init_130 : decode cX8_init 130 = .ok (.getfield 13, 3) := by decide +kernel
theorem dX8_init_133 : decode cX8_init 133 = .ok (.bipush 17, 2) := by decide +kernel
theorem dX8_init_135 : decode cX8_init 135 = .ok (.iconst 1, 1) := by decide +kernel
theorem dX8_init_136 : decode cX8_init 136 = .ok (.iastore, 1) := by decide +kernel
theorem dX8_init_137 : decode cX8_init 137 = .ok (.return_, 1) := by decide +kernel
theorem dX8_thrown_0 : decode cX8_thrown 0 = .ok (.aload_n 0, 1) := by decide +kernel
theorem dX8_thrown_1 : decode cX8_thrown 1 = .ok (.getfield 47, 3) := by decide +kernel
theorem dX8_thrown_4 : decode cX8_thrown 4 = .ok (.ireturn, 1) := by decide +kernel
theorem dX8_feed_0 : decode cX8_feed 0 = .ok (.aload_n 0, 1) := by decide +kernel
theorem dX8_feed_1 : decode cX8_feed 1 = .ok (.iconst 0, 1) := by decide +kernel
theorem dX8_feed_2 : decode cX8_feed 2 = .ok (.putfield 47, 3) := by decide +kernel
theorem dX8_feed_5 : decode cX8_feed 5 = .ok (.iconst 0, 1) := by decide +kernel
theorem dX8_feed_6 : decode cX8_feed 6 = .ok (.istore_n 2, 1) := by decide +kernel
theorem dX8_feed_7 : decode cX8_feed 7 = .ok (.iconst 0, 1) := by decide +kernel
theorem dX8_feed_8 : decode cX8_feed 8 = .ok (.istore_n 3, 1) := by decide +kernel
theorem dX8_feed_9 : decode cX8_feed 9 = .ok (.iload_n 3, 1) := by decide +kernel
theorem dX8_feed_10 : decode cX8_feed 10 = .ok (.iconst 4, 1) := by decide +kernel
theorem dX8_feed_11 : decode cX8_feed 11 = .ok (.if_icmp .ge 31, 3) := by decide +kernel
theorem dX8_feed_14 : decode cX8_feed 14 = .ok (.iload_n 2, 1) := by decide +kernel
theorem dX8_feed_15 : decode cX8_feed 15 = .ok (.iload_n 3, 1) := by decide +kernel
theorem dX8_feed_16 : decode cX8_feed 16 = .ok (.if_icmp .ne 20, 3) := by decide +kernel
theorem dX8_feed_19 : decode cX8_feed 19 = .ok (.iload_n 1, 1) := by decide +kernel
theorem dX8_feed_20 : decode cX8_feed 20 = .ok (.bipush 8, 2) := by decide +kernel
theorem dX8_feed_22 : decode cX8_feed 22 = .ok (.iload_n 3, 1) := by decide +kernel
theorem dX8_feed_23 : decode cX8_feed 23 = .ok (.imul, 1) := by decide +kernel
theorem dX8_feed_24 : decode cX8_feed 24 = .ok (.ishr, 1) := by decide +kernel
theorem dX8_feed_25 : decode cX8_feed 25 = .ok (.sipush 255, 3) := by decide +kernel
theorem dX8_feed_28 : decode cX8_feed 28 = .ok (.iand, 1) := by decide +kernel
theorem dX8_feed_29 : decode cX8_feed 29 = .ok (.ifCond .eq 7, 3) := by decide +kernel
theorem dX8_feed_32 : decode cX8_feed 32 = .ok (.iload_n 2, 1) := by decide +kernel
theorem dX8_feed_33 : decode cX8_feed 33 = .ok (.iconst 1, 1) := by decide +kernel
theorem dX8_feed_34 : decode cX8_feed 34 = .ok (.iadd, 1) := by decide +kernel
theorem dX8_feed_35 : decode cX8_feed 35 = .ok (.istore_n 2, 1) := by decide +kernel
theorem dX8_feed_36 : decode cX8_feed 36 = .ok (.iinc 3 1, 3) := by decide +kernel
theorem dX8_feed_39 : decode cX8_feed 39 = .ok (.goto (-30), 3) := by decide +kernel
theorem dX8_feed_42 : decode cX8_feed 42 = .ok (.aload_n 0, 1) := by decide +kernel
theorem dX8_feed_43 : decode cX8_feed 43 = .ok (.getfield 51, 3) := by decide +kernel
theorem dX8_feed_46 : decode cX8_feed 46 = .ok (.iload_n 2, 1) := by decide +kernel
theorem dX8_feed_47 : decode cX8_feed 47 = .ok (.iadd, 1) := by decide +kernel
theorem dX8_feed_48 : decode cX8_feed 48 = .ok (.sipush 200, 3) := by decide +kernel
theorem dX8_feed_51 : decode cX8_feed 51 = .ok (.if_icmp .le 5, 3) := by decide +kernel
theorem dX8_feed_54 : decode cX8_feed 54 = .ok (.iconst (-1), 1) := by decide +kernel
theorem dX8_feed_55 : decode cX8_feed 55 = .ok (.ireturn, 1) := by decide +kernel
theorem dX8_feed_56 : decode cX8_feed 56 = .ok (.iconst 0, 1) := by decide +kernel
theorem dX8_feed_57 : decode cX8_feed 57 = .ok (.istore_n 3, 1) := by decide +kernel
theorem dX8_feed_58 : decode cX8_feed 58 = .ok (.iload_n 3, 1) := by decide +kernel
theorem dX8_feed_59 : decode cX8_feed 59 = .ok (.iload_n 2, 1) := by decide +kernel
theorem dX8_feed_60 : decode cX8_feed 60 = .ok (.if_icmp .ge 30, 3) := by decide +kernel
theorem dX8_feed_63 : decode cX8_feed 63 = .ok (.aload_n 0, 1) := by decide +kernel
theorem dX8_feed_64 : decode cX8_feed 64 = .ok (.getfield 7, 3) := by decide +kernel
theorem dX8_feed_67 : decode cX8_feed 67 = .ok (.aload_n 0, 1) := by decide +kernel
theorem dX8_feed_68 : decode cX8_feed 68 = .ok (.getfield 51, 3) := by decide +kernel
theorem dX8_feed_71 : decode cX8_feed 71 = .ok (.iload_n 3, 1) := by decide +kernel
theorem dX8_feed_72 : decode cX8_feed 72 = .ok (.iadd, 1) := by decide +kernel
theorem dX8_feed_73 : decode cX8_feed 73 = .ok (.iload_n 1, 1) := by decide +kernel
theorem dX8_feed_74 : decode cX8_feed 74 = .ok (.bipush 8, 2) := by decide +kernel
theorem dX8_feed_76 : decode cX8_feed 76 = .ok (.iload_n 3, 1) := by decide +kernel
theorem dX8_feed_77 : decode cX8_feed 77 = .ok (.imul, 1) := by decide +kernel
theorem dX8_feed_78 : decode cX8_feed 78 = .ok (.ishr, 1) := by decide +kernel
theorem dX8_feed_79 : decode cX8_feed 79 = .ok (.sipush 255, 3) := by decide +kernel
theorem dX8_feed_82 : decode cX8_feed 82 = .ok (.iand, 1) := by decide +kernel
theorem dX8_feed_83 : decode cX8_feed 83 = .ok (.iastore, 1) := by decide +kernel
theorem dX8_feed_84 : decode cX8_feed 84 = .ok (.iinc 3 1, 3) := by decide +kernel
theorem dX8_feed_87 : decode cX8_feed 87 = .ok (.goto (-29), 3) := by decide +kernel
theorem dX8_feed_90 : decode cX8_feed 90 = .ok (.aload_n 0, 1) := by decide +kernel
theorem dX8_feed_91 : decode cX8_feed 91 = .ok (.aload_n 0, 1) := by decide +kernel
theorem dX8_feed_92 : decode cX8_feed 92 = .ok (.getfield 51, 3) := by decide +kernel
theorem dX8_feed_95 : decode cX8_feed 95 = .ok (.iload_n 2, 1) := by decide +kernel
theorem dX8_feed_96 : decode cX8_feed 96 = .ok (.iadd, 1) := by decide +kernel
theorem dX8_feed_97 : decode cX8_feed 97 = .ok (.putfield 51, 3) := by decide +kernel
theorem dX8_feed_100 : decode cX8_feed 100 = .ok (.iload_n 2, 1) := by decide +kernel
theorem dX8_feed_101 : decode cX8_feed 101 = .ok (.ireturn, 1) := by decide +kernel
theorem dX8_clear_0 : decode cX8_clear 0 = .ok (.aload_n 0, 1) := by decide +kernel
theorem dX8_clear_1 : decode cX8_clear 1 = .ok (.iconst 0, 1) := by decide +kernel
theorem dX8_clear_2 : decode cX8_clear 2 = .ok (.putfield 47, 3) := by decide +kernel
theorem dX8_clear_5 : decode cX8_clear 5 = .ok (.aload_n 0, 1) := by decide +kernel
theorem dX8_clear_6 : decode cX8_clear 6 = .ok (.iconst 0, 1) := by decide +kernel
theorem dX8_clear_7 : decode cX8_clear 7 = .ok (.putfield 51, 3) := by decide +kernel
theorem dX8_clear_10 : decode cX8_clear 10 = .ok (.return_, 1) := by decide +kernel
theorem dX8_ahead_0 : decode cX8_ahead 0 = .ok (.iconst 0, 1) := by decide +kernel
theorem dX8_ahead_1 : decode cX8_ahead 1 = .ok (.istore_n 1, 1) := by decide +kernel
theorem dX8_ahead_2 : decode cX8_ahead 2 = .ok (.iload_n 1, 1) := by decide +kernel
theorem dX8_ahead_3 : decode cX8_ahead 3 = .ok (.sipush 200, 3) := by decide +kernel
theorem dX8_ahead_6 : decode cX8_ahead 6 = .ok (.if_icmp .ge 44, 3) := by decide +kernel
theorem dX8_ahead_9 : decode cX8_ahead 9 = .ok (.aload_n 0, 1) := by decide +kernel
theorem dX8_ahead_10 : decode cX8_ahead 10 = .ok (.getfield 54, 3) := by decide +kernel
theorem dX8_ahead_13 : decode cX8_ahead 13 = .ok (.aload_n 0, 1) := by decide +kernel
theorem dX8_ahead_14 : decode cX8_ahead 14 = .ok (.getfield 51, 3) := by decide +kernel
theorem dX8_ahead_17 : decode cX8_ahead 17 = .ok (.if_icmp .ge 27, 3) := by decide +kernel
theorem dX8_ahead_20 : decode cX8_ahead 20 = .ok (.aload_n 0, 1) := by decide +kernel
theorem dX8_ahead_21 : decode cX8_ahead 21 = .ok (.getfield 7, 3) := by decide +kernel
theorem dX8_ahead_24 : decode cX8_ahead 24 = .ok (.aload_n 0, 1) := by decide +kernel
theorem dX8_ahead_25 : decode cX8_ahead 25 = .ok (.getfield 54, 3) := by decide +kernel
theorem dX8_ahead_28 : decode cX8_ahead 28 = .ok (.iaload, 1) := by decide +kernel
theorem dX8_ahead_29 : decode cX8_ahead 29 = .ok (.bipush 32, 2) := by decide +kernel
theorem dX8_ahead_31 : decode cX8_ahead 31 = .ok (.if_icmp .ne 13, 3) := by decide +kernel
theorem dX8_ahead_34 : decode cX8_ahead 34 = .ok (.aload_n 0, 1) := by decide +kernel
theorem dX8_ahead_35 : decode cX8_ahead 35 = .ok (.aload_n 0, 1) := by decide +kernel
theorem dX8_ahead_36 : decode cX8_ahead 36 = .ok (.getfield 54, 3) := by decide +kernel
theorem dX8_ahead_39 : decode cX8_ahead 39 = .ok (.iconst 1, 1) := by decide +kernel
theorem dX8_ahead_40 : decode cX8_ahead 40 = .ok (.iadd, 1) := by decide +kernel
theorem dX8_ahead_41 : decode cX8_ahead 41 = .ok (.putfield 54, 3) := by decide +kernel
theorem dX8_ahead_44 : decode cX8_ahead 44 = .ok (.iinc 1 1, 3) := by decide +kernel
theorem dX8_ahead_47 : decode cX8_ahead 47 = .ok (.goto (-45), 3) := by decide +kernel
theorem dX8_ahead_50 : decode cX8_ahead 50 = .ok (.aload_n 0, 1) := by decide +kernel
theorem dX8_ahead_51 : decode cX8_ahead 51 = .ok (.getfield 54, 3) := by decide +kernel
theorem dX8_ahead_54 : decode cX8_ahead 54 = .ok (.aload_n 0, 1) := by decide +kernel
theorem dX8_ahead_55 : decode cX8_ahead 55 = .ok (.getfield 51, 3) := by decide +kernel
theorem dX8_ahead_58 : decode cX8_ahead 58 = .ok (.if_icmp .ge 15, 3) := by decide +kernel
theorem dX8_ahead_61 : decode cX8_ahead 61 = .ok (.aload_n 0, 1) := by decide +kernel
theorem dX8_ahead_62 : decode cX8_ahead 62 = .ok (.getfield 7, 3) := by decide +kernel
theorem dX8_ahead_65 : decode cX8_ahead 65 = .ok (.aload_n 0, 1) := by decide +kernel
theorem dX8_ahead_66 : decode cX8_ahead 66 = .ok (.getfield 54, 3) := by decide +kernel
theorem dX8_ahead_69 : decode cX8_ahead 69 = .ok (.iaload, 1) := by decide +kernel
theorem dX8_ahead_70 : decode cX8_ahead 70 = .ok (.goto 4, 3) := by decide +kernel
theorem dX8_ahead_73 : decode cX8_ahead 73 = .ok (.iconst 0, 1) := by decide +kernel
theorem dX8_ahead_74 : decode cX8_ahead 74 = .ok (.ireturn, 1) := by decide +kernel
theorem dX8_digit_0 : decode cX8_digit 0 = .ok (.iload_n 0, 1) := by decide +kernel
theorem dX8_digit_1 : decode cX8_digit 1 = .ok (.bipush 48, 2) := by decide +kernel
theorem dX8_digit_3 : decode cX8_digit 3 = .ok (.if_icmp .lt 13, 3) := by decide +kernel
theorem dX8_digit_6 : decode cX8_digit 6 = .ok (.iload_n 0, 1) := by decide +kernel
theorem dX8_digit_7 : decode cX8_digit 7 = .ok (.bipush 57, 2) := by decide +kernel
theorem dX8_digit_9 : decode cX8_digit 9 = .ok (.if_icmp .gt 7, 3) := by decide +kernel
theorem dX8_digit_12 : decode cX8_digit 12 = .ok (.iconst 1, 1) := by decide +kernel
theorem dX8_digit_13 : decode cX8_digit 13 = .ok (.goto 4, 3) := by decide +kernel
theorem dX8_digit_16 : decode cX8_digit 16 = .ok (.iconst 0, 1) := by decide +kernel
theorem dX8_digit_17 : decode cX8_digit 17 = .ok (.ireturn, 1) := by decide +kernel
theorem dX8_plain_0 : decode cX8_plain 0 = .ok (.iload_n 0, 1) := by decide +kernel
theorem dX8_plain_1 : decode cX8_plain 1 = .ok (.lookupswitch 115 #[(37, 97), (38, 109), (42, 95), (43, 91), (45, 93), (60, 101), (61, 106), (62, 103), (94, 112), (124, 99)], 91) := by decide +kernel
theorem dX8_plain_92 : decode cX8_plain 92 = .ok (.iconst 0, 1) := by decide +kernel
theorem dX8_plain_93 : decode cX8_plain 93 = .ok (.ireturn, 1) := by decide +kernel
theorem dX8_plain_94 : decode cX8_plain 94 = .ok (.iconst 1, 1) := by decide +kernel
theorem dX8_plain_95 : decode cX8_plain 95 = .ok (.ireturn, 1) := by decide +kernel
theorem dX8_plain_96 : decode cX8_plain 96 = .ok (.iconst 2, 1) := by decide +kernel
theorem dX8_plain_97 : decode cX8_plain 97 = .ok (.ireturn, 1) := by decide +kernel
theorem dX8_plain_98 : decode cX8_plain 98 = .ok (.iconst 3, 1) := by decide +kernel
theorem dX8_plain_99 : decode cX8_plain 99 = .ok (.ireturn, 1) := by decide +kernel
theorem dX8_plain_100 : decode cX8_plain 100 = .ok (.iconst 4, 1) := by decide +kernel
theorem dX8_plain_101 : decode cX8_plain 101 = .ok (.ireturn, 1) := by decide +kernel
theorem dX8_plain_102 : decode cX8_plain 102 = .ok (.iconst 5, 1) := by decide +kernel
theorem dX8_plain_103 : decode cX8_plain 103 = .ok (.ireturn, 1) := by decide +kernel
theorem dX8_plain_104 : decode cX8_plain 104 = .ok (.bipush 6, 2) := by decide +kernel
theorem dX8_plain_106 : decode cX8_plain 106 = .ok (.ireturn, 1) := by decide +kernel
theorem dX8_plain_107 : decode cX8_plain 107 = .ok (.bipush 7, 2) := by decide +kernel
theorem dX8_plain_109 : decode cX8_plain 109 = .ok (.ireturn, 1) := by decide +kernel
theorem dX8_plain_110 : decode cX8_plain 110 = .ok (.bipush 8, 2) := by decide +kernel
theorem dX8_plain_112 : decode cX8_plain 112 = .ok (.ireturn, 1) := by decide +kernel
theorem dX8_plain_113 : decode cX8_plain 113 = .ok (.bipush 9, 2) := by decide +kernel
theorem dX8_plain_115 : decode cX8_plain 115 = .ok (.ireturn, 1) := by decide +kernel
theorem dX8_plain_116 : decode cX8_plain 116 = .ok (.iconst (-1), 1) := by decide +kernel
theorem dX8_plain_117 : decode cX8_plain 117 = .ok (.ireturn, 1) := by decide +kernel
theorem dX8_add_0 : decode cX8_add 0 = .ok (.aload_n 0, 1) := by decide +kernel
theorem dX8_add_1 : decode cX8_add 1 = .ok (.getfield 22, 3) := by decide +kernel
theorem dX8_add_4 : decode cX8_add 4 = .ok (.aload_n 0, 1) := by decide +kernel
theorem dX8_add_5 : decode cX8_add 5 = .ok (.getfield 57, 3) := by decide +kernel
theorem dX8_add_8 : decode cX8_add 8 = .ok (.iload_n 1, 1) := by decide +kernel
theorem dX8_add_9 : decode cX8_add 9 = .ok (.iastore, 1) := by decide +kernel
theorem dX8_add_10 : decode cX8_add 10 = .ok (.aload_n 0, 1) := by decide +kernel
theorem dX8_add_11 : decode cX8_add 11 = .ok (.getfield 25, 3) := by decide +kernel
theorem dX8_add_14 : decode cX8_add 14 = .ok (.aload_n 0, 1) := by decide +kernel
theorem dX8_add_15 : decode cX8_add 15 = .ok (.getfield 57, 3) := by decide +kernel
theorem dX8_add_18 : decode cX8_add 18 = .ok (.iload_n 2, 1) := by decide +kernel
theorem dX8_add_19 : decode cX8_add 19 = .ok (.iastore, 1) := by decide +kernel
theorem dX8_add_20 : decode cX8_add 20 = .ok (.aload_n 0, 1) := by decide +kernel
theorem dX8_add_21 : decode cX8_add 21 = .ok (.getfield 28, 3) := by decide +kernel
theorem dX8_add_24 : decode cX8_add 24 = .ok (.aload_n 0, 1) := by decide +kernel
theorem dX8_add_25 : decode cX8_add 25 = .ok (.getfield 57, 3) := by decide +kernel
theorem dX8_add_28 : decode cX8_add 28 = .ok (.iload_n 3, 1) := by decide +kernel
theorem dX8_add_29 : decode cX8_add 29 = .ok (.iastore, 1) := by decide +kernel
theorem dX8_add_30 : decode cX8_add 30 = .ok (.aload_n 0, 1) := by decide +kernel
theorem dX8_add_31 : decode cX8_add 31 = .ok (.aload_n 0, 1) := by decide +kernel
theorem dX8_add_32 : decode cX8_add 32 = .ok (.getfield 57, 3) := by decide +kernel
theorem dX8_add_35 : decode cX8_add 35 = .ok (.iconst 1, 1) := by decide +kernel
theorem dX8_add_36 : decode cX8_add 36 = .ok (.iadd, 1) := by decide +kernel
theorem dX8_add_37 : decode cX8_add 37 = .ok (.putfield 57, 3) := by decide +kernel
theorem dX8_add_40 : decode cX8_add 40 = .ok (.return_, 1) := by decide +kernel
theorem dX8_row_0 : decode cX8_row 0 = .ok (.aload_n 0, 1) := by decide +kernel
theorem dX8_row_1 : decode cX8_row 1 = .ok (.getfield 60, 3) := by decide +kernel
theorem dX8_row_4 : decode cX8_row 4 = .ok (.istore_n 1, 1) := by decide +kernel
theorem dX8_row_5 : decode cX8_row 5 = .ok (.iconst 0, 1) := by decide +kernel
theorem dX8_row_6 : decode cX8_row 6 = .ok (.istore_n 2, 1) := by decide +kernel
theorem dX8_row_7 : decode cX8_row 7 = .ok (.iload_n 2, 1) := by decide +kernel
theorem dX8_row_8 : decode cX8_row 8 = .ok (.bipush 101, 2) := by decide +kernel
theorem dX8_row_10 : decode cX8_row 10 = .ok (.if_icmp .ge 215, 3) := by decide +kernel
theorem dX8_row_13 : decode cX8_row 13 = .ok (.aload_n 0, 1) := by decide +kernel
theorem dX8_row_14 : decode cX8_row 14 = .ok (.invokevirtual 63, 3) := by decide +kernel
theorem dX8_row_17 : decode cX8_row 17 = .ok (.istore_n 3, 1) := by decide +kernel
theorem dX8_row_18 : decode cX8_row 18 = .ok (.iload_n 3, 1) := by decide +kernel
theorem dX8_row_19 : decode cX8_row 19 = .ok (.invokestatic 67, 3) := by decide +kernel
theorem dX8_row_22 : decode cX8_row 22 = .ok (.ifCond .ne 12, 3) := by decide +kernel
theorem dX8_row_25 : decode cX8_row 25 = .ok (.iload_n 3, 1) := by decide +kernel
theorem dX8_row_26 : decode cX8_row 26 = .ok (.bipush 95, 2) := by decide +kernel
theorem dX8_row_28 : decode cX8_row 28 = .ok (.if_icmp .eq 6, 3) := by decide +kernel
theorem dX8_row_31 : decode cX8_row 31 = .ok (.goto 194, 3) := by decide +kernel
theorem dX8_row_34 : decode cX8_row 34 = .ok (.iload_n 3, 1) := by decide +kernel
theorem dX8_row_35 : decode cX8_row 35 = .ok (.bipush 95, 2) := by decide +kernel
theorem dX8_row_37 : decode cX8_row 37 = .ok (.if_icmp .ne 7, 3) := by decide +kernel
theorem dX8_row_40 : decode cX8_row 40 = .ok (.iconst 1, 1) := by decide +kernel
theorem dX8_row_41 : decode cX8_row 41 = .ok (.goto 4, 3) := by decide +kernel
theorem dX8_row_44 : decode cX8_row 44 = .ok (.iconst 0, 1) := by decide +kernel
theorem dX8_row_45 : decode cX8_row 45 = .ok (.istore 4, 2) := by decide +kernel
theorem dX8_row_47 : decode cX8_row 47 = .ok (.iload 4, 2) := by decide +kernel
theorem dX8_row_49 : decode cX8_row 49 = .ok (.ifCond .eq 13, 3) := by decide +kernel
theorem dX8_row_52 : decode cX8_row 52 = .ok (.aload_n 0, 1) := by decide +kernel
theorem dX8_row_53 : decode cX8_row 53 = .ok (.aload_n 0, 1) := by decide +kernel
theorem dX8_row_54 : decode cX8_row 54 = .ok (.getfield 54, 3) := by decide +kernel
theorem dX8_row_57 : decode cX8_row 57 = .ok (.iconst 1, 1) := by decide +kernel
theorem dX8_row_58 : decode cX8_row 58 = .ok (.iadd, 1) := by decide +kernel
theorem dX8_row_59 : decode cX8_row 59 = .ok (.putfield 54, 3) := by decide +kernel
theorem dX8_row_62 : decode cX8_row 62 = .ok (.iconst 0, 1) := by decide +kernel
theorem dX8_row_63 : decode cX8_row 63 = .ok (.istore 5, 2) := by decide +kernel
theorem dX8_row_65 : decode cX8_row 65 = .ok (.iconst 0, 1) := by decide +kernel
theorem dX8_row_66 : decode cX8_row 66 = .ok (.istore 6, 2) := by decide +kernel
theorem dX8_row_68 : decode cX8_row 68 = .ok (.aload_n 0, 1) := by decide +kernel
theorem dX8_row_69 : decode cX8_row 69 = .ok (.getfield 54, 3) := by decide +kernel
theorem dX8_row_72 : decode cX8_row 72 = .ok (.aload_n 0, 1) := by decide +kernel
theorem dX8_row_73 : decode cX8_row 73 = .ok (.getfield 51, 3) := by decide +kernel
theorem dX8_row_76 : decode cX8_row 76 = .ok (.if_icmp .ge 64, 3) := by decide +kernel
theorem dX8_row_79 : decode cX8_row 79 = .ok (.aload_n 0, 1) := by decide +kernel
theorem dX8_row_80 : decode cX8_row 80 = .ok (.getfield 7, 3) := by decide +kernel
theorem dX8_row_83 : decode cX8_row 83 = .ok (.aload_n 0, 1) := by decide +kernel
theorem dX8_row_84 : decode cX8_row 84 = .ok (.getfield 54, 3) := by decide +kernel
theorem dX8_row_87 : decode cX8_row 87 = .ok (.iaload, 1) := by decide +kernel
theorem dX8_row_88 : decode cX8_row 88 = .ok (.invokestatic 67, 3) := by decide +kernel
theorem dX8_row_91 : decode cX8_row 91 = .ok (.ifCond .eq 49, 3) := by decide +kernel
theorem dX8_row_94 : decode cX8_row 94 = .ok (.iload 6, 2) := by decide +kernel
theorem dX8_row_96 : decode cX8_row 96 = .ok (.bipush 9, 2) := by decide +kernel
theorem dX8_row_98 : decode cX8_row 98 = .ok (.if_icmp .ge 42, 3) := by decide +kernel
theorem dX8_row_101 : decode cX8_row 101 = .ok (.bipush 10, 2) := by decide +kernel
theorem dX8_row_103 : decode cX8_row 103 = .ok (.iload 5, 2) := by decide +kernel
theorem dX8_row_105 : decode cX8_row 105 = .ok (.imul, 1) := by decide +kernel
theorem dX8_row_106 : decode cX8_row 106 = .ok (.aload_n 0, 1) := by decide +kernel
theorem dX8_row_107 : decode cX8_row 107 = .ok (.getfield 7, 3) := by decide +kernel
theorem dX8_row_110 : decode cX8_row 110 = .ok (.aload_n 0, 1) := by decide +kernel
theorem dX8_row_111 : decode cX8_row 111 = .ok (.getfield 54, 3) := by decide +kernel
theorem dX8_row_114 : decode cX8_row 114 = .ok (.iaload, 1) := by decide +kernel
theorem dX8_row_115 : decode cX8_row 115 = .ok (.iadd, 1) := by decide +kernel
theorem dX8_row_116 : decode cX8_row 116 = .ok (.bipush 48, 2) := by decide +kernel
theorem dX8_row_118 : decode cX8_row 118 = .ok (.isub, 1) := by decide +kernel
theorem dX8_row_119 : decode cX8_row 119 = .ok (.istore 5, 2) := by decide +kernel
theorem dX8_row_121 : decode cX8_row 121 = .ok (.iload 6, 2) := by decide +kernel
theorem dX8_row_123 : decode cX8_row 123 = .ok (.iconst 1, 1) := by decide +kernel
theorem dX8_row_124 : decode cX8_row 124 = .ok (.iadd, 1) := by decide +kernel
theorem dX8_row_125 : decode cX8_row 125 = .ok (.istore 6, 2) := by decide +kernel
theorem dX8_row_127 : decode cX8_row 127 = .ok (.aload_n 0, 1) := by decide +kernel
theorem dX8_row_128 : decode cX8_row 128 = .ok (.aload_n 0, 1) := by decide +kernel
theorem dX8_row_129 : decode cX8_row 129 = .ok (.getfield 54, 3) := by decide +kernel
theorem dX8_row_132 : decode cX8_row 132 = .ok (.iconst 1, 1) := by decide +kernel
theorem dX8_row_133 : decode cX8_row 133 = .ok (.iadd, 1) := by decide +kernel
theorem dX8_row_134 : decode cX8_row 134 = .ok (.putfield 54, 3) := by decide +kernel
theorem dX8_row_137 : decode cX8_row 137 = .ok (.goto (-69), 3) := by decide +kernel
theorem dX8_row_140 : decode cX8_row 140 = .ok (.iload 6, 2) := by decide +kernel
theorem dX8_row_142 : decode cX8_row 142 = .ok (.ifCond .eq 43, 3) := by decide +kernel
theorem dX8_row_145 : decode cX8_row 145 = .ok (.aload_n 0, 1) := by decide +kernel
theorem dX8_row_146 : decode cX8_row 146 = .ok (.getfield 54, 3) := by decide +kernel
theorem dX8_row_149 : decode cX8_row 149 = .ok (.aload_n 0, 1) := by decide +kernel
theorem dX8_row_150 : decode cX8_row 150 = .ok (.getfield 51, 3) := by decide +kernel
theorem dX8_row_153 : decode cX8_row 153 = .ok (.if_icmp .ge 34, 3) := by decide +kernel
theorem dX8_row_156 : decode cX8_row 156 = .ok (.aload_n 0, 1) := by decide +kernel
theorem dX8_row_157 : decode cX8_row 157 = .ok (.getfield 7, 3) := by decide +kernel
theorem dX8_row_160 : decode cX8_row 160 = .ok (.aload_n 0, 1) := by decide +kernel
theorem dX8_row_161 : decode cX8_row 161 = .ok (.getfield 54, 3) := by decide +kernel
theorem dX8_row_164 : decode cX8_row 164 = .ok (.iaload, 1) := by decide +kernel
theorem dX8_row_165 : decode cX8_row 165 = .ok (.invokestatic 67, 3) := by decide +kernel
theorem dX8_row_168 : decode cX8_row 168 = .ok (.ifCond .ne 17, 3) := by decide +kernel
theorem dX8_row_171 : decode cX8_row 171 = .ok (.aload_n 0, 1) := by decide +kernel
theorem dX8_row_172 : decode cX8_row 172 = .ok (.getfield 7, 3) := by decide +kernel
theorem dX8_row_175 : decode cX8_row 175 = .ok (.aload_n 0, 1) := by decide +kernel
theorem dX8_row_176 : decode cX8_row 176 = .ok (.getfield 54, 3) := by decide +kernel
theorem dX8_row_179 : decode cX8_row 179 = .ok (.iaload, 1) := by decide +kernel
theorem dX8_row_180 : decode cX8_row 180 = .ok (.bipush 95, 2) := by decide +kernel
theorem dX8_row_182 : decode cX8_row 182 = .ok (.if_icmp .ne 5, 3) := by decide +kernel
theorem dX8_row_185 : decode cX8_row 185 = .ok (.iconst 0, 1) := by decide +kernel
theorem dX8_row_186 : decode cX8_row 186 = .ok (.ireturn, 1) := by decide +kernel
theorem dX8_row_187 : decode cX8_row 187 = .ok (.aload_n 0, 1) := by decide +kernel
theorem dX8_row_188 : decode cX8_row 188 = .ok (.getfield 31, 3) := by decide +kernel
theorem dX8_row_191 : decode cX8_row 191 = .ok (.aload_n 0, 1) := by decide +kernel
theorem dX8_row_192 : decode cX8_row 192 = .ok (.getfield 60, 3) := by decide +kernel
theorem dX8_row_195 : decode cX8_row 195 = .ok (.iload 4, 2) := by decide +kernel
theorem dX8_row_197 : decode cX8_row 197 = .ok (.ifCond .eq 9, 3) := by decide +kernel
theorem dX8_row_200 : decode cX8_row 200 = .ok (.iload 5, 2) := by decide +kernel
theorem dX8_row_202 : decode cX8_row 202 = .ok (.ineg, 1) := by decide +kernel
theorem dX8_row_203 : decode cX8_row 203 = .ok (.goto 5, 3) := by decide +kernel
theorem dX8_row_206 : decode cX8_row 206 = .ok (.iload 5, 2) := by decide +kernel
theorem dX8_row_208 : decode cX8_row 208 = .ok (.iastore, 1) := by decide +kernel
theorem dX8_row_209 : decode cX8_row 209 = .ok (.aload_n 0, 1) := by decide +kernel
theorem dX8_row_210 : decode cX8_row 210 = .ok (.aload_n 0, 1) := by decide +kernel
theorem dX8_row_211 : decode cX8_row 211 = .ok (.getfield 60, 3) := by decide +kernel
theorem dX8_row_214 : decode cX8_row 214 = .ok (.iconst 1, 1) := by decide +kernel
theorem dX8_row_215 : decode cX8_row 215 = .ok (.iadd, 1) := by decide +kernel
theorem dX8_row_216 : decode cX8_row 216 = .ok (.putfield 60, 3) := by decide +kernel
theorem dX8_row_219 : decode cX8_row 219 = .ok (.iinc 2 1, 3) := by decide +kernel
theorem dX8_row_222 : decode cX8_row 222 = .ok (.goto (-215), 3) := by decide +kernel
theorem dX8_row_225 : decode cX8_row 225 = .ok (.aload_n 0, 1) := by decide +kernel
theorem dX8_row_226 : decode cX8_row 226 = .ok (.iconst 0, 1) := by decide +kernel
theorem dX8_row_227 : decode cX8_row 227 = .ok (.iload_n 1, 1) := by decide +kernel
theorem dX8_row_228 : decode cX8_row 228 = .ok (.aload_n 0, 1) := by decide +kernel
theorem dX8_row_229 : decode cX8_row 229 = .ok (.getfield 60, 3) := by decide +kernel
theorem dX8_row_232 : decode cX8_row 232 = .ok (.iload_n 1, 1) := by decide +kernel
theorem dX8_row_233 : decode cX8_row 233 = .ok (.isub, 1) := by decide +kernel
theorem dX8_row_234 : decode cX8_row 234 = .ok (.invokevirtual 71, 3) := by decide +kernel
theorem dX8_row_237 : decode cX8_row 237 = .ok (.iconst 1, 1) := by decide +kernel
theorem dX8_row_238 : decode cX8_row 238 = .ok (.ireturn, 1) := by decide +kernel
theorem dX8_one_0 : decode cX8_one 0 = .ok (.aload_n 0, 1) := by decide +kernel
theorem dX8_one_1 : decode cX8_one 1 = .ok (.invokevirtual 63, 3) := by decide +kernel
theorem dX8_one_4 : decode cX8_one 4 = .ok (.istore_n 1, 1) := by decide +kernel
theorem dX8_one_5 : decode cX8_one 5 = .ok (.iload_n 1, 1) := by decide +kernel
theorem dX8_one_6 : decode cX8_one 6 = .ok (.invokestatic 75, 3) := by decide +kernel
theorem dX8_one_9 : decode cX8_one 9 = .ok (.istore_n 2, 1) := by decide +kernel
theorem dX8_one_10 : decode cX8_one 10 = .ok (.aload_n 0, 1) := by decide +kernel
theorem dX8_one_11 : decode cX8_one 11 = .ok (.aload_n 0, 1) := by decide +kernel
theorem dX8_one_12 : decode cX8_one 12 = .ok (.getfield 54, 3) := by decide +kernel
theorem dX8_one_15 : decode cX8_one 15 = .ok (.iconst 1, 1) := by decide +kernel
theorem dX8_one_16 : decode cX8_one 16 = .ok (.iadd, 1) := by decide +kernel
theorem dX8_one_17 : decode cX8_one 17 = .ok (.putfield 54, 3) := by decide +kernel
theorem dX8_one_20 : decode cX8_one 20 = .ok (.iload_n 2, 1) := by decide +kernel
theorem dX8_one_21 : decode cX8_one 21 = .ok (.ifCond .lt 80, 3) := by decide +kernel
theorem dX8_one_24 : decode cX8_one 24 = .ok (.aload_n 0, 1) := by decide +kernel
theorem dX8_one_25 : decode cX8_one 25 = .ok (.invokevirtual 63, 3) := by decide +kernel
theorem dX8_one_28 : decode cX8_one 28 = .ok (.istore_n 3, 1) := by decide +kernel
theorem dX8_one_29 : decode cX8_one 29 = .ok (.iload_n 3, 1) := by decide +kernel
theorem dX8_one_30 : decode cX8_one 30 = .ok (.bipush 47, 2) := by decide +kernel
theorem dX8_one_32 : decode cX8_one 32 = .ok (.if_icmp .eq 9, 3) := by decide +kernel
theorem dX8_one_35 : decode cX8_one 35 = .ok (.iload_n 3, 1) := by decide +kernel
theorem dX8_one_36 : decode cX8_one 36 = .ok (.bipush 92, 2) := by decide +kernel
theorem dX8_one_38 : decode cX8_one 38 = .ok (.if_icmp .ne 28, 3) := by decide +kernel
theorem dX8_one_41 : decode cX8_one 41 = .ok (.aload_n 0, 1) := by decide +kernel
theorem dX8_one_42 : decode cX8_one 42 = .ok (.aload_n 0, 1) := by decide +kernel
theorem dX8_one_43 : decode cX8_one 43 = .ok (.getfield 54, 3) := by decide +kernel
theorem dX8_one_46 : decode cX8_one 46 = .ok (.iconst 1, 1) := by decide +kernel
theorem dX8_one_47 : decode cX8_one 47 = .ok (.iadd, 1) := by decide +kernel
theorem dX8_one_48 : decode cX8_one 48 = .ok (.putfield 54, 3) := by decide +kernel
theorem dX8_one_51 : decode cX8_one 51 = .ok (.iload_n 3, 1) := by decide +kernel
theorem dX8_one_52 : decode cX8_one 52 = .ok (.bipush 47, 2) := by decide +kernel
theorem dX8_one_54 : decode cX8_one 54 = .ok (.if_icmp .ne 7, 3) := by decide +kernel
theorem dX8_one_57 : decode cX8_one 57 = .ok (.iload_n 2, 1) := by decide +kernel
theorem dX8_one_58 : decode cX8_one 58 = .ok (.goto 7, 3) := by decide +kernel
theorem dX8_one_61 : decode cX8_one 61 = .ok (.bipush 10, 2) := by decide +kernel
theorem dX8_one_63 : decode cX8_one 63 = .ok (.iload_n 2, 1) := by decide +kernel
theorem dX8_one_64 : decode cX8_one 64 = .ok (.iadd, 1) := by decide +kernel
theorem dX8_one_65 : decode cX8_one 65 = .ok (.ireturn, 1) := by decide +kernel
theorem dX8_one_66 : decode cX8_one 66 = .ok (.iload_n 1, 1) := by decide +kernel
theorem dX8_one_67 : decode cX8_one 67 = .ok (.bipush 45, 2) := by decide +kernel
theorem dX8_one_69 : decode cX8_one 69 = .ok (.if_icmp .ne 8, 3) := by decide +kernel
theorem dX8_one_72 : decode cX8_one 72 = .ok (.bipush 20, 2) := by decide +kernel
theorem dX8_one_74 : decode cX8_one 74 = .ok (.goto 26, 3) := by decide +kernel
theorem dX8_one_77 : decode cX8_one 77 = .ok (.iload_n 1, 1) := by decide +kernel
theorem dX8_one_78 : decode cX8_one 78 = .ok (.bipush 124, 2) := by decide +kernel
theorem dX8_one_80 : decode cX8_one 80 = .ok (.if_icmp .ne 8, 3) := by decide +kernel
theorem dX8_one_83 : decode cX8_one 83 = .ok (.bipush 21, 2) := by decide +kernel
theorem dX8_one_85 : decode cX8_one 85 = .ok (.goto 15, 3) := by decide +kernel
theorem dX8_one_88 : decode cX8_one 88 = .ok (.iload_n 1, 1) := by decide +kernel
theorem dX8_one_89 : decode cX8_one 89 = .ok (.bipush 42, 2) := by decide +kernel
theorem dX8_one_91 : decode cX8_one 91 = .ok (.if_icmp .ne 8, 3) := by decide +kernel
theorem dX8_one_94 : decode cX8_one 94 = .ok (.bipush 22, 2) := by decide +kernel
theorem dX8_one_96 : decode cX8_one 96 = .ok (.goto 4, 3) := by decide +kernel
theorem dX8_one_99 : decode cX8_one 99 = .ok (.iconst (-1), 1) := by decide +kernel
theorem dX8_one_100 : decode cX8_one 100 = .ok (.ireturn, 1) := by decide +kernel
theorem dX8_one_101 : decode cX8_one 101 = .ok (.iload_n 1, 1) := by decide +kernel
theorem dX8_one_102 : decode cX8_one 102 = .ok (.bipush 105, 2) := by decide +kernel
theorem dX8_one_104 : decode cX8_one 104 = .ok (.if_icmp .ne 8, 3) := by decide +kernel
theorem dX8_one_107 : decode cX8_one 107 = .ok (.bipush 23, 2) := by decide +kernel
theorem dX8_one_109 : decode cX8_one 109 = .ok (.goto 48, 3) := by decide +kernel
theorem dX8_one_112 : decode cX8_one 112 = .ok (.iload_n 1, 1) := by decide +kernel
theorem dX8_one_113 : decode cX8_one 113 = .ok (.bipush 114, 2) := by decide +kernel
theorem dX8_one_115 : decode cX8_one 115 = .ok (.if_icmp .ne 8, 3) := by decide +kernel
theorem dX8_one_118 : decode cX8_one 118 = .ok (.bipush 24, 2) := by decide +kernel
theorem dX8_one_120 : decode cX8_one 120 = .ok (.goto 37, 3) := by decide +kernel
theorem dX8_one_123 : decode cX8_one 123 = .ok (.iload_n 1, 1) := by decide +kernel
theorem dX8_one_124 : decode cX8_one 124 = .ok (.bipush 44, 2) := by decide +kernel
theorem dX8_one_126 : decode cX8_one 126 = .ok (.if_icmp .ne 8, 3) := by decide +kernel
theorem dX8_one_129 : decode cX8_one 129 = .ok (.bipush 25, 2) := by decide +kernel
theorem dX8_one_131 : decode cX8_one 131 = .ok (.goto 26, 3) := by decide +kernel
theorem dX8_one_134 : decode cX8_one 134 = .ok (.iload_n 1, 1) := by decide +kernel
theorem dX8_one_135 : decode cX8_one 135 = .ok (.bipush 116, 2) := by decide +kernel
theorem dX8_one_137 : decode cX8_one 137 = .ok (.if_icmp .ne 8, 3) := by decide +kernel
theorem dX8_one_140 : decode cX8_one 140 = .ok (.bipush 26, 2) := by decide +kernel
theorem dX8_one_142 : decode cX8_one 142 = .ok (.goto 15, 3) := by decide +kernel
theorem dX8_one_145 : decode cX8_one 145 = .ok (.iload_n 1, 1) := by decide +kernel
theorem dX8_one_146 : decode cX8_one 146 = .ok (.bipush 118, 2) := by decide +kernel
theorem dX8_one_148 : decode cX8_one 148 = .ok (.if_icmp .ne 8, 3) := by decide +kernel
theorem dX8_one_151 : decode cX8_one 151 = .ok (.bipush 27, 2) := by decide +kernel
theorem dX8_one_153 : decode cX8_one 153 = .ok (.goto 4, 3) := by decide +kernel
theorem dX8_one_156 : decode cX8_one 156 = .ok (.iconst (-1), 1) := by decide +kernel
theorem dX8_one_157 : decode cX8_one 157 = .ok (.ireturn, 1) := by decide +kernel
theorem dX8_two_0 : decode cX8_two 0 = .ok (.aload_n 0, 1) := by decide +kernel
theorem dX8_two_1 : decode cX8_two 1 = .ok (.invokevirtual 63, 3) := by decide +kernel
theorem dX8_two_4 : decode cX8_two 4 = .ok (.istore_n 1, 1) := by decide +kernel
theorem dX8_two_5 : decode cX8_two 5 = .ok (.iload_n 1, 1) := by decide +kernel
theorem dX8_two_6 : decode cX8_two 6 = .ok (.invokestatic 75, 3) := by decide +kernel
theorem dX8_two_9 : decode cX8_two 9 = .ok (.istore_n 2, 1) := by decide +kernel
theorem dX8_two_10 : decode cX8_two 10 = .ok (.aload_n 0, 1) := by decide +kernel
theorem dX8_two_11 : decode cX8_two 11 = .ok (.aload_n 0, 1) := by decide +kernel
theorem dX8_two_12 : decode cX8_two 12 = .ok (.getfield 54, 3) := by decide +kernel
theorem dX8_two_15 : decode cX8_two 15 = .ok (.iconst 1, 1) := by decide +kernel
theorem dX8_two_16 : decode cX8_two 16 = .ok (.iadd, 1) := by decide +kernel
theorem dX8_two_17 : decode cX8_two 17 = .ok (.putfield 54, 3) := by decide +kernel
theorem dX8_two_20 : decode cX8_two 20 = .ok (.iload_n 2, 1) := by decide +kernel
theorem dX8_two_21 : decode cX8_two 21 = .ok (.ifCond .ge 38, 3) := by decide +kernel
theorem dX8_two_24 : decode cX8_two 24 = .ok (.iload_n 1, 1) := by decide +kernel
theorem dX8_two_25 : decode cX8_two 25 = .ok (.bipush 114, 2) := by decide +kernel
theorem dX8_two_27 : decode cX8_two 27 = .ok (.if_icmp .ne 8, 3) := by decide +kernel
theorem dX8_two_30 : decode cX8_two 30 = .ok (.bipush 30, 2) := by decide +kernel
theorem dX8_two_32 : decode cX8_two 32 = .ok (.goto 26, 3) := by decide +kernel
theorem dX8_two_35 : decode cX8_two 35 = .ok (.iload_n 1, 1) := by decide +kernel
theorem dX8_two_36 : decode cX8_two 36 = .ok (.bipush 44, 2) := by decide +kernel
theorem dX8_two_38 : decode cX8_two 38 = .ok (.if_icmp .ne 8, 3) := by decide +kernel
theorem dX8_two_41 : decode cX8_two 41 = .ok (.bipush 31, 2) := by decide +kernel
theorem dX8_two_43 : decode cX8_two 43 = .ok (.goto 15, 3) := by decide +kernel
theorem dX8_two_46 : decode cX8_two 46 = .ok (.iload_n 1, 1) := by decide +kernel
theorem dX8_two_47 : decode cX8_two 47 = .ok (.bipush 112, 2) := by decide +kernel
theorem dX8_two_49 : decode cX8_two 49 = .ok (.if_icmp .ne 8, 3) := by decide +kernel
theorem dX8_two_52 : decode cX8_two 52 = .ok (.bipush 32, 2) := by decide +kernel
theorem dX8_two_54 : decode cX8_two 54 = .ok (.goto 4, 3) := by decide +kernel
theorem dX8_two_57 : decode cX8_two 57 = .ok (.iconst (-1), 1) := by decide +kernel
theorem dX8_two_58 : decode cX8_two 58 = .ok (.ireturn, 1) := by decide +kernel
theorem dX8_two_59 : decode cX8_two 59 = .ok (.aload_n 0, 1) := by decide +kernel
theorem dX8_two_60 : decode cX8_two 60 = .ok (.invokevirtual 63, 3) := by decide +kernel
theorem dX8_two_63 : decode cX8_two 63 = .ok (.istore_n 3, 1) := by decide +kernel
theorem dX8_two_64 : decode cX8_two 64 = .ok (.iload_n 3, 1) := by decide +kernel
theorem dX8_two_65 : decode cX8_two 65 = .ok (.bipush 64, 2) := by decide +kernel
theorem dX8_two_67 : decode cX8_two 67 = .ok (.if_icmp .ne 18, 3) := by decide +kernel
theorem dX8_two_70 : decode cX8_two 70 = .ok (.aload_n 0, 1) := by decide +kernel
theorem dX8_two_71 : decode cX8_two 71 = .ok (.aload_n 0, 1) := by decide +kernel
theorem dX8_two_72 : decode cX8_two 72 = .ok (.getfield 54, 3) := by decide +kernel
theorem dX8_two_75 : decode cX8_two 75 = .ok (.iconst 1, 1) := by decide +kernel
theorem dX8_two_76 : decode cX8_two 76 = .ok (.iadd, 1) := by decide +kernel
theorem dX8_two_77 : decode cX8_two 77 = .ok (.putfield 54, 3) := by decide +kernel
theorem dX8_two_80 : decode cX8_two 80 = .ok (.bipush 20, 2) := by decide +kernel
theorem dX8_two_82 : decode cX8_two 82 = .ok (.iload_n 2, 1) := by decide +kernel
theorem dX8_two_83 : decode cX8_two 83 = .ok (.iadd, 1) := by decide +kernel
theorem dX8_two_84 : decode cX8_two 84 = .ok (.ireturn, 1) := by decide +kernel
theorem dX8_two_85 : decode cX8_two 85 = .ok (.iload_n 3, 1) := by decide +kernel
theorem dX8_two_86 : decode cX8_two 86 = .ok (.bipush 46, 2) := by decide +kernel
theorem dX8_two_88 : decode cX8_two 88 = .ok (.if_icmp .eq 5, 3) := by decide +kernel
theorem dX8_two_91 : decode cX8_two 91 = .ok (.iload_n 2, 1) := by decide +kernel
theorem dX8_two_92 : decode cX8_two 92 = .ok (.ireturn, 1) := by decide +kernel
theorem dX8_two_93 : decode cX8_two 93 = .ok (.aload_n 0, 1) := by decide +kernel
theorem dX8_two_94 : decode cX8_two 94 = .ok (.aload_n 0, 1) := by decide +kernel
theorem dX8_two_95 : decode cX8_two 95 = .ok (.getfield 54, 3) := by decide +kernel
theorem dX8_two_98 : decode cX8_two 98 = .ok (.iconst 1, 1) := by decide +kernel
theorem dX8_two_99 : decode cX8_two 99 = .ok (.iadd, 1) := by decide +kernel
theorem dX8_two_100 : decode cX8_two 100 = .ok (.putfield 54, 3) := by decide +kernel
theorem dX8_two_103 : decode cX8_two 103 = .ok (.aload_n 0, 1) := by decide +kernel
theorem dX8_two_104 : decode cX8_two 104 = .ok (.invokevirtual 63, 3) := by decide +kernel
theorem dX8_two_107 : decode cX8_two 107 = .ok (.invokestatic 75, 3) := by decide +kernel
theorem dX8_two_110 : decode cX8_two 110 = .ok (.istore 4, 2) := by decide +kernel
theorem dX8_two_112 : decode cX8_two 112 = .ok (.aload_n 0, 1) := by decide +kernel
theorem dX8_two_113 : decode cX8_two 113 = .ok (.aload_n 0, 1) := by decide +kernel
theorem dX8_two_114 : decode cX8_two 114 = .ok (.getfield 54, 3) := by decide +kernel
theorem dX8_two_117 : decode cX8_two 117 = .ok (.iconst 1, 1) := by decide +kernel
theorem dX8_two_118 : decode cX8_two 118 = .ok (.iadd, 1) := by decide +kernel
theorem dX8_two_119 : decode cX8_two 119 = .ok (.putfield 54, 3) := by decide +kernel
theorem dX8_two_122 : decode cX8_two 122 = .ok (.iload 4, 2) := by decide +kernel
theorem dX8_two_124 : decode cX8_two 124 = .ok (.ifCond .ge 7, 3) := by decide +kernel
theorem dX8_two_127 : decode cX8_two 127 = .ok (.iconst (-1), 1) := by decide +kernel
theorem dX8_two_128 : decode cX8_two 128 = .ok (.goto 13, 3) := by decide +kernel
theorem dX8_two_131 : decode cX8_two 131 = .ok (.bipush 100, 2) := by decide +kernel
theorem dX8_two_133 : decode cX8_two 133 = .ok (.bipush 10, 2) := by decide +kernel
theorem dX8_two_135 : decode cX8_two 135 = .ok (.iload_n 2, 1) := by decide +kernel
theorem dX8_two_136 : decode cX8_two 136 = .ok (.imul, 1) := by decide +kernel
theorem dX8_two_137 : decode cX8_two 137 = .ok (.iadd, 1) := by decide +kernel
theorem dX8_two_138 : decode cX8_two 138 = .ok (.iload 4, 2) := by decide +kernel
theorem dX8_two_140 : decode cX8_two 140 = .ok (.iadd, 1) := by decide +kernel
theorem dX8_two_141 : decode cX8_two 141 = .ok (.ireturn, 1) := by decide +kernel
theorem dX8_read_0 : decode cX8_read 0 = .ok (.iconst 0, 1) := by decide +kernel
theorem dX8_read_1 : decode cX8_read 1 = .ok (.istore_n 1, 1) := by decide +kernel
theorem dX8_read_2 : decode cX8_read 2 = .ok (.iconst 1, 1) := by decide +kernel
theorem dX8_read_3 : decode cX8_read 3 = .ok (.istore_n 2, 1) := by decide +kernel
theorem dX8_read_4 : decode cX8_read 4 = .ok (.iconst 0, 1) := by decide +kernel
theorem dX8_read_5 : decode cX8_read 5 = .ok (.istore_n 3, 1) := by decide +kernel
theorem dX8_read_6 : decode cX8_read 6 = .ok (.iload_n 3, 1) := by decide +kernel
theorem dX8_read_7 : decode cX8_read 7 = .ok (.sipush 201, 3) := by decide +kernel
theorem dX8_read_10 : decode cX8_read 10 = .ok (.if_icmp .ge 230, 3) := by decide +kernel
theorem dX8_read_13 : decode cX8_read 13 = .ok (.aload_n 0, 1) := by decide +kernel
theorem dX8_read_14 : decode cX8_read 14 = .ok (.invokevirtual 63, 3) := by decide +kernel
theorem dX8_read_17 : decode cX8_read 17 = .ok (.istore 4, 2) := by decide +kernel
theorem dX8_read_19 : decode cX8_read 19 = .ok (.iload 4, 2) := by decide +kernel
theorem dX8_read_21 : decode cX8_read 21 = .ok (.ifCond .ne 17, 3) := by decide +kernel
theorem dX8_read_24 : decode cX8_read 24 = .ok (.iload_n 2, 1) := by decide +kernel
theorem dX8_read_25 : decode cX8_read 25 = .ok (.ifCond .ne 11, 3) := by decide +kernel
theorem dX8_read_28 : decode cX8_read 28 = .ok (.iload_n 1, 1) := by decide +kernel
theorem dX8_read_29 : decode cX8_read 29 = .ok (.ifCond .ne 7, 3) := by decide +kernel
theorem dX8_read_32 : decode cX8_read 32 = .ok (.iconst 1, 1) := by decide +kernel
theorem dX8_read_33 : decode cX8_read 33 = .ok (.goto 4, 3) := by decide +kernel
theorem dX8_read_36 : decode cX8_read 36 = .ok (.iconst 0, 1) := by decide +kernel
theorem dX8_read_37 : decode cX8_read 37 = .ok (.ireturn, 1) := by decide +kernel
theorem dX8_read_38 : decode cX8_read 38 = .ok (.iload_n 2, 1) := by decide +kernel
theorem dX8_read_39 : decode cX8_read 39 = .ok (.ifCond .eq 135, 3) := by decide +kernel
theorem dX8_read_42 : decode cX8_read 42 = .ok (.iload 4, 2) := by decide +kernel
theorem dX8_read_44 : decode cX8_read 44 = .ok (.invokestatic 67, 3) := by decide +kernel
theorem dX8_read_47 : decode cX8_read 47 = .ok (.ifCond .ne 10, 3) := by decide +kernel
theorem dX8_read_50 : decode cX8_read 50 = .ok (.iload 4, 2) := by decide +kernel
theorem dX8_read_52 : decode cX8_read 52 = .ok (.bipush 95, 2) := by decide +kernel
theorem dX8_read_54 : decode cX8_read 54 = .ok (.if_icmp .ne 17, 3) := by decide +kernel
theorem dX8_read_57 : decode cX8_read 57 = .ok (.aload_n 0, 1) := by decide +kernel
theorem dX8_read_58 : decode cX8_read 58 = .ok (.invokevirtual 79, 3) := by decide +kernel
theorem dX8_read_61 : decode cX8_read 61 = .ok (.ifCond .ne 5, 3) := by decide +kernel
theorem dX8_read_64 : decode cX8_read 64 = .ok (.iconst 0, 1) := by decide +kernel
theorem dX8_read_65 : decode cX8_read 65 = .ok (.ireturn, 1) := by decide +kernel
theorem dX8_read_66 : decode cX8_read 66 = .ok (.iconst 0, 1) := by decide +kernel
theorem dX8_read_67 : decode cX8_read 67 = .ok (.istore_n 2, 1) := by decide +kernel
theorem dX8_read_68 : decode cX8_read 68 = .ok (.goto 166, 3) := by decide +kernel
theorem dX8_read_71 : decode cX8_read 71 = .ok (.iload 4, 2) := by decide +kernel
theorem dX8_read_73 : decode cX8_read 73 = .ok (.bipush 65, 2) := by decide +kernel
theorem dX8_read_75 : decode cX8_read 75 = .ok (.if_icmp .lt 36, 3) := by decide +kernel
theorem dX8_read_78 : decode cX8_read 78 = .ok (.iload 4, 2) := by decide +kernel
theorem dX8_read_80 : decode cX8_read 80 = .ok (.bipush 72, 2) := by decide +kernel
theorem dX8_read_82 : decode cX8_read 82 = .ok (.if_icmp .gt 29, 3) := by decide +kernel
theorem dX8_read_85 : decode cX8_read 85 = .ok (.aload_n 0, 1) := by decide +kernel
theorem dX8_read_86 : decode cX8_read 86 = .ok (.aload_n 0, 1) := by decide +kernel
theorem dX8_read_87 : decode cX8_read 87 = .ok (.getfield 54, 3) := by decide +kernel
theorem dX8_read_90 : decode cX8_read 90 = .ok (.iconst 1, 1) := by decide +kernel
theorem dX8_read_91 : decode cX8_read 91 = .ok (.iadd, 1) := by decide +kernel
theorem dX8_read_92 : decode cX8_read 92 = .ok (.putfield 54, 3) := by decide +kernel
theorem dX8_read_95 : decode cX8_read 95 = .ok (.aload_n 0, 1) := by decide +kernel
theorem dX8_read_96 : decode cX8_read 96 = .ok (.iconst 1, 1) := by decide +kernel
theorem dX8_read_97 : decode cX8_read 97 = .ok (.iload 4, 2) := by decide +kernel
theorem dX8_read_99 : decode cX8_read 99 = .ok (.bipush 65, 2) := by decide +kernel
theorem dX8_read_101 : decode cX8_read 101 = .ok (.isub, 1) := by decide +kernel
theorem dX8_read_102 : decode cX8_read 102 = .ok (.iconst 0, 1) := by decide +kernel
theorem dX8_read_103 : decode cX8_read 103 = .ok (.invokevirtual 71, 3) := by decide +kernel
theorem dX8_read_106 : decode cX8_read 106 = .ok (.iconst 0, 1) := by decide +kernel
theorem dX8_read_107 : decode cX8_read 107 = .ok (.istore_n 2, 1) := by decide +kernel
theorem dX8_read_108 : decode cX8_read 108 = .ok (.goto 126, 3) := by decide +kernel
theorem dX8_read_111 : decode cX8_read 111 = .ok (.iload 4, 2) := by decide +kernel
theorem dX8_read_113 : decode cX8_read 113 = .ok (.bipush 40, 2) := by decide +kernel
theorem dX8_read_115 : decode cX8_read 115 = .ok (.if_icmp .ne 35, 3) := by decide +kernel
theorem dX8_read_118 : decode cX8_read 118 = .ok (.aload_n 0, 1) := by decide +kernel
theorem dX8_read_119 : decode cX8_read 119 = .ok (.aload_n 0, 1) := by decide +kernel
theorem dX8_read_120 : decode cX8_read 120 = .ok (.getfield 54, 3) := by decide +kernel
theorem dX8_read_123 : decode cX8_read 123 = .ok (.iconst 1, 1) := by decide +kernel
theorem dX8_read_124 : decode cX8_read 124 = .ok (.iadd, 1) := by decide +kernel
theorem dX8_read_125 : decode cX8_read 125 = .ok (.putfield 54, 3) := by decide +kernel
theorem dX8_read_128 : decode cX8_read 128 = .ok (.iload_n 1, 1) := by decide +kernel
theorem dX8_read_129 : decode cX8_read 129 = .ok (.iconst 1, 1) := by decide +kernel
theorem dX8_read_130 : decode cX8_read 130 = .ok (.iadd, 1) := by decide +kernel
theorem dX8_read_131 : decode cX8_read 131 = .ok (.istore_n 1, 1) := by decide +kernel
theorem dX8_read_132 : decode cX8_read 132 = .ok (.iload_n 1, 1) := by decide +kernel
theorem dX8_read_133 : decode cX8_read 133 = .ok (.bipush 6, 2) := by decide +kernel
theorem dX8_read_135 : decode cX8_read 135 = .ok (.if_icmp .le 5, 3) := by decide +kernel
theorem dX8_read_138 : decode cX8_read 138 = .ok (.iconst 0, 1) := by decide +kernel
theorem dX8_read_139 : decode cX8_read 139 = .ok (.ireturn, 1) := by decide +kernel
theorem dX8_read_140 : decode cX8_read 140 = .ok (.aload_n 0, 1) := by decide +kernel
theorem dX8_read_141 : decode cX8_read 141 = .ok (.iconst 2, 1) := by decide +kernel
theorem dX8_read_142 : decode cX8_read 142 = .ok (.iconst 0, 1) := by decide +kernel
theorem dX8_read_143 : decode cX8_read 143 = .ok (.iconst 0, 1) := by decide +kernel
theorem dX8_read_144 : decode cX8_read 144 = .ok (.invokevirtual 71, 3) := by decide +kernel
theorem dX8_read_147 : decode cX8_read 147 = .ok (.goto 87, 3) := by decide +kernel
theorem dX8_read_150 : decode cX8_read 150 = .ok (.aload_n 0, 1) := by decide +kernel
theorem dX8_read_151 : decode cX8_read 151 = .ok (.invokevirtual 82, 3) := by decide +kernel
theorem dX8_read_154 : decode cX8_read 154 = .ok (.istore 5, 2) := by decide +kernel
theorem dX8_read_156 : decode cX8_read 156 = .ok (.iload 5, 2) := by decide +kernel
theorem dX8_read_158 : decode cX8_read 158 = .ok (.ifCond .ge 5, 3) := by decide +kernel
theorem dX8_read_161 : decode cX8_read 161 = .ok (.iconst 0, 1) := by decide +kernel
theorem dX8_read_162 : decode cX8_read 162 = .ok (.ireturn, 1) := by decide +kernel
theorem dX8_read_163 : decode cX8_read 163 = .ok (.aload_n 0, 1) := by decide +kernel
theorem dX8_read_164 : decode cX8_read 164 = .ok (.iconst 5, 1) := by decide +kernel
theorem dX8_read_165 : decode cX8_read 165 = .ok (.iload 5, 2) := by decide +kernel
theorem dX8_read_167 : decode cX8_read 167 = .ok (.iconst 0, 1) := by decide +kernel
theorem dX8_read_168 : decode cX8_read 168 = .ok (.invokevirtual 71, 3) := by decide +kernel
theorem dX8_read_171 : decode cX8_read 171 = .ok (.goto 63, 3) := by decide +kernel
theorem dX8_read_174 : decode cX8_read 174 = .ok (.iload 4, 2) := by decide +kernel
theorem dX8_read_176 : decode cX8_read 176 = .ok (.bipush 41, 2) := by decide +kernel
theorem dX8_read_178 : decode cX8_read 178 = .ok (.if_icmp .ne 33, 3) := by decide +kernel
theorem dX8_read_181 : decode cX8_read 181 = .ok (.aload_n 0, 1) := by decide +kernel
theorem dX8_read_182 : decode cX8_read 182 = .ok (.aload_n 0, 1) := by decide +kernel
theorem dX8_read_183 : decode cX8_read 183 = .ok (.getfield 54, 3) := by decide +kernel
theorem dX8_read_186 : decode cX8_read 186 = .ok (.iconst 1, 1) := by decide +kernel
theorem dX8_read_187 : decode cX8_read 187 = .ok (.iadd, 1) := by decide +kernel
theorem dX8_read_188 : decode cX8_read 188 = .ok (.putfield 54, 3) := by decide +kernel
theorem dX8_read_191 : decode cX8_read 191 = .ok (.iload_n 1, 1) := by decide +kernel
theorem dX8_read_192 : decode cX8_read 192 = .ok (.iconst 1, 1) := by decide +kernel
theorem dX8_read_193 : decode cX8_read 193 = .ok (.isub, 1) := by decide +kernel
theorem dX8_read_194 : decode cX8_read 194 = .ok (.istore_n 1, 1) := by decide +kernel
theorem dX8_read_195 : decode cX8_read 195 = .ok (.iload_n 1, 1) := by decide +kernel
theorem dX8_read_196 : decode cX8_read 196 = .ok (.ifCond .ge 5, 3) := by decide +kernel
theorem dX8_read_199 : decode cX8_read 199 = .ok (.iconst 0, 1) := by decide +kernel
theorem dX8_read_200 : decode cX8_read 200 = .ok (.ireturn, 1) := by decide +kernel
theorem dX8_read_201 : decode cX8_read 201 = .ok (.aload_n 0, 1) := by decide +kernel
theorem dX8_read_202 : decode cX8_read 202 = .ok (.iconst 3, 1) := by decide +kernel
theorem dX8_read_203 : decode cX8_read 203 = .ok (.iconst 0, 1) := by decide +kernel
theorem dX8_read_204 : decode cX8_read 204 = .ok (.iconst 0, 1) := by decide +kernel
theorem dX8_read_205 : decode cX8_read 205 = .ok (.invokevirtual 71, 3) := by decide +kernel
theorem dX8_read_208 : decode cX8_read 208 = .ok (.goto 26, 3) := by decide +kernel
theorem dX8_read_211 : decode cX8_read 211 = .ok (.aload_n 0, 1) := by decide +kernel
theorem dX8_read_212 : decode cX8_read 212 = .ok (.invokevirtual 85, 3) := by decide +kernel
theorem dX8_read_215 : decode cX8_read 215 = .ok (.istore 5, 2) := by decide +kernel
theorem dX8_read_217 : decode cX8_read 217 = .ok (.iload 5, 2) := by decide +kernel
theorem dX8_read_219 : decode cX8_read 219 = .ok (.ifCond .ge 5, 3) := by decide +kernel
theorem dX8_read_222 : decode cX8_read 222 = .ok (.iconst 0, 1) := by decide +kernel
theorem dX8_read_223 : decode cX8_read 223 = .ok (.ireturn, 1) := by decide +kernel
theorem dX8_read_224 : decode cX8_read 224 = .ok (.aload_n 0, 1) := by decide +kernel
theorem dX8_read_225 : decode cX8_read 225 = .ok (.iconst 4, 1) := by decide +kernel
theorem dX8_read_226 : decode cX8_read 226 = .ok (.iload 5, 2) := by decide +kernel
theorem dX8_read_228 : decode cX8_read 228 = .ok (.iconst 0, 1) := by decide +kernel
theorem dX8_read_229 : decode cX8_read 229 = .ok (.invokevirtual 71, 3) := by decide +kernel
theorem dX8_read_232 : decode cX8_read 232 = .ok (.iconst 1, 1) := by decide +kernel
theorem dX8_read_233 : decode cX8_read 233 = .ok (.istore_n 2, 1) := by decide +kernel
theorem dX8_read_234 : decode cX8_read 234 = .ok (.iinc 3 1, 3) := by decide +kernel
theorem dX8_read_237 : decode cX8_read 237 = .ok (.goto (-231), 3) := by decide +kernel
theorem dX8_read_240 : decode cX8_read 240 = .ok (.iconst 0, 1) := by decide +kernel
theorem dX8_read_241 : decode cX8_read 241 = .ok (.ireturn, 1) := by decide +kernel
theorem dX8_axisOf_0 : decode cX8_axisOf 0 = .ok (.aload_n 0, 1) := by decide +kernel
theorem dX8_axisOf_1 : decode cX8_axisOf 1 = .ok (.getfield 16, 3) := by decide +kernel
theorem dX8_axisOf_4 : decode cX8_axisOf 4 = .ok (.iconst 3, 1) := by decide +kernel
theorem dX8_axisOf_5 : decode cX8_axisOf 5 = .ok (.iload_n 1, 1) := by decide +kernel
theorem dX8_axisOf_6 : decode cX8_axisOf 6 = .ok (.imul, 1) := by decide +kernel
theorem dX8_axisOf_7 : decode cX8_axisOf 7 = .ok (.iload_n 2, 1) := by decide +kernel
theorem dX8_axisOf_8 : decode cX8_axisOf 8 = .ok (.iadd, 1) := by decide +kernel
theorem dX8_axisOf_9 : decode cX8_axisOf 9 = .ok (.iaload, 1) := by decide +kernel
theorem dX8_axisOf_10 : decode cX8_axisOf 10 = .ok (.ireturn, 1) := by decide +kernel
theorem dX8_sizeOf_0 : decode cX8_sizeOf 0 = .ok (.iconst 1, 1) := by decide +kernel
theorem dX8_sizeOf_1 : decode cX8_sizeOf 1 = .ok (.istore_n 2, 1) := by decide +kernel
theorem dX8_sizeOf_2 : decode cX8_sizeOf 2 = .ok (.iconst 0, 1) := by decide +kernel
theorem dX8_sizeOf_3 : decode cX8_sizeOf 3 = .ok (.istore_n 3, 1) := by decide +kernel
theorem dX8_sizeOf_4 : decode cX8_sizeOf 4 = .ok (.iload_n 3, 1) := by decide +kernel
theorem dX8_sizeOf_5 : decode cX8_sizeOf 5 = .ok (.aload_n 0, 1) := by decide +kernel
theorem dX8_sizeOf_6 : decode cX8_sizeOf 6 = .ok (.getfield 13, 3) := by decide +kernel
theorem dX8_sizeOf_9 : decode cX8_sizeOf 9 = .ok (.iload_n 1, 1) := by decide +kernel
theorem dX8_sizeOf_10 : decode cX8_sizeOf 10 = .ok (.iaload, 1) := by decide +kernel
theorem dX8_sizeOf_11 : decode cX8_sizeOf 11 = .ok (.if_icmp .ge 18, 3) := by decide +kernel
theorem dX8_sizeOf_14 : decode cX8_sizeOf 14 = .ok (.iload_n 2, 1) := by decide +kernel
theorem dX8_sizeOf_15 : decode cX8_sizeOf 15 = .ok (.aload_n 0, 1) := by decide +kernel
theorem dX8_sizeOf_16 : decode cX8_sizeOf 16 = .ok (.iload_n 1, 1) := by decide +kernel
theorem dX8_sizeOf_17 : decode cX8_sizeOf 17 = .ok (.iload_n 3, 1) := by decide +kernel
theorem dX8_sizeOf_18 : decode cX8_sizeOf 18 = .ok (.invokevirtual 88, 3) := by decide +kernel
theorem dX8_sizeOf_21 : decode cX8_sizeOf 21 = .ok (.imul, 1) := by decide +kernel
theorem dX8_sizeOf_22 : decode cX8_sizeOf 22 = .ok (.istore_n 2, 1) := by decide +kernel
theorem dX8_sizeOf_23 : decode cX8_sizeOf 23 = .ok (.iinc 3 1, 3) := by decide +kernel
theorem dX8_sizeOf_26 : decode cX8_sizeOf 26 = .ok (.goto (-22), 3) := by decide +kernel
theorem dX8_sizeOf_29 : decode cX8_sizeOf 29 = .ok (.iload_n 2, 1) := by decide +kernel
theorem dX8_sizeOf_30 : decode cX8_sizeOf 30 = .ok (.ireturn, 1) := by decide +kernel
theorem dX8_copy_0 : decode cX8_copy 0 = .ok (.aload_n 0, 1) := by decide +kernel
theorem dX8_copy_1 : decode cX8_copy 1 = .ok (.getfield 13, 3) := by decide +kernel
theorem dX8_copy_4 : decode cX8_copy 4 = .ok (.iload_n 2, 1) := by decide +kernel
theorem dX8_copy_5 : decode cX8_copy 5 = .ok (.aload_n 0, 1) := by decide +kernel
theorem dX8_copy_6 : decode cX8_copy 6 = .ok (.getfield 13, 3) := by decide +kernel
theorem dX8_copy_9 : decode cX8_copy 9 = .ok (.iload_n 1, 1) := by decide +kernel
theorem dX8_copy_10 : decode cX8_copy 10 = .ok (.iaload, 1) := by decide +kernel
theorem dX8_copy_11 : decode cX8_copy 11 = .ok (.iastore, 1) := by decide +kernel
theorem dX8_copy_12 : decode cX8_copy 12 = .ok (.iconst 0, 1) := by decide +kernel
theorem dX8_copy_13 : decode cX8_copy 13 = .ok (.istore_n 3, 1) := by decide +kernel
theorem dX8_copy_14 : decode cX8_copy 14 = .ok (.iload_n 3, 1) := by decide +kernel
theorem dX8_copy_15 : decode cX8_copy 15 = .ok (.iconst 3, 1) := by decide +kernel
theorem dX8_copy_16 : decode cX8_copy 16 = .ok (.if_icmp .ge 29, 3) := by decide +kernel
theorem dX8_copy_19 : decode cX8_copy 19 = .ok (.aload_n 0, 1) := by decide +kernel
theorem dX8_copy_20 : decode cX8_copy 20 = .ok (.getfield 16, 3) := by decide +kernel
theorem dX8_copy_23 : decode cX8_copy 23 = .ok (.iconst 3, 1) := by decide +kernel
theorem dX8_copy_24 : decode cX8_copy 24 = .ok (.iload_n 2, 1) := by decide +kernel
theorem dX8_copy_25 : decode cX8_copy 25 = .ok (.imul, 1) := by decide +kernel
theorem dX8_copy_26 : decode cX8_copy 26 = .ok (.iload_n 3, 1) := by decide +kernel
theorem dX8_copy_27 : decode cX8_copy 27 = .ok (.iadd, 1) := by decide +kernel
theorem dX8_copy_28 : decode cX8_copy 28 = .ok (.aload_n 0, 1) := by decide +kernel
theorem dX8_copy_29 : decode cX8_copy 29 = .ok (.getfield 16, 3) := by decide +kernel
theorem dX8_copy_32 : decode cX8_copy 32 = .ok (.iconst 3, 1) := by decide +kernel
theorem dX8_copy_33 : decode cX8_copy 33 = .ok (.iload_n 1, 1) := by decide +kernel
theorem dX8_copy_34 : decode cX8_copy 34 = .ok (.imul, 1) := by decide +kernel
theorem dX8_copy_35 : decode cX8_copy 35 = .ok (.iload_n 3, 1) := by decide +kernel
theorem dX8_copy_36 : decode cX8_copy 36 = .ok (.iadd, 1) := by decide +kernel
theorem dX8_copy_37 : decode cX8_copy 37 = .ok (.iaload, 1) := by decide +kernel
theorem dX8_copy_38 : decode cX8_copy 38 = .ok (.iastore, 1) := by decide +kernel
theorem dX8_copy_39 : decode cX8_copy 39 = .ok (.iinc 3 1, 3) := by decide +kernel
theorem dX8_copy_42 : decode cX8_copy 42 = .ok (.goto (-28), 3) := by decide +kernel
theorem dX8_copy_45 : decode cX8_copy 45 = .ok (.iconst 0, 1) := by decide +kernel
theorem dX8_copy_46 : decode cX8_copy 46 = .ok (.istore_n 3, 1) := by decide +kernel
theorem dX8_copy_47 : decode cX8_copy 47 = .ok (.iload_n 3, 1) := by decide +kernel
theorem dX8_copy_48 : decode cX8_copy 48 = .ok (.bipush 48, 2) := by decide +kernel
theorem dX8_copy_50 : decode cX8_copy 50 = .ok (.if_icmp .ge 31, 3) := by decide +kernel
theorem dX8_copy_53 : decode cX8_copy 53 = .ok (.aload_n 0, 1) := by decide +kernel
theorem dX8_copy_54 : decode cX8_copy 54 = .ok (.getfield 19, 3) := by decide +kernel
theorem dX8_copy_57 : decode cX8_copy 57 = .ok (.bipush 48, 2) := by decide +kernel
theorem dX8_copy_59 : decode cX8_copy 59 = .ok (.iload_n 2, 1) := by decide +kernel
theorem dX8_copy_60 : decode cX8_copy 60 = .ok (.imul, 1) := by decide +kernel
theorem dX8_copy_61 : decode cX8_copy 61 = .ok (.iload_n 3, 1) := by decide +kernel
theorem dX8_copy_62 : decode cX8_copy 62 = .ok (.iadd, 1) := by decide +kernel
theorem dX8_copy_63 : decode cX8_copy 63 = .ok (.aload_n 0, 1) := by decide +kernel
theorem dX8_copy_64 : decode cX8_copy 64 = .ok (.getfield 19, 3) := by decide +kernel
theorem dX8_copy_67 : decode cX8_copy 67 = .ok (.bipush 48, 2) := by decide +kernel
theorem dX8_copy_69 : decode cX8_copy 69 = .ok (.iload_n 1, 1) := by decide +kernel
theorem dX8_copy_70 : decode cX8_copy 70 = .ok (.imul, 1) := by decide +kernel
theorem dX8_copy_71 : decode cX8_copy 71 = .ok (.iload_n 3, 1) := by decide +kernel
theorem dX8_copy_72 : decode cX8_copy 72 = .ok (.iadd, 1) := by decide +kernel
theorem dX8_copy_73 : decode cX8_copy 73 = .ok (.iaload, 1) := by decide +kernel
theorem dX8_copy_74 : decode cX8_copy 74 = .ok (.iastore, 1) := by decide +kernel
theorem dX8_copy_75 : decode cX8_copy 75 = .ok (.iinc 3 1, 3) := by decide +kernel
theorem dX8_copy_78 : decode cX8_copy 78 = .ok (.goto (-31), 3) := by decide +kernel
theorem dX8_copy_81 : decode cX8_copy 81 = .ok (.return_, 1) := by decide +kernel
theorem dX8_get_0 : decode cX8_get 0 = .ok (.aload_n 0, 1) := by decide +kernel
theorem dX8_get_1 : decode cX8_get 1 = .ok (.getfield 19, 3) := by decide +kernel
theorem dX8_get_4 : decode cX8_get 4 = .ok (.bipush 48, 2) := by decide +kernel
theorem dX8_get_6 : decode cX8_get 6 = .ok (.iload_n 1, 1) := by decide +kernel
theorem dX8_get_7 : decode cX8_get 7 = .ok (.imul, 1) := by decide +kernel
theorem dX8_get_8 : decode cX8_get 8 = .ok (.iload_n 2, 1) := by decide +kernel
theorem dX8_get_9 : decode cX8_get 9 = .ok (.iadd, 1) := by decide +kernel
theorem dX8_get_10 : decode cX8_get 10 = .ok (.iaload, 1) := by decide +kernel
theorem dX8_get_11 : decode cX8_get 11 = .ok (.ireturn, 1) := by decide +kernel
theorem dX8_set_0 : decode cX8_set 0 = .ok (.aload_n 0, 1) := by decide +kernel
theorem dX8_set_1 : decode cX8_set 1 = .ok (.getfield 19, 3) := by decide +kernel
theorem dX8_set_4 : decode cX8_set 4 = .ok (.bipush 48, 2) := by decide +kernel
theorem dX8_set_6 : decode cX8_set 6 = .ok (.iload_n 1, 1) := by decide +kernel
theorem dX8_set_7 : decode cX8_set 7 = .ok (.imul, 1) := by decide +kernel
theorem dX8_set_8 : decode cX8_set 8 = .ok (.iload_n 2, 1) := by decide +kernel
theorem dX8_set_9 : decode cX8_set 9 = .ok (.iadd, 1) := by decide +kernel
theorem dX8_set_10 : decode cX8_set 10 = .ok (.iload_n 3, 1) := by decide +kernel
theorem dX8_set_11 : decode cX8_set 11 = .ok (.iastore, 1) := by decide +kernel
theorem dX8_set_12 : decode cX8_set 12 = .ok (.return_, 1) := by decide +kernel
theorem dX8_stop_0 : decode cX8_stop 0 = .ok (.aload_n 0, 1) := by decide +kernel
theorem dX8_stop_1 : decode cX8_stop 1 = .ok (.iload_n 1, 1) := by decide +kernel
theorem dX8_stop_2 : decode cX8_stop 2 = .ok (.putfield 92, 3) := by decide +kernel
theorem dX8_stop_5 : decode cX8_stop 5 = .ok (.iconst 0, 1) := by decide +kernel
theorem dX8_stop_6 : decode cX8_stop 6 = .ok (.ireturn, 1) := by decide +kernel
theorem dX8_shape_0 : decode cX8_shape 0 = .ok (.aload_n 0, 1) := by decide +kernel
theorem dX8_shape_1 : decode cX8_shape 1 = .ok (.getfield 13, 3) := by decide +kernel
theorem dX8_shape_4 : decode cX8_shape 4 = .ok (.bipush 8, 2) := by decide +kernel
theorem dX8_shape_6 : decode cX8_shape 6 = .ok (.iload_n 1, 1) := by decide +kernel
theorem dX8_shape_7 : decode cX8_shape 7 = .ok (.iastore, 1) := by decide +kernel
theorem dX8_shape_8 : decode cX8_shape 8 = .ok (.aload_n 0, 1) := by decide +kernel
theorem dX8_shape_9 : decode cX8_shape 9 = .ok (.getfield 16, 3) := by decide +kernel
theorem dX8_shape_12 : decode cX8_shape 12 = .ok (.bipush 24, 2) := by decide +kernel
theorem dX8_shape_14 : decode cX8_shape 14 = .ok (.iload_n 2, 1) := by decide +kernel
theorem dX8_shape_15 : decode cX8_shape 15 = .ok (.iastore, 1) := by decide +kernel
theorem dX8_shape_16 : decode cX8_shape 16 = .ok (.aload_n 0, 1) := by decide +kernel
theorem dX8_shape_17 : decode cX8_shape 17 = .ok (.getfield 16, 3) := by decide +kernel
theorem dX8_shape_20 : decode cX8_shape 20 = .ok (.bipush 25, 2) := by decide +kernel
theorem dX8_shape_22 : decode cX8_shape 22 = .ok (.iload_n 3, 1) := by decide +kernel
theorem dX8_shape_23 : decode cX8_shape 23 = .ok (.iastore, 1) := by decide +kernel
theorem dX8_shape_24 : decode cX8_shape 24 = .ok (.aload_n 0, 1) := by decide +kernel
theorem dX8_shape_25 : decode cX8_shape 25 = .ok (.getfield 16, 3) := by decide +kernel
theorem dX8_shape_28 : decode cX8_shape 28 = .ok (.bipush 26, 2) := by decide +kernel
theorem dX8_shape_30 : decode cX8_shape 30 = .ok (.iload 4, 2) := by decide +kernel
theorem dX8_shape_32 : decode cX8_shape 32 = .ok (.iastore, 1) := by decide +kernel
theorem dX8_shape_33 : decode cX8_shape 33 = .ok (.iconst 0, 1) := by decide +kernel
theorem dX8_shape_34 : decode cX8_shape 34 = .ok (.istore 5, 2) := by decide +kernel
theorem dX8_shape_36 : decode cX8_shape 36 = .ok (.iload 5, 2) := by decide +kernel
theorem dX8_shape_38 : decode cX8_shape 38 = .ok (.iload_n 1, 1) := by decide +kernel
theorem dX8_shape_39 : decode cX8_shape 39 = .ok (.if_icmp .ge 28, 3) := by decide +kernel
theorem dX8_shape_42 : decode cX8_shape 42 = .ok (.aload_n 0, 1) := by decide +kernel
theorem dX8_shape_43 : decode cX8_shape 43 = .ok (.bipush 8, 2) := by decide +kernel
theorem dX8_shape_45 : decode cX8_shape 45 = .ok (.iload 5, 2) := by decide +kernel
theorem dX8_shape_47 : decode cX8_shape 47 = .ok (.invokevirtual 88, 3) := by decide +kernel
theorem dX8_shape_50 : decode cX8_shape 50 = .ok (.bipush 48, 2) := by decide +kernel
theorem dX8_shape_52 : decode cX8_shape 52 = .ok (.if_icmp .le 9, 3) := by decide +kernel
theorem dX8_shape_55 : decode cX8_shape 55 = .ok (.aload_n 0, 1) := by decide +kernel
theorem dX8_shape_56 : decode cX8_shape 56 = .ok (.iconst 1, 1) := by decide +kernel
theorem dX8_shape_57 : decode cX8_shape 57 = .ok (.invokevirtual 95, 3) := by decide +kernel
theorem dX8_shape_60 : decode cX8_shape 60 = .ok (.ireturn, 1) := by decide +kernel
theorem dX8_shape_61 : decode cX8_shape 61 = .ok (.iinc 5 1, 3) := by decide +kernel
theorem dX8_shape_64 : decode cX8_shape 64 = .ok (.goto (-28), 3) := by decide +kernel
theorem dX8_shape_67 : decode cX8_shape 67 = .ok (.aload_n 0, 1) := by decide +kernel
theorem dX8_shape_68 : decode cX8_shape 68 = .ok (.bipush 8, 2) := by decide +kernel
theorem dX8_shape_70 : decode cX8_shape 70 = .ok (.invokevirtual 98, 3) := by decide +kernel
theorem dX8_shape_73 : decode cX8_shape 73 = .ok (.bipush 48, 2) := by decide +kernel
theorem dX8_shape_75 : decode cX8_shape 75 = .ok (.if_icmp .le 11, 3) := by decide +kernel
theorem dX8_shape_78 : decode cX8_shape 78 = .ok (.aload_n 0, 1) := by decide +kernel
theorem dX8_shape_79 : decode cX8_shape 79 = .ok (.iconst 1, 1) := by decide +kernel
theorem dX8_shape_80 : decode cX8_shape 80 = .ok (.invokevirtual 95, 3) := by decide +kernel
theorem dX8_shape_83 : decode cX8_shape 83 = .ok (.ifCond .eq 7, 3) := by decide +kernel
theorem dX8_shape_86 : decode cX8_shape 86 = .ok (.iconst 1, 1) := by decide +kernel
theorem dX8_shape_87 : decode cX8_shape 87 = .ok (.goto 4, 3) := by decide +kernel
theorem dX8_shape_90 : decode cX8_shape 90 = .ok (.iconst 0, 1) := by decide +kernel
theorem dX8_shape_91 : decode cX8_shape 91 = .ok (.ireturn, 1) := by decide +kernel
theorem dX8_ofInt_0 : decode cX8_ofInt 0 = .ok (.lload_n 1, 1) := by decide +kernel
theorem dX8_ofInt_1 : decode cX8_ofInt 1 = .ok (.lload_n 1, 1) := by decide +kernel
theorem dX8_ofInt_2 : decode cX8_ofInt 2 = .ok (.l2i, 1) := by decide +kernel
theorem dX8_ofInt_3 : decode cX8_ofInt 3 = .ok (.i2l, 1) := by decide +kernel
theorem dX8_ofInt_4 : decode cX8_ofInt 4 = .ok (.lcmp, 1) := by decide +kernel
theorem dX8_ofInt_5 : decode cX8_ofInt 5 = .ok (.ifCond .eq 8, 3) := by decide +kernel
theorem dX8_ofInt_8 : decode cX8_ofInt 8 = .ok (.aload_n 0, 1) := by decide +kernel
theorem dX8_ofInt_9 : decode cX8_ofInt 9 = .ok (.iconst 1, 1) := by decide +kernel
theorem dX8_ofInt_10 : decode cX8_ofInt 10 = .ok (.putfield 92, 3) := by decide +kernel
theorem dX8_ofInt_13 : decode cX8_ofInt 13 = .ok (.lload_n 1, 1) := by decide +kernel
theorem dX8_ofInt_14 : decode cX8_ofInt 14 = .ok (.l2i, 1) := by decide +kernel
theorem dX8_ofInt_15 : decode cX8_ofInt 15 = .ok (.ireturn, 1) := by decide +kernel
theorem dX8_number_0 : decode cX8_number 0 = .ok (.iload_n 1, 1) := by decide +kernel
theorem dX8_number_1 : decode cX8_number 1 = .ok (.tableswitch 224 0 8 #[51, 60, 69, 78, 110, 170, 183, 196, 209], 51) := by decide +kernel
theorem dX8_number_52 : decode cX8_number 52 = .ok (.aload_n 0, 1) := by decide +kernel
theorem dX8_number_53 : decode cX8_number 53 = .ok (.lload_n 2, 1) := by decide +kernel
theorem dX8_number_54 : decode cX8_number 54 = .ok (.lload 4, 2) := by decide +kernel
theorem dX8_number_56 : decode cX8_number 56 = .ok (.ladd, 1) := by decide +kernel
theorem dX8_number_57 : decode cX8_number 57 = .ok (.invokevirtual 101, 3) := by decide +kernel
theorem dX8_number_60 : decode cX8_number 60 = .ok (.ireturn, 1) := by decide +kernel
theorem dX8_number_61 : decode cX8_number 61 = .ok (.aload_n 0, 1) := by decide +kernel
theorem dX8_number_62 : decode cX8_number 62 = .ok (.lload_n 2, 1) := by decide +kernel
theorem dX8_number_63 : decode cX8_number 63 = .ok (.lload 4, 2) := by decide +kernel
theorem dX8_number_65 : decode cX8_number 65 = .ok (.lsub, 1) := by decide +kernel
theorem dX8_number_66 : decode cX8_number 66 = .ok (.invokevirtual 101, 3) := by decide +kernel
theorem dX8_number_69 : decode cX8_number 69 = .ok (.ireturn, 1) := by decide +kernel
theorem dX8_number_70 : decode cX8_number 70 = .ok (.aload_n 0, 1) := by decide +kernel
theorem dX8_number_71 : decode cX8_number 71 = .ok (.lload_n 2, 1) := by decide +kernel
theorem dX8_number_72 : decode cX8_number 72 = .ok (.lload 4, 2) := by decide +kernel
theorem dX8_number_74 : decode cX8_number 74 = .ok (.lmul, 1) := by decide +kernel
theorem dX8_number_75 : decode cX8_number 75 = .ok (.invokevirtual 101, 3) := by decide +kernel
theorem dX8_number_78 : decode cX8_number 78 = .ok (.ireturn, 1) := by decide +kernel
theorem dX8_number_79 : decode cX8_number 79 = .ok (.lload 4, 2) := by decide +kernel
theorem dX8_number_81 : decode cX8_number 81 = .ok (.lconst 0, 1) := by decide +kernel
theorem dX8_number_82 : decode cX8_number 82 = .ok (.lcmp, 1) := by decide +kernel
theorem dX8_number_83 : decode cX8_number 83 = .ok (.ifCond .eq 12, 3) := by decide +kernel
theorem dX8_number_86 : decode cX8_number 86 = .ok (.lload_n 2, 1) := by decide +kernel
theorem dX8_number_87 : decode cX8_number 87 = .ok (.lload 4, 2) := by decide +kernel
theorem dX8_number_89 : decode cX8_number 89 = .ok (.lrem, 1) := by decide +kernel
theorem dX8_number_90 : decode cX8_number 90 = .ok (.lconst 0, 1) := by decide +kernel
theorem dX8_number_91 : decode cX8_number 91 = .ok (.lcmp, 1) := by decide +kernel
theorem dX8_number_92 : decode cX8_number 92 = .ok (.ifCond .eq 10, 3) := by decide +kernel
theorem dX8_number_95 : decode cX8_number 95 = .ok (.aload_n 0, 1) := by decide +kernel
theorem dX8_number_96 : decode cX8_number 96 = .ok (.iconst 2, 1) := by decide +kernel
theorem dX8_number_97 : decode cX8_number 97 = .ok (.putfield 92, 3) := by decide +kernel
theorem dX8_number_100 : decode cX8_number 100 = .ok (.iconst 0, 1) := by decide +kernel
theorem dX8_number_101 : decode cX8_number 101 = .ok (.ireturn, 1) := by decide +kernel
theorem dX8_number_102 : decode cX8_number 102 = .ok (.aload_n 0, 1) := by decide +kernel
theorem dX8_number_103 : decode cX8_number 103 = .ok (.lload_n 2, 1) := by decide +kernel
theorem dX8_number_104 : decode cX8_number 104 = .ok (.lload 4, 2) := by decide +kernel
theorem dX8_number_106 : decode cX8_number 106 = .ok (.ldiv, 1) := by decide +kernel
theorem dX8_number_107 : decode cX8_number 107 = .ok (.invokevirtual 101, 3) := by decide +kernel
theorem dX8_number_110 : decode cX8_number 110 = .ok (.ireturn, 1) := by decide +kernel
theorem dX8_number_111 : decode cX8_number 111 = .ok (.lload_n 2, 1) := by decide +kernel
theorem dX8_number_112 : decode cX8_number 112 = .ok (.lconst 0, 1) := by decide +kernel
theorem dX8_number_113 : decode cX8_number 113 = .ok (.lcmp, 1) := by decide +kernel
theorem dX8_number_114 : decode cX8_number 114 = .ok (.ifCond .ne 7, 3) := by decide +kernel
theorem dX8_number_117 : decode cX8_number 117 = .ok (.lload 4, 2) := by decide +kernel
theorem dX8_number_119 : decode cX8_number 119 = .ok (.l2i, 1) := by decide +kernel
theorem dX8_number_120 : decode cX8_number 120 = .ok (.ireturn, 1) := by decide +kernel
theorem dX8_number_121 : decode cX8_number 121 = .ok (.lload 4, 2) := by decide +kernel
theorem dX8_number_123 : decode cX8_number 123 = .ok (.lload_n 2, 1) := by decide +kernel
theorem dX8_number_124 : decode cX8_number 124 = .ok (.lrem, 1) := by decide +kernel
theorem dX8_number_125 : decode cX8_number 125 = .ok (.lstore 6, 2) := by decide +kernel
theorem dX8_number_127 : decode cX8_number 127 = .ok (.lload 6, 2) := by decide +kernel
theorem dX8_number_129 : decode cX8_number 129 = .ok (.lconst 0, 1) := by decide +kernel
theorem dX8_number_130 : decode cX8_number 130 = .ok (.lcmp, 1) := by decide +kernel
theorem dX8_number_131 : decode cX8_number 131 = .ok (.ifCond .eq 36, 3) := by decide +kernel
theorem dX8_number_134 : decode cX8_number 134 = .ok (.lload 6, 2) := by decide +kernel
theorem dX8_number_136 : decode cX8_number 136 = .ok (.lconst 0, 1) := by decide +kernel
theorem dX8_number_137 : decode cX8_number 137 = .ok (.lcmp, 1) := by decide +kernel
theorem dX8_number_138 : decode cX8_number 138 = .ok (.ifCond .ge 7, 3) := by decide +kernel
theorem dX8_number_141 : decode cX8_number 141 = .ok (.iconst 1, 1) := by decide +kernel
theorem dX8_number_142 : decode cX8_number 142 = .ok (.goto 4, 3) := by decide +kernel
theorem dX8_number_145 : decode cX8_number 145 = .ok (.iconst 0, 1) := by decide +kernel
theorem dX8_number_146 : decode cX8_number 146 = .ok (.lload_n 2, 1) := by decide +kernel
theorem dX8_number_147 : decode cX8_number 147 = .ok (.lconst 0, 1) := by decide +kernel
theorem dX8_number_148 : decode cX8_number 148 = .ok (.lcmp, 1) := by decide +kernel
theorem dX8_number_149 : decode cX8_number 149 = .ok (.ifCond .ge 7, 3) := by decide +kernel
theorem dX8_number_152 : decode cX8_number 152 = .ok (.iconst 1, 1) := by decide +kernel
theorem dX8_number_153 : decode cX8_number 153 = .ok (.goto 4, 3) := by decide +kernel
theorem dX8_number_156 : decode cX8_number 156 = .ok (.iconst 0, 1) := by decide +kernel
theorem dX8_number_157 : decode cX8_number 157 = .ok (.if_icmp .eq 10, 3) := by decide +kernel
theorem dX8_number_160 : decode cX8_number 160 = .ok (.lload 6, 2) := by decide +kernel
theorem dX8_number_162 : decode cX8_number 162 = .ok (.lload_n 2, 1) := by decide +kernel
theorem dX8_number_163 : decode cX8_number 163 = .ok (.ladd, 1) := by decide +kernel
theorem dX8_number_164 : decode cX8_number 164 = .ok (.goto 5, 3) := by decide +kernel
theorem dX8_number_167 : decode cX8_number 167 = .ok (.lload 6, 2) := by decide +kernel
theorem dX8_number_169 : decode cX8_number 169 = .ok (.l2i, 1) := by decide +kernel
theorem dX8_number_170 : decode cX8_number 170 = .ok (.ireturn, 1) := by decide +kernel
theorem dX8_number_171 : decode cX8_number 171 = .ok (.lload_n 2, 1) := by decide +kernel
theorem dX8_number_172 : decode cX8_number 172 = .ok (.lload 4, 2) := by decide +kernel
theorem dX8_number_174 : decode cX8_number 174 = .ok (.lcmp, 1) := by decide +kernel
theorem dX8_number_175 : decode cX8_number 175 = .ok (.ifCond .ge 7, 3) := by decide +kernel
theorem dX8_number_178 : decode cX8_number 178 = .ok (.iconst 1, 1) := by decide +kernel
theorem dX8_number_179 : decode cX8_number 179 = .ok (.goto 4, 3) := by decide +kernel
theorem dX8_number_182 : decode cX8_number 182 = .ok (.iconst 0, 1) := by decide +kernel
theorem dX8_number_183 : decode cX8_number 183 = .ok (.ireturn, 1) := by decide +kernel
theorem dX8_number_184 : decode cX8_number 184 = .ok (.lload_n 2, 1) := by decide +kernel
theorem dX8_number_185 : decode cX8_number 185 = .ok (.lload 4, 2) := by decide +kernel
theorem dX8_number_187 : decode cX8_number 187 = .ok (.lcmp, 1) := by decide +kernel
theorem dX8_number_188 : decode cX8_number 188 = .ok (.ifCond .le 7, 3) := by decide +kernel
theorem dX8_number_191 : decode cX8_number 191 = .ok (.iconst 1, 1) := by decide +kernel
theorem dX8_number_192 : decode cX8_number 192 = .ok (.goto 4, 3) := by decide +kernel
theorem dX8_number_195 : decode cX8_number 195 = .ok (.iconst 0, 1) := by decide +kernel
theorem dX8_number_196 : decode cX8_number 196 = .ok (.ireturn, 1) := by decide +kernel
theorem dX8_number_197 : decode cX8_number 197 = .ok (.lload_n 2, 1) := by decide +kernel
theorem dX8_number_198 : decode cX8_number 198 = .ok (.lload 4, 2) := by decide +kernel
theorem dX8_number_200 : decode cX8_number 200 = .ok (.lcmp, 1) := by decide +kernel
theorem dX8_number_201 : decode cX8_number 201 = .ok (.ifCond .ne 7, 3) := by decide +kernel
theorem dX8_number_204 : decode cX8_number 204 = .ok (.iconst 1, 1) := by decide +kernel
theorem dX8_number_205 : decode cX8_number 205 = .ok (.goto 4, 3) := by decide +kernel
theorem dX8_number_208 : decode cX8_number 208 = .ok (.iconst 0, 1) := by decide +kernel
theorem dX8_number_209 : decode cX8_number 209 = .ok (.ireturn, 1) := by decide +kernel
theorem dX8_number_210 : decode cX8_number 210 = .ok (.lload_n 2, 1) := by decide +kernel
theorem dX8_number_211 : decode cX8_number 211 = .ok (.lload 4, 2) := by decide +kernel
theorem dX8_number_213 : decode cX8_number 213 = .ok (.lcmp, 1) := by decide +kernel
theorem dX8_number_214 : decode cX8_number 214 = .ok (.ifCond .ge 7, 3) := by decide +kernel
theorem dX8_number_217 : decode cX8_number 217 = .ok (.lload_n 2, 1) := by decide +kernel
theorem dX8_number_218 : decode cX8_number 218 = .ok (.goto 5, 3) := by decide +kernel
theorem dX8_number_221 : decode cX8_number 221 = .ok (.lload 4, 2) := by decide +kernel
theorem dX8_number_223 : decode cX8_number 223 = .ok (.l2i, 1) := by decide +kernel
theorem dX8_number_224 : decode cX8_number 224 = .ok (.ireturn, 1) := by decide +kernel
theorem dX8_number_225 : decode cX8_number 225 = .ok (.lload_n 2, 1) := by decide +kernel
theorem dX8_number_226 : decode cX8_number 226 = .ok (.lload 4, 2) := by decide +kernel
theorem dX8_number_228 : decode cX8_number 228 = .ok (.lcmp, 1) := by decide +kernel
theorem dX8_number_229 : decode cX8_number 229 = .ok (.ifCond .le 7, 3) := by decide +kernel
theorem dX8_number_232 : decode cX8_number 232 = .ok (.lload_n 2, 1) := by decide +kernel
theorem dX8_number_233 : decode cX8_number 233 = .ok (.goto 5, 3) := by decide +kernel
theorem dX8_number_236 : decode cX8_number 236 = .ok (.lload 4, 2) := by decide +kernel
theorem dX8_number_238 : decode cX8_number 238 = .ok (.l2i, 1) := by decide +kernel
theorem dX8_number_239 : decode cX8_number 239 = .ok (.ireturn, 1) := by decide +kernel
theorem dX8_folded_0 : decode cX8_folded 0 = .ok (.iload_n 2, 1) := by decide +kernel
theorem dX8_folded_1 : decode cX8_folded 1 = .ok (.ifCond .ne 28, 3) := by decide +kernel
theorem dX8_folded_4 : decode cX8_folded 4 = .ok (.iload_n 1, 1) := by decide +kernel
theorem dX8_folded_5 : decode cX8_folded 5 = .ok (.ifCond .eq 13, 3) := by decide +kernel
theorem dX8_folded_8 : decode cX8_folded 8 = .ok (.iload_n 1, 1) := by decide +kernel
theorem dX8_folded_9 : decode cX8_folded 9 = .ok (.iconst 2, 1) := by decide +kernel
theorem dX8_folded_10 : decode cX8_folded 10 = .ok (.if_icmp .eq 8, 3) := by decide +kernel
theorem dX8_folded_13 : decode cX8_folded 13 = .ok (.aload_n 0, 1) := by decide +kernel
theorem dX8_folded_14 : decode cX8_folded 14 = .ok (.iconst 2, 1) := by decide +kernel
theorem dX8_folded_15 : decode cX8_folded 15 = .ok (.putfield 92, 3) := by decide +kernel
theorem dX8_folded_18 : decode cX8_folded 18 = .ok (.iload_n 1, 1) := by decide +kernel
theorem dX8_folded_19 : decode cX8_folded 19 = .ok (.iconst 2, 1) := by decide +kernel
theorem dX8_folded_20 : decode cX8_folded 20 = .ok (.if_icmp .ne 7, 3) := by decide +kernel
theorem dX8_folded_23 : decode cX8_folded 23 = .ok (.iconst 1, 1) := by decide +kernel
theorem dX8_folded_24 : decode cX8_folded 24 = .ok (.goto 4, 3) := by decide +kernel
theorem dX8_folded_27 : decode cX8_folded 27 = .ok (.iconst 0, 1) := by decide +kernel
theorem dX8_folded_28 : decode cX8_folded 28 = .ok (.ireturn, 1) := by decide +kernel
theorem dX8_folded_29 : decode cX8_folded 29 = .ok (.aload_n 0, 1) := by decide +kernel
theorem dX8_folded_30 : decode cX8_folded 30 = .ok (.getfield 44, 3) := by decide +kernel
theorem dX8_folded_33 : decode cX8_folded 33 = .ok (.iload_n 2, 1) := by decide +kernel
theorem dX8_folded_34 : decode cX8_folded 34 = .ok (.iconst 1, 1) := by decide +kernel
theorem dX8_folded_35 : decode cX8_folded 35 = .ok (.isub, 1) := by decide +kernel
theorem dX8_folded_36 : decode cX8_folded 36 = .ok (.iaload, 1) := by decide +kernel
theorem dX8_folded_37 : decode cX8_folded 37 = .ok (.istore_n 3, 1) := by decide +kernel
theorem dX8_folded_38 : decode cX8_folded 38 = .ok (.iload_n 2, 1) := by decide +kernel
theorem dX8_folded_39 : decode cX8_folded 39 = .ok (.iconst 2, 1) := by decide +kernel
theorem dX8_folded_40 : decode cX8_folded 40 = .ok (.isub, 1) := by decide +kernel
theorem dX8_folded_41 : decode cX8_folded 41 = .ok (.istore 4, 2) := by decide +kernel
theorem dX8_folded_43 : decode cX8_folded 43 = .ok (.iload 4, 2) := by decide +kernel
theorem dX8_folded_45 : decode cX8_folded 45 = .ok (.ifCond .lt 32, 3) := by decide +kernel
theorem dX8_folded_48 : decode cX8_folded 48 = .ok (.aload_n 0, 1) := by decide +kernel
theorem dX8_folded_49 : decode cX8_folded 49 = .ok (.getfield 92, 3) := by decide +kernel
theorem dX8_folded_52 : decode cX8_folded 52 = .ok (.ifCond .ne 25, 3) := by decide +kernel
theorem dX8_folded_55 : decode cX8_folded 55 = .ok (.aload_n 0, 1) := by decide +kernel
theorem dX8_folded_56 : decode cX8_folded 56 = .ok (.iload_n 1, 1) := by decide +kernel
theorem dX8_folded_57 : decode cX8_folded 57 = .ok (.aload_n 0, 1) := by decide +kernel
theorem dX8_folded_58 : decode cX8_folded 58 = .ok (.getfield 44, 3) := by decide +kernel
theorem dX8_folded_61 : decode cX8_folded 61 = .ok (.iload 4, 2) := by decide +kernel
theorem dX8_folded_63 : decode cX8_folded 63 = .ok (.iaload, 1) := by decide +kernel
theorem dX8_folded_64 : decode cX8_folded 64 = .ok (.i2l, 1) := by decide +kernel
theorem dX8_folded_65 : decode cX8_folded 65 = .ok (.iload_n 3, 1) := by decide +kernel
theorem dX8_folded_66 : decode cX8_folded 66 = .ok (.i2l, 1) := by decide +kernel
theorem dX8_folded_67 : decode cX8_folded 67 = .ok (.invokevirtual 105, 3) := by decide +kernel
theorem dX8_folded_70 : decode cX8_folded 70 = .ok (.istore_n 3, 1) := by decide +kernel
theorem dX8_folded_71 : decode cX8_folded 71 = .ok (.iinc 4 (-1), 3) := by decide +kernel
theorem dX8_folded_74 : decode cX8_folded 74 = .ok (.goto (-31), 3) := by decide +kernel
theorem dX8_folded_77 : decode cX8_folded 77 = .ok (.iload_n 3, 1) := by decide +kernel
theorem dX8_folded_78 : decode cX8_folded 78 = .ok (.ireturn, 1) := by decide +kernel
theorem dX8_last_0 : decode cX8_last 0 = .ok (.aload_n 0, 1) := by decide +kernel
theorem dX8_last_1 : decode cX8_last 1 = .ok (.getfield 13, 3) := by decide +kernel
theorem dX8_last_4 : decode cX8_last 4 = .ok (.iload_n 1, 1) := by decide +kernel
theorem dX8_last_5 : decode cX8_last 5 = .ok (.iaload, 1) := by decide +kernel
theorem dX8_last_6 : decode cX8_last 6 = .ok (.ifCond .ne 7, 3) := by decide +kernel
theorem dX8_last_9 : decode cX8_last 9 = .ok (.iconst 1, 1) := by decide +kernel
theorem dX8_last_10 : decode cX8_last 10 = .ok (.goto 16, 3) := by decide +kernel
theorem dX8_last_13 : decode cX8_last 13 = .ok (.aload_n 0, 1) := by decide +kernel
theorem dX8_last_14 : decode cX8_last 14 = .ok (.iload_n 1, 1) := by decide +kernel
theorem dX8_last_15 : decode cX8_last 15 = .ok (.aload_n 0, 1) := by decide +kernel
theorem dX8_last_16 : decode cX8_last 16 = .ok (.getfield 13, 3) := by decide +kernel
theorem dX8_last_19 : decode cX8_last 19 = .ok (.iload_n 1, 1) := by decide +kernel
theorem dX8_last_20 : decode cX8_last 20 = .ok (.iaload, 1) := by decide +kernel
theorem dX8_last_21 : decode cX8_last 21 = .ok (.iconst 1, 1) := by decide +kernel
theorem dX8_last_22 : decode cX8_last 22 = .ok (.isub, 1) := by decide +kernel
theorem dX8_last_23 : decode cX8_last 23 = .ok (.invokevirtual 88, 3) := by decide +kernel
theorem dX8_last_26 : decode cX8_last 26 = .ok (.ireturn, 1) := by decide +kernel
theorem dX8_single_0 : decode cX8_single 0 = .ok (.aload_n 0, 1) := by decide +kernel
theorem dX8_single_1 : decode cX8_single 1 = .ok (.bipush 19, 2) := by decide +kernel
theorem dX8_single_3 : decode cX8_single 3 = .ok (.invokevirtual 98, 3) := by decide +kernel
theorem dX8_single_6 : decode cX8_single 6 = .ok (.istore_n 2, 1) := by decide +kernel
theorem dX8_single_7 : decode cX8_single 7 = .ok (.aload_n 0, 1) := by decide +kernel
theorem dX8_single_8 : decode cX8_single 8 = .ok (.getfield 13, 3) := by decide +kernel
theorem dX8_single_11 : decode cX8_single 11 = .ok (.bipush 19, 2) := by decide +kernel
theorem dX8_single_13 : decode cX8_single 13 = .ok (.iaload, 1) := by decide +kernel
theorem dX8_single_14 : decode cX8_single 14 = .ok (.istore_n 3, 1) := by decide +kernel
theorem dX8_single_15 : decode cX8_single 15 = .ok (.iload_n 1, 1) := by decide +kernel
theorem dX8_single_16 : decode cX8_single 16 = .ok (.bipush 10, 2) := by decide +kernel
theorem dX8_single_18 : decode cX8_single 18 = .ok (.if_icmp .ge 21, 3) := by decide +kernel
theorem dX8_single_21 : decode cX8_single 21 = .ok (.iload_n 3, 1) := by decide +kernel
theorem dX8_single_22 : decode cX8_single 22 = .ok (.ifCond .ne 10, 3) := by decide +kernel
theorem dX8_single_25 : decode cX8_single 25 = .ok (.aload_n 0, 1) := by decide +kernel
theorem dX8_single_26 : decode cX8_single 26 = .ok (.invokevirtual 109, 3) := by decide +kernel
theorem dX8_single_29 : decode cX8_single 29 = .ok (.goto 9, 3) := by decide +kernel
theorem dX8_single_32 : decode cX8_single 32 = .ok (.aload_n 0, 1) := by decide +kernel
theorem dX8_single_33 : decode cX8_single 33 = .ok (.iload_n 1, 1) := by decide +kernel
theorem dX8_single_34 : decode cX8_single 34 = .ok (.iload_n 2, 1) := by decide +kernel
theorem dX8_single_35 : decode cX8_single 35 = .ok (.invokevirtual 112, 3) := by decide +kernel
theorem dX8_single_38 : decode cX8_single 38 = .ok (.ireturn, 1) := by decide +kernel
theorem dX8_single_39 : decode cX8_single 39 = .ok (.iload_n 1, 1) := by decide +kernel
theorem dX8_single_40 : decode cX8_single 40 = .ok (.bipush 20, 2) := by decide +kernel
theorem dX8_single_42 : decode cX8_single 42 = .ok (.if_icmp .ge 24, 3) := by decide +kernel
theorem dX8_single_45 : decode cX8_single 45 = .ok (.iload_n 3, 1) := by decide +kernel
theorem dX8_single_46 : decode cX8_single 46 = .ok (.ifCond .ne 10, 3) := by decide +kernel
theorem dX8_single_49 : decode cX8_single 49 = .ok (.aload_n 0, 1) := by decide +kernel
theorem dX8_single_50 : decode cX8_single 50 = .ok (.invokevirtual 109, 3) := by decide +kernel
theorem dX8_single_53 : decode cX8_single 53 = .ok (.goto 12, 3) := by decide +kernel
theorem dX8_single_56 : decode cX8_single 56 = .ok (.aload_n 0, 1) := by decide +kernel
theorem dX8_single_57 : decode cX8_single 57 = .ok (.iload_n 1, 1) := by decide +kernel
theorem dX8_single_58 : decode cX8_single 58 = .ok (.bipush 10, 2) := by decide +kernel
theorem dX8_single_60 : decode cX8_single 60 = .ok (.isub, 1) := by decide +kernel
theorem dX8_single_61 : decode cX8_single 61 = .ok (.iload_n 2, 1) := by decide +kernel
theorem dX8_single_62 : decode cX8_single 62 = .ok (.invokevirtual 116, 3) := by decide +kernel
theorem dX8_single_65 : decode cX8_single 65 = .ok (.ireturn, 1) := by decide +kernel
theorem dX8_single_66 : decode cX8_single 66 = .ok (.iload_n 1, 1) := by decide +kernel
theorem dX8_single_67 : decode cX8_single 67 = .ok (.bipush 23, 2) := by decide +kernel
theorem dX8_single_69 : decode cX8_single 69 = .ok (.if_icmp .ge 135, 3) := by decide +kernel
theorem dX8_single_72 : decode cX8_single 72 = .ok (.aload_n 0, 1) := by decide +kernel
theorem dX8_single_73 : decode cX8_single 73 = .ok (.invokevirtual 109, 3) := by decide +kernel
theorem dX8_single_76 : decode cX8_single 76 = .ok (.istore 4, 2) := by decide +kernel
theorem dX8_single_78 : decode cX8_single 78 = .ok (.iconst 0, 1) := by decide +kernel
theorem dX8_single_79 : decode cX8_single 79 = .ok (.istore 5, 2) := by decide +kernel
theorem dX8_single_81 : decode cX8_single 81 = .ok (.iload 5, 2) := by decide +kernel
theorem dX8_single_83 : decode cX8_single 83 = .ok (.iload_n 2, 1) := by decide +kernel
theorem dX8_single_84 : decode cX8_single 84 = .ok (.if_icmp .ge 102, 3) := by decide +kernel
theorem dX8_single_87 : decode cX8_single 87 = .ok (.aload_n 0, 1) := by decide +kernel
theorem dX8_single_88 : decode cX8_single 88 = .ok (.getfield 92, 3) := by decide +kernel
theorem dX8_single_91 : decode cX8_single 91 = .ok (.ifCond .ne 95, 3) := by decide +kernel
theorem dX8_single_94 : decode cX8_single 94 = .ok (.aload_n 0, 1) := by decide +kernel
theorem dX8_single_95 : decode cX8_single 95 = .ok (.bipush 19, 2) := by decide +kernel
theorem dX8_single_97 : decode cX8_single 97 = .ok (.iload 5, 2) := by decide +kernel
theorem dX8_single_99 : decode cX8_single 99 = .ok (.invokevirtual 119, 3) := by decide +kernel
theorem dX8_single_102 : decode cX8_single 102 = .ok (.i2l, 1) := by decide +kernel
theorem dX8_single_103 : decode cX8_single 103 = .ok (.lstore 6, 2) := by decide +kernel
theorem dX8_single_105 : decode cX8_single 105 = .ok (.aload_n 0, 1) := by decide +kernel
theorem dX8_single_106 : decode cX8_single 106 = .ok (.bipush 8, 2) := by decide +kernel
theorem dX8_single_108 : decode cX8_single 108 = .ok (.iload 5, 2) := by decide +kernel
theorem dX8_single_110 : decode cX8_single 110 = .ok (.iload_n 1, 1) := by decide +kernel
theorem dX8_single_111 : decode cX8_single 111 = .ok (.bipush 20, 2) := by decide +kernel
theorem dX8_single_113 : decode cX8_single 113 = .ok (.if_icmp .ne 13, 3) := by decide +kernel
theorem dX8_single_116 : decode cX8_single 116 = .ok (.aload_n 0, 1) := by decide +kernel
theorem dX8_single_117 : decode cX8_single 117 = .ok (.lload 6, 2) := by decide +kernel
theorem dX8_single_119 : decode cX8_single 119 = .ok (.lneg, 1) := by decide +kernel
theorem dX8_single_120 : decode cX8_single 120 = .ok (.invokevirtual 101, 3) := by decide +kernel
theorem dX8_single_123 : decode cX8_single 123 = .ok (.goto 54, 3) := by decide +kernel
theorem dX8_single_126 : decode cX8_single 126 = .ok (.iload_n 1, 1) := by decide +kernel
theorem dX8_single_127 : decode cX8_single 127 = .ok (.bipush 21, 2) := by decide +kernel
theorem dX8_single_129 : decode cX8_single 129 = .ok (.if_icmp .ne 25, 3) := by decide +kernel
theorem dX8_single_132 : decode cX8_single 132 = .ok (.aload_n 0, 1) := by decide +kernel
theorem dX8_single_133 : decode cX8_single 133 = .ok (.lload 6, 2) := by decide +kernel
theorem dX8_single_135 : decode cX8_single 135 = .ok (.lconst 0, 1) := by decide +kernel
theorem dX8_single_136 : decode cX8_single 136 = .ok (.lcmp, 1) := by decide +kernel
theorem dX8_single_137 : decode cX8_single 137 = .ok (.ifCond .ge 9, 3) := by decide +kernel
theorem dX8_single_140 : decode cX8_single 140 = .ok (.lload 6, 2) := by decide +kernel
theorem dX8_single_142 : decode cX8_single 142 = .ok (.lneg, 1) := by decide +kernel
theorem dX8_single_143 : decode cX8_single 143 = .ok (.goto 5, 3) := by decide +kernel
theorem dX8_single_146 : decode cX8_single 146 = .ok (.lload 6, 2) := by decide +kernel
theorem dX8_single_148 : decode cX8_single 148 = .ok (.invokevirtual 101, 3) := by decide +kernel
theorem dX8_single_151 : decode cX8_single 151 = .ok (.goto 26, 3) := by decide +kernel
theorem dX8_single_154 : decode cX8_single 154 = .ok (.lload 6, 2) := by decide +kernel
theorem dX8_single_156 : decode cX8_single 156 = .ok (.lconst 0, 1) := by decide +kernel
theorem dX8_single_157 : decode cX8_single 157 = .ok (.lcmp, 1) := by decide +kernel
theorem dX8_single_158 : decode cX8_single 158 = .ok (.ifCond .ge 7, 3) := by decide +kernel
theorem dX8_single_161 : decode cX8_single 161 = .ok (.iconst (-1), 1) := by decide +kernel
theorem dX8_single_162 : decode cX8_single 162 = .ok (.goto 15, 3) := by decide +kernel
theorem dX8_single_165 : decode cX8_single 165 = .ok (.lload 6, 2) := by decide +kernel
theorem dX8_single_167 : decode cX8_single 167 = .ok (.lconst 0, 1) := by decide +kernel
theorem dX8_single_168 : decode cX8_single 168 = .ok (.lcmp, 1) := by decide +kernel
theorem dX8_single_169 : decode cX8_single 169 = .ok (.ifCond .le 7, 3) := by decide +kernel
theorem dX8_single_172 : decode cX8_single 172 = .ok (.iconst 1, 1) := by decide +kernel
theorem dX8_single_173 : decode cX8_single 173 = .ok (.goto 4, 3) := by decide +kernel
theorem dX8_single_176 : decode cX8_single 176 = .ok (.iconst 0, 1) := by decide +kernel
theorem dX8_single_177 : decode cX8_single 177 = .ok (.invokevirtual 122, 3) := by decide +kernel
theorem dX8_single_180 : decode cX8_single 180 = .ok (.iinc 5 1, 3) := by decide +kernel
theorem dX8_single_183 : decode cX8_single 183 = .ok (.goto (-102), 3) := by decide +kernel
theorem dX8_single_186 : decode cX8_single 186 = .ok (.iload 4, 2) := by decide +kernel
theorem dX8_single_188 : decode cX8_single 188 = .ok (.ifCond .eq 14, 3) := by decide +kernel
theorem dX8_single_191 : decode cX8_single 191 = .ok (.aload_n 0, 1) := by decide +kernel
theorem dX8_single_192 : decode cX8_single 192 = .ok (.getfield 92, 3) := by decide +kernel
theorem dX8_single_195 : decode cX8_single 195 = .ok (.ifCond .ne 7, 3) := by decide +kernel
theorem dX8_single_198 : decode cX8_single 198 = .ok (.iconst 1, 1) := by decide +kernel
theorem dX8_single_199 : decode cX8_single 199 = .ok (.goto 4, 3) := by decide +kernel
theorem dX8_single_202 : decode cX8_single 202 = .ok (.iconst 0, 1) := by decide +kernel
theorem dX8_single_203 : decode cX8_single 203 = .ok (.ireturn, 1) := by decide +kernel
theorem dX8_single_204 : decode cX8_single 204 = .ok (.iload_n 1, 1) := by decide +kernel
theorem dX8_single_205 : decode cX8_single 205 = .ok (.bipush 23, 2) := by decide +kernel
theorem dX8_single_207 : decode cX8_single 207 = .ok (.if_icmp .ne 9, 3) := by decide +kernel
theorem dX8_single_210 : decode cX8_single 210 = .ok (.aload_n 0, 1) := by decide +kernel
theorem dX8_single_211 : decode cX8_single 211 = .ok (.iload_n 2, 1) := by decide +kernel
theorem dX8_single_212 : decode cX8_single 212 = .ok (.invokevirtual 125, 3) := by decide +kernel
theorem dX8_single_215 : decode cX8_single 215 = .ok (.ireturn, 1) := by decide +kernel
theorem dX8_single_216 : decode cX8_single 216 = .ok (.iload_n 1, 1) := by decide +kernel
theorem dX8_single_217 : decode cX8_single 217 = .ok (.bipush 24, 2) := by decide +kernel
theorem dX8_single_219 : decode cX8_single 219 = .ok (.if_icmp .ne 49, 3) := by decide +kernel
theorem dX8_single_222 : decode cX8_single 222 = .ok (.aload_n 0, 1) := by decide +kernel
theorem dX8_single_223 : decode cX8_single 223 = .ok (.iconst 1, 1) := by decide +kernel
theorem dX8_single_224 : decode cX8_single 224 = .ok (.iload_n 3, 1) := by decide +kernel
theorem dX8_single_225 : decode cX8_single 225 = .ok (.iconst 0, 1) := by decide +kernel
theorem dX8_single_226 : decode cX8_single 226 = .ok (.iconst 0, 1) := by decide +kernel
theorem dX8_single_227 : decode cX8_single 227 = .ok (.invokevirtual 128, 3) := by decide +kernel
theorem dX8_single_230 : decode cX8_single 230 = .ok (.ifCond .ne 5, 3) := by decide +kernel
theorem dX8_single_233 : decode cX8_single 233 = .ok (.iconst 0, 1) := by decide +kernel
theorem dX8_single_234 : decode cX8_single 234 = .ok (.ireturn, 1) := by decide +kernel
theorem dX8_single_235 : decode cX8_single 235 = .ok (.iconst 0, 1) := by decide +kernel
theorem dX8_single_236 : decode cX8_single 236 = .ok (.istore 4, 2) := by decide +kernel
theorem dX8_single_238 : decode cX8_single 238 = .ok (.iload 4, 2) := by decide +kernel
theorem dX8_single_240 : decode cX8_single 240 = .ok (.iload_n 3, 1) := by decide +kernel
theorem dX8_single_241 : decode cX8_single 241 = .ok (.if_icmp .ge 25, 3) := by decide +kernel
theorem dX8_single_244 : decode cX8_single 244 = .ok (.aload_n 0, 1) := by decide +kernel
theorem dX8_single_245 : decode cX8_single 245 = .ok (.bipush 8, 2) := by decide +kernel
theorem dX8_single_247 : decode cX8_single 247 = .ok (.iload 4, 2) := by decide +kernel
theorem dX8_single_249 : decode cX8_single 249 = .ok (.aload_n 0, 1) := by decide +kernel
theorem dX8_single_250 : decode cX8_single 250 = .ok (.bipush 19, 2) := by decide +kernel
theorem dX8_single_252 : decode cX8_single 252 = .ok (.iload 4, 2) := by decide +kernel
theorem dX8_single_254 : decode cX8_single 254 = .ok (.invokevirtual 88, 3) := by decide +kernel
theorem dX8_single_257 : decode cX8_single 257 = .ok (.invokevirtual 122, 3) := by decide +kernel
theorem dX8_single_260 : decode cX8_single 260 = .ok (.iinc 4 1, 3) := by decide +kernel
theorem dX8_single_263 : decode cX8_single 263 = .ok (.goto (-25), 3) := by decide +kernel
theorem dX8_single_266 : decode cX8_single 266 = .ok (.iconst 1, 1) := by decide +kernel
theorem dX8_single_267 : decode cX8_single 267 = .ok (.ireturn, 1) := by decide +kernel
theorem dX8_single_268 : decode cX8_single 268 = .ok (.iload_n 1, 1) := by decide +kernel
theorem dX8_single_269 : decode cX8_single 269 = .ok (.bipush 25, 2) := by decide +kernel
theorem dX8_single_271 : decode cX8_single 271 = .ok (.if_icmp .ne 49, 3) := by decide +kernel
theorem dX8_single_274 : decode cX8_single 274 = .ok (.aload_n 0, 1) := by decide +kernel
theorem dX8_single_275 : decode cX8_single 275 = .ok (.iconst 1, 1) := by decide +kernel
theorem dX8_single_276 : decode cX8_single 276 = .ok (.iload_n 2, 1) := by decide +kernel
theorem dX8_single_277 : decode cX8_single 277 = .ok (.iconst 0, 1) := by decide +kernel
theorem dX8_single_278 : decode cX8_single 278 = .ok (.iconst 0, 1) := by decide +kernel
theorem dX8_single_279 : decode cX8_single 279 = .ok (.invokevirtual 128, 3) := by decide +kernel
theorem dX8_single_282 : decode cX8_single 282 = .ok (.ifCond .ne 5, 3) := by decide +kernel
theorem dX8_single_285 : decode cX8_single 285 = .ok (.iconst 0, 1) := by decide +kernel
theorem dX8_single_286 : decode cX8_single 286 = .ok (.ireturn, 1) := by decide +kernel
theorem dX8_single_287 : decode cX8_single 287 = .ok (.iconst 0, 1) := by decide +kernel
theorem dX8_single_288 : decode cX8_single 288 = .ok (.istore 4, 2) := by decide +kernel
theorem dX8_single_290 : decode cX8_single 290 = .ok (.iload 4, 2) := by decide +kernel
theorem dX8_single_292 : decode cX8_single 292 = .ok (.iload_n 2, 1) := by decide +kernel
theorem dX8_single_293 : decode cX8_single 293 = .ok (.if_icmp .ge 25, 3) := by decide +kernel
theorem dX8_single_296 : decode cX8_single 296 = .ok (.aload_n 0, 1) := by decide +kernel
theorem dX8_single_297 : decode cX8_single 297 = .ok (.bipush 8, 2) := by decide +kernel
theorem dX8_single_299 : decode cX8_single 299 = .ok (.iload 4, 2) := by decide +kernel
theorem dX8_single_301 : decode cX8_single 301 = .ok (.aload_n 0, 1) := by decide +kernel
theorem dX8_single_302 : decode cX8_single 302 = .ok (.bipush 19, 2) := by decide +kernel
theorem dX8_single_304 : decode cX8_single 304 = .ok (.iload 4, 2) := by decide +kernel
theorem dX8_single_306 : decode cX8_single 306 = .ok (.invokevirtual 119, 3) := by decide +kernel
theorem dX8_single_309 : decode cX8_single 309 = .ok (.invokevirtual 122, 3) := by decide +kernel
theorem dX8_single_312 : decode cX8_single 312 = .ok (.iinc 4 1, 3) := by decide +kernel
theorem dX8_single_315 : decode cX8_single 315 = .ok (.goto (-25), 3) := by decide +kernel
theorem dX8_single_318 : decode cX8_single 318 = .ok (.iconst 1, 1) := by decide +kernel
theorem dX8_single_319 : decode cX8_single 319 = .ok (.ireturn, 1) := by decide +kernel
theorem dX8_single_320 : decode cX8_single 320 = .ok (.iload_n 1, 1) := by decide +kernel
theorem dX8_single_321 : decode cX8_single 321 = .ok (.bipush 26, 2) := by decide +kernel
theorem dX8_single_323 : decode cX8_single 323 = .ok (.if_icmp .ne 11, 3) := by decide +kernel
theorem dX8_single_326 : decode cX8_single 326 = .ok (.aload_n 0, 1) := by decide +kernel
theorem dX8_single_327 : decode cX8_single 327 = .ok (.iload_n 2, 1) := by decide +kernel
theorem dX8_single_328 : decode cX8_single 328 = .ok (.invokevirtual 132, 3) := by decide +kernel
theorem dX8_single_331 : decode cX8_single 331 = .ok (.goto 8, 3) := by decide +kernel
theorem dX8_single_334 : decode cX8_single 334 = .ok (.aload_n 0, 1) := by decide +kernel
theorem dX8_single_335 : decode cX8_single 335 = .ok (.iload_n 2, 1) := by decide +kernel
theorem dX8_single_336 : decode cX8_single 336 = .ok (.invokevirtual 135, 3) := by decide +kernel
theorem dX8_single_339 : decode cX8_single 339 = .ok (.ireturn, 1) := by decide +kernel
theorem dX8_same_0 : decode cX8_same 0 = .ok (.aload_n 0, 1) := by decide +kernel
theorem dX8_same_1 : decode cX8_same 1 = .ok (.bipush 19, 2) := by decide +kernel
theorem dX8_same_3 : decode cX8_same 3 = .ok (.bipush 8, 2) := by decide +kernel
theorem dX8_same_5 : decode cX8_same 5 = .ok (.invokevirtual 138, 3) := by decide +kernel
theorem dX8_same_8 : decode cX8_same 8 = .ok (.iconst 1, 1) := by decide +kernel
theorem dX8_same_9 : decode cX8_same 9 = .ok (.ireturn, 1) := by decide +kernel
theorem dX8_reduce_0 : decode cX8_reduce 0 = .ok (.aload_n 0, 1) := by decide +kernel
theorem dX8_reduce_1 : decode cX8_reduce 1 = .ok (.bipush 19, 2) := by decide +kernel
theorem dX8_reduce_3 : decode cX8_reduce 3 = .ok (.invokevirtual 142, 3) := by decide +kernel
theorem dX8_reduce_6 : decode cX8_reduce 6 = .ok (.istore_n 3, 1) := by decide +kernel
theorem dX8_reduce_7 : decode cX8_reduce 7 = .ok (.iconst 1, 1) := by decide +kernel
theorem dX8_reduce_8 : decode cX8_reduce 8 = .ok (.istore 4, 2) := by decide +kernel
theorem dX8_reduce_10 : decode cX8_reduce 10 = .ok (.iconst 0, 1) := by decide +kernel
theorem dX8_reduce_11 : decode cX8_reduce 11 = .ok (.istore 5, 2) := by decide +kernel
theorem dX8_reduce_13 : decode cX8_reduce 13 = .ok (.iload 5, 2) := by decide +kernel
theorem dX8_reduce_15 : decode cX8_reduce 15 = .ok (.aload_n 0, 1) := by decide +kernel
theorem dX8_reduce_16 : decode cX8_reduce 16 = .ok (.getfield 13, 3) := by decide +kernel
theorem dX8_reduce_19 : decode cX8_reduce 19 = .ok (.bipush 19, 2) := by decide +kernel
theorem dX8_reduce_21 : decode cX8_reduce 21 = .ok (.iaload, 1) := by decide +kernel
theorem dX8_reduce_22 : decode cX8_reduce 22 = .ok (.iconst 1, 1) := by decide +kernel
theorem dX8_reduce_23 : decode cX8_reduce 23 = .ok (.isub, 1) := by decide +kernel
theorem dX8_reduce_24 : decode cX8_reduce 24 = .ok (.if_icmp .ge 22, 3) := by decide +kernel
theorem dX8_reduce_27 : decode cX8_reduce 27 = .ok (.iload 4, 2) := by decide +kernel
theorem dX8_reduce_29 : decode cX8_reduce 29 = .ok (.aload_n 0, 1) := by decide +kernel
theorem dX8_reduce_30 : decode cX8_reduce 30 = .ok (.bipush 19, 2) := by decide +kernel
theorem dX8_reduce_32 : decode cX8_reduce 32 = .ok (.iload 5, 2) := by decide +kernel
theorem dX8_reduce_34 : decode cX8_reduce 34 = .ok (.invokevirtual 88, 3) := by decide +kernel
theorem dX8_reduce_37 : decode cX8_reduce 37 = .ok (.imul, 1) := by decide +kernel
theorem dX8_reduce_38 : decode cX8_reduce 38 = .ok (.istore 4, 2) := by decide +kernel
theorem dX8_reduce_40 : decode cX8_reduce 40 = .ok (.iinc 5 1, 3) := by decide +kernel
theorem dX8_reduce_43 : decode cX8_reduce 43 = .ok (.goto (-30), 3) := by decide +kernel
theorem dX8_reduce_46 : decode cX8_reduce 46 = .ok (.aload_n 0, 1) := by decide +kernel
theorem dX8_reduce_47 : decode cX8_reduce 47 = .ok (.aload_n 0, 1) := by decide +kernel
theorem dX8_reduce_48 : decode cX8_reduce 48 = .ok (.getfield 13, 3) := by decide +kernel
theorem dX8_reduce_51 : decode cX8_reduce 51 = .ok (.bipush 19, 2) := by decide +kernel
theorem dX8_reduce_53 : decode cX8_reduce 53 = .ok (.iaload, 1) := by decide +kernel
theorem dX8_reduce_54 : decode cX8_reduce 54 = .ok (.iconst 1, 1) := by decide +kernel
theorem dX8_reduce_55 : decode cX8_reduce 55 = .ok (.isub, 1) := by decide +kernel
theorem dX8_reduce_56 : decode cX8_reduce 56 = .ok (.aload_n 0, 1) := by decide +kernel
theorem dX8_reduce_57 : decode cX8_reduce 57 = .ok (.bipush 19, 2) := by decide +kernel
theorem dX8_reduce_59 : decode cX8_reduce 59 = .ok (.iconst 0, 1) := by decide +kernel
theorem dX8_reduce_60 : decode cX8_reduce 60 = .ok (.invokevirtual 88, 3) := by decide +kernel
theorem dX8_reduce_63 : decode cX8_reduce 63 = .ok (.aload_n 0, 1) := by decide +kernel
theorem dX8_reduce_64 : decode cX8_reduce 64 = .ok (.bipush 19, 2) := by decide +kernel
theorem dX8_reduce_66 : decode cX8_reduce 66 = .ok (.iconst 1, 1) := by decide +kernel
theorem dX8_reduce_67 : decode cX8_reduce 67 = .ok (.invokevirtual 88, 3) := by decide +kernel
theorem dX8_reduce_70 : decode cX8_reduce 70 = .ok (.iconst 0, 1) := by decide +kernel
theorem dX8_reduce_71 : decode cX8_reduce 71 = .ok (.invokevirtual 128, 3) := by decide +kernel
theorem dX8_reduce_74 : decode cX8_reduce 74 = .ok (.ifCond .ne 5, 3) := by decide +kernel
theorem dX8_reduce_77 : decode cX8_reduce 77 = .ok (.iconst 0, 1) := by decide +kernel
theorem dX8_reduce_78 : decode cX8_reduce 78 = .ok (.ireturn, 1) := by decide +kernel
theorem dX8_reduce_79 : decode cX8_reduce 79 = .ok (.iconst 0, 1) := by decide +kernel
theorem dX8_reduce_80 : decode cX8_reduce 80 = .ok (.istore 5, 2) := by decide +kernel
theorem dX8_reduce_82 : decode cX8_reduce 82 = .ok (.iload 5, 2) := by decide +kernel
theorem dX8_reduce_84 : decode cX8_reduce 84 = .ok (.iload 4, 2) := by decide +kernel
theorem dX8_reduce_86 : decode cX8_reduce 86 = .ok (.if_icmp .ge 65, 3) := by decide +kernel
theorem dX8_reduce_89 : decode cX8_reduce 89 = .ok (.aload_n 0, 1) := by decide +kernel
theorem dX8_reduce_90 : decode cX8_reduce 90 = .ok (.getfield 92, 3) := by decide +kernel
theorem dX8_reduce_93 : decode cX8_reduce 93 = .ok (.ifCond .ne 58, 3) := by decide +kernel
theorem dX8_reduce_96 : decode cX8_reduce 96 = .ok (.iconst 0, 1) := by decide +kernel
theorem dX8_reduce_97 : decode cX8_reduce 97 = .ok (.istore 6, 2) := by decide +kernel
theorem dX8_reduce_99 : decode cX8_reduce 99 = .ok (.iload 6, 2) := by decide +kernel
theorem dX8_reduce_101 : decode cX8_reduce 101 = .ok (.iload_n 3, 1) := by decide +kernel
theorem dX8_reduce_102 : decode cX8_reduce 102 = .ok (.if_icmp .ge 29, 3) := by decide +kernel
theorem dX8_reduce_105 : decode cX8_reduce 105 = .ok (.aload_n 0, 1) := by decide +kernel
theorem dX8_reduce_106 : decode cX8_reduce 106 = .ok (.getfield 44, 3) := by decide +kernel
theorem dX8_reduce_109 : decode cX8_reduce 109 = .ok (.iload 6, 2) := by decide +kernel
theorem dX8_reduce_111 : decode cX8_reduce 111 = .ok (.aload_n 0, 1) := by decide +kernel
theorem dX8_reduce_112 : decode cX8_reduce 112 = .ok (.bipush 19, 2) := by decide +kernel
theorem dX8_reduce_114 : decode cX8_reduce 114 = .ok (.iload_n 3, 1) := by decide +kernel
theorem dX8_reduce_115 : decode cX8_reduce 115 = .ok (.iload 5, 2) := by decide +kernel
theorem dX8_reduce_117 : decode cX8_reduce 117 = .ok (.imul, 1) := by decide +kernel
theorem dX8_reduce_118 : decode cX8_reduce 118 = .ok (.iload 6, 2) := by decide +kernel
theorem dX8_reduce_120 : decode cX8_reduce 120 = .ok (.iadd, 1) := by decide +kernel
theorem dX8_reduce_121 : decode cX8_reduce 121 = .ok (.invokevirtual 119, 3) := by decide +kernel
theorem dX8_reduce_124 : decode cX8_reduce 124 = .ok (.iastore, 1) := by decide +kernel
theorem dX8_reduce_125 : decode cX8_reduce 125 = .ok (.iinc 6 1, 3) := by decide +kernel
theorem dX8_reduce_128 : decode cX8_reduce 128 = .ok (.goto (-29), 3) := by decide +kernel
theorem dX8_reduce_131 : decode cX8_reduce 131 = .ok (.aload_n 0, 1) := by decide +kernel
theorem dX8_reduce_132 : decode cX8_reduce 132 = .ok (.bipush 8, 2) := by decide +kernel
theorem dX8_reduce_134 : decode cX8_reduce 134 = .ok (.iload 5, 2) := by decide +kernel
theorem dX8_reduce_136 : decode cX8_reduce 136 = .ok (.aload_n 0, 1) := by decide +kernel
theorem dX8_reduce_137 : decode cX8_reduce 137 = .ok (.iload_n 1, 1) := by decide +kernel
theorem dX8_reduce_138 : decode cX8_reduce 138 = .ok (.iload_n 3, 1) := by decide +kernel
theorem dX8_reduce_139 : decode cX8_reduce 139 = .ok (.invokevirtual 145, 3) := by decide +kernel
theorem dX8_reduce_142 : decode cX8_reduce 142 = .ok (.invokevirtual 122, 3) := by decide +kernel
theorem dX8_reduce_145 : decode cX8_reduce 145 = .ok (.iinc 5 1, 3) := by decide +kernel
theorem dX8_reduce_148 : decode cX8_reduce 148 = .ok (.goto (-66), 3) := by decide +kernel
theorem dX8_reduce_151 : decode cX8_reduce 151 = .ok (.aload_n 0, 1) := by decide +kernel
theorem dX8_reduce_152 : decode cX8_reduce 152 = .ok (.getfield 92, 3) := by decide +kernel
theorem dX8_reduce_155 : decode cX8_reduce 155 = .ok (.ifCond .ne 7, 3) := by decide +kernel
theorem dX8_reduce_158 : decode cX8_reduce 158 = .ok (.iconst 1, 1) := by decide +kernel
theorem dX8_reduce_159 : decode cX8_reduce 159 = .ok (.goto 4, 3) := by decide +kernel
theorem dX8_reduce_162 : decode cX8_reduce 162 = .ok (.iconst 0, 1) := by decide +kernel
theorem dX8_reduce_163 : decode cX8_reduce 163 = .ok (.ireturn, 1) := by decide +kernel
theorem dX8_scan_0 : decode cX8_scan 0 = .ok (.aload_n 0, 1) := by decide +kernel
theorem dX8_scan_1 : decode cX8_scan 1 = .ok (.bipush 19, 2) := by decide +kernel
theorem dX8_scan_3 : decode cX8_scan 3 = .ok (.invokevirtual 142, 3) := by decide +kernel
theorem dX8_scan_6 : decode cX8_scan 6 = .ok (.istore_n 3, 1) := by decide +kernel
theorem dX8_scan_7 : decode cX8_scan 7 = .ok (.aload_n 0, 1) := by decide +kernel
theorem dX8_scan_8 : decode cX8_scan 8 = .ok (.invokevirtual 109, 3) := by decide +kernel
theorem dX8_scan_11 : decode cX8_scan 11 = .ok (.istore 4, 2) := by decide +kernel
theorem dX8_scan_13 : decode cX8_scan 13 = .ok (.iconst 0, 1) := by decide +kernel
theorem dX8_scan_14 : decode cX8_scan 14 = .ok (.istore 5, 2) := by decide +kernel
theorem dX8_scan_16 : decode cX8_scan 16 = .ok (.iload 5, 2) := by decide +kernel
theorem dX8_scan_18 : decode cX8_scan 18 = .ok (.iload_n 2, 1) := by decide +kernel
theorem dX8_scan_19 : decode cX8_scan 19 = .ok (.if_icmp .ge 79, 3) := by decide +kernel
theorem dX8_scan_22 : decode cX8_scan 22 = .ok (.aload_n 0, 1) := by decide +kernel
theorem dX8_scan_23 : decode cX8_scan 23 = .ok (.getfield 92, 3) := by decide +kernel
theorem dX8_scan_26 : decode cX8_scan 26 = .ok (.ifCond .ne 72, 3) := by decide +kernel
theorem dX8_scan_29 : decode cX8_scan 29 = .ok (.iload 5, 2) := by decide +kernel
theorem dX8_scan_31 : decode cX8_scan 31 = .ok (.iload_n 3, 1) := by decide +kernel
theorem dX8_scan_32 : decode cX8_scan 32 = .ok (.idiv, 1) := by decide +kernel
theorem dX8_scan_33 : decode cX8_scan 33 = .ok (.iload_n 3, 1) := by decide +kernel
theorem dX8_scan_34 : decode cX8_scan 34 = .ok (.imul, 1) := by decide +kernel
theorem dX8_scan_35 : decode cX8_scan 35 = .ok (.istore 6, 2) := by decide +kernel
theorem dX8_scan_37 : decode cX8_scan 37 = .ok (.iload 6, 2) := by decide +kernel
theorem dX8_scan_39 : decode cX8_scan 39 = .ok (.istore 7, 2) := by decide +kernel
theorem dX8_scan_41 : decode cX8_scan 41 = .ok (.iload 7, 2) := by decide +kernel
theorem dX8_scan_43 : decode cX8_scan 43 = .ok (.iload 5, 2) := by decide +kernel
theorem dX8_scan_45 : decode cX8_scan 45 = .ok (.if_icmp .gt 27, 3) := by decide +kernel
theorem dX8_scan_48 : decode cX8_scan 48 = .ok (.aload_n 0, 1) := by decide +kernel
theorem dX8_scan_49 : decode cX8_scan 49 = .ok (.getfield 44, 3) := by decide +kernel
theorem dX8_scan_52 : decode cX8_scan 52 = .ok (.iload 7, 2) := by decide +kernel
theorem dX8_scan_54 : decode cX8_scan 54 = .ok (.iload 6, 2) := by decide +kernel
theorem dX8_scan_56 : decode cX8_scan 56 = .ok (.isub, 1) := by decide +kernel
theorem dX8_scan_57 : decode cX8_scan 57 = .ok (.aload_n 0, 1) := by decide +kernel
theorem dX8_scan_58 : decode cX8_scan 58 = .ok (.bipush 19, 2) := by decide +kernel
theorem dX8_scan_60 : decode cX8_scan 60 = .ok (.iload 7, 2) := by decide +kernel
theorem dX8_scan_62 : decode cX8_scan 62 = .ok (.invokevirtual 119, 3) := by decide +kernel
theorem dX8_scan_65 : decode cX8_scan 65 = .ok (.iastore, 1) := by decide +kernel
theorem dX8_scan_66 : decode cX8_scan 66 = .ok (.iinc 7 1, 3) := by decide +kernel
theorem dX8_scan_69 : decode cX8_scan 69 = .ok (.goto (-28), 3) := by decide +kernel
theorem dX8_scan_72 : decode cX8_scan 72 = .ok (.aload_n 0, 1) := by decide +kernel
theorem dX8_scan_73 : decode cX8_scan 73 = .ok (.bipush 8, 2) := by decide +kernel
theorem dX8_scan_75 : decode cX8_scan 75 = .ok (.iload 5, 2) := by decide +kernel
theorem dX8_scan_77 : decode cX8_scan 77 = .ok (.aload_n 0, 1) := by decide +kernel
theorem dX8_scan_78 : decode cX8_scan 78 = .ok (.iload_n 1, 1) := by decide +kernel
theorem dX8_scan_79 : decode cX8_scan 79 = .ok (.iload 5, 2) := by decide +kernel
theorem dX8_scan_81 : decode cX8_scan 81 = .ok (.iload 6, 2) := by decide +kernel
theorem dX8_scan_83 : decode cX8_scan 83 = .ok (.isub, 1) := by decide +kernel
theorem dX8_scan_84 : decode cX8_scan 84 = .ok (.iconst 1, 1) := by decide +kernel
theorem dX8_scan_85 : decode cX8_scan 85 = .ok (.iadd, 1) := by decide +kernel
theorem dX8_scan_86 : decode cX8_scan 86 = .ok (.invokevirtual 145, 3) := by decide +kernel
theorem dX8_scan_89 : decode cX8_scan 89 = .ok (.invokevirtual 122, 3) := by decide +kernel
theorem dX8_scan_92 : decode cX8_scan 92 = .ok (.iinc 5 1, 3) := by decide +kernel
theorem dX8_scan_95 : decode cX8_scan 95 = .ok (.goto (-79), 3) := by decide +kernel
theorem dX8_scan_98 : decode cX8_scan 98 = .ok (.iload 4, 2) := by decide +kernel
theorem dX8_scan_100 : decode cX8_scan 100 = .ok (.ifCond .eq 14, 3) := by decide +kernel
theorem dX8_scan_103 : decode cX8_scan 103 = .ok (.aload_n 0, 1) := by decide +kernel
theorem dX8_scan_104 : decode cX8_scan 104 = .ok (.getfield 92, 3) := by decide +kernel
theorem dX8_scan_107 : decode cX8_scan 107 = .ok (.ifCond .ne 7, 3) := by decide +kernel
theorem dX8_scan_110 : decode cX8_scan 110 = .ok (.iconst 1, 1) := by decide +kernel
theorem dX8_scan_111 : decode cX8_scan 111 = .ok (.goto 4, 3) := by decide +kernel
theorem dX8_scan_114 : decode cX8_scan 114 = .ok (.iconst 0, 1) := by decide +kernel
theorem dX8_scan_115 : decode cX8_scan 115 = .ok (.ireturn, 1) := by decide +kernel
theorem dX8_count_0 : decode cX8_count 0 = .ok (.aload_n 0, 1) := by decide +kernel
theorem dX8_count_1 : decode cX8_count 1 = .ok (.getfield 13, 3) := by decide +kernel
theorem dX8_count_4 : decode cX8_count 4 = .ok (.bipush 19, 2) := by decide +kernel
theorem dX8_count_6 : decode cX8_count 6 = .ok (.iaload, 1) := by decide +kernel
theorem dX8_count_7 : decode cX8_count 7 = .ok (.iconst 1, 1) := by decide +kernel
theorem dX8_count_8 : decode cX8_count 8 = .ok (.if_icmp .le 9, 3) := by decide +kernel
theorem dX8_count_11 : decode cX8_count 11 = .ok (.aload_n 0, 1) := by decide +kernel
theorem dX8_count_12 : decode cX8_count 12 = .ok (.iconst 4, 1) := by decide +kernel
theorem dX8_count_13 : decode cX8_count 13 = .ok (.invokevirtual 95, 3) := by decide +kernel
theorem dX8_count_16 : decode cX8_count 16 = .ok (.ireturn, 1) := by decide +kernel
theorem dX8_count_17 : decode cX8_count 17 = .ok (.iload_n 1, 1) := by decide +kernel
theorem dX8_count_18 : decode cX8_count 18 = .ok (.iconst 1, 1) := by decide +kernel
theorem dX8_count_19 : decode cX8_count 19 = .ok (.if_icmp .eq 9, 3) := by decide +kernel
theorem dX8_count_22 : decode cX8_count 22 = .ok (.aload_n 0, 1) := by decide +kernel
theorem dX8_count_23 : decode cX8_count 23 = .ok (.iconst 3, 1) := by decide +kernel
theorem dX8_count_24 : decode cX8_count 24 = .ok (.invokevirtual 95, 3) := by decide +kernel
theorem dX8_count_27 : decode cX8_count 27 = .ok (.ireturn, 1) := by decide +kernel
theorem dX8_count_28 : decode cX8_count 28 = .ok (.aload_n 0, 1) := by decide +kernel
theorem dX8_count_29 : decode cX8_count 29 = .ok (.bipush 19, 2) := by decide +kernel
theorem dX8_count_31 : decode cX8_count 31 = .ok (.iconst 0, 1) := by decide +kernel
theorem dX8_count_32 : decode cX8_count 32 = .ok (.invokevirtual 119, 3) := by decide +kernel
theorem dX8_count_35 : decode cX8_count 35 = .ok (.istore_n 2, 1) := by decide +kernel
theorem dX8_count_36 : decode cX8_count 36 = .ok (.iload_n 2, 1) := by decide +kernel
theorem dX8_count_37 : decode cX8_count 37 = .ok (.ifCond .ge 9, 3) := by decide +kernel
theorem dX8_count_40 : decode cX8_count 40 = .ok (.aload_n 0, 1) := by decide +kernel
theorem dX8_count_41 : decode cX8_count 41 = .ok (.iconst 2, 1) := by decide +kernel
theorem dX8_count_42 : decode cX8_count 42 = .ok (.invokevirtual 95, 3) := by decide +kernel
theorem dX8_count_45 : decode cX8_count 45 = .ok (.ireturn, 1) := by decide +kernel
theorem dX8_count_46 : decode cX8_count 46 = .ok (.aload_n 0, 1) := by decide +kernel
theorem dX8_count_47 : decode cX8_count 47 = .ok (.iconst 1, 1) := by decide +kernel
theorem dX8_count_48 : decode cX8_count 48 = .ok (.iload_n 2, 1) := by decide +kernel
theorem dX8_count_49 : decode cX8_count 49 = .ok (.iconst 0, 1) := by decide +kernel
theorem dX8_count_50 : decode cX8_count 50 = .ok (.iconst 0, 1) := by decide +kernel
theorem dX8_count_51 : decode cX8_count 51 = .ok (.invokevirtual 128, 3) := by decide +kernel
theorem dX8_count_54 : decode cX8_count 54 = .ok (.ifCond .ne 5, 3) := by decide +kernel
theorem dX8_count_57 : decode cX8_count 57 = .ok (.iconst 0, 1) := by decide +kernel
theorem dX8_count_58 : decode cX8_count 58 = .ok (.ireturn, 1) := by decide +kernel
theorem dX8_count_59 : decode cX8_count 59 = .ok (.iconst 0, 1) := by decide +kernel
theorem dX8_count_60 : decode cX8_count 60 = .ok (.istore_n 3, 1) := by decide +kernel
theorem dX8_count_61 : decode cX8_count 61 = .ok (.iload_n 3, 1) := by decide +kernel
theorem dX8_count_62 : decode cX8_count 62 = .ok (.iload_n 2, 1) := by decide +kernel
theorem dX8_count_63 : decode cX8_count 63 = .ok (.if_icmp .ge 17, 3) := by decide +kernel
theorem dX8_count_66 : decode cX8_count 66 = .ok (.aload_n 0, 1) := by decide +kernel
theorem dX8_count_67 : decode cX8_count 67 = .ok (.bipush 8, 2) := by decide +kernel
theorem dX8_count_69 : decode cX8_count 69 = .ok (.iload_n 3, 1) := by decide +kernel
theorem dX8_count_70 : decode cX8_count 70 = .ok (.iload_n 3, 1) := by decide +kernel
theorem dX8_count_71 : decode cX8_count 71 = .ok (.invokevirtual 122, 3) := by decide +kernel
theorem dX8_count_74 : decode cX8_count 74 = .ok (.iinc 3 1, 3) := by decide +kernel
theorem dX8_count_77 : decode cX8_count 77 = .ok (.goto (-16), 3) := by decide +kernel
theorem dX8_count_80 : decode cX8_count 80 = .ok (.iconst 1, 1) := by decide +kernel
theorem dX8_count_81 : decode cX8_count 81 = .ok (.ireturn, 1) := by decide +kernel
theorem dX8_turn_0 : decode cX8_turn 0 = .ok (.aload_n 0, 1) := by decide +kernel
theorem dX8_turn_1 : decode cX8_turn 1 = .ok (.getfield 13, 3) := by decide +kernel
theorem dX8_turn_4 : decode cX8_turn 4 = .ok (.bipush 19, 2) := by decide +kernel
theorem dX8_turn_6 : decode cX8_turn 6 = .ok (.iaload, 1) := by decide +kernel
theorem dX8_turn_7 : decode cX8_turn 7 = .ok (.istore_n 2, 1) := by decide +kernel
theorem dX8_turn_8 : decode cX8_turn 8 = .ok (.aload_n 0, 1) := by decide +kernel
theorem dX8_turn_9 : decode cX8_turn 9 = .ok (.invokevirtual 109, 3) := by decide +kernel
theorem dX8_turn_12 : decode cX8_turn 12 = .ok (.istore_n 3, 1) := by decide +kernel
theorem dX8_turn_13 : decode cX8_turn 13 = .ok (.iconst 0, 1) := by decide +kernel
theorem dX8_turn_14 : decode cX8_turn 14 = .ok (.istore 4, 2) := by decide +kernel
theorem dX8_turn_16 : decode cX8_turn 16 = .ok (.iload 4, 2) := by decide +kernel
theorem dX8_turn_18 : decode cX8_turn 18 = .ok (.iload_n 2, 1) := by decide +kernel
theorem dX8_turn_19 : decode cX8_turn 19 = .ok (.if_icmp .ge 31, 3) := by decide +kernel
theorem dX8_turn_22 : decode cX8_turn 22 = .ok (.aload_n 0, 1) := by decide +kernel
theorem dX8_turn_23 : decode cX8_turn 23 = .ok (.getfield 16, 3) := by decide +kernel
theorem dX8_turn_26 : decode cX8_turn 26 = .ok (.bipush 24, 2) := by decide +kernel
theorem dX8_turn_28 : decode cX8_turn 28 = .ok (.iload 4, 2) := by decide +kernel
theorem dX8_turn_30 : decode cX8_turn 30 = .ok (.iadd, 1) := by decide +kernel
theorem dX8_turn_31 : decode cX8_turn 31 = .ok (.aload_n 0, 1) := by decide +kernel
theorem dX8_turn_32 : decode cX8_turn 32 = .ok (.bipush 19, 2) := by decide +kernel
theorem dX8_turn_34 : decode cX8_turn 34 = .ok (.iload_n 2, 1) := by decide +kernel
theorem dX8_turn_35 : decode cX8_turn 35 = .ok (.iconst 1, 1) := by decide +kernel
theorem dX8_turn_36 : decode cX8_turn 36 = .ok (.isub, 1) := by decide +kernel
theorem dX8_turn_37 : decode cX8_turn 37 = .ok (.iload 4, 2) := by decide +kernel
theorem dX8_turn_39 : decode cX8_turn 39 = .ok (.isub, 1) := by decide +kernel
theorem dX8_turn_40 : decode cX8_turn 40 = .ok (.invokevirtual 88, 3) := by decide +kernel
theorem dX8_turn_43 : decode cX8_turn 43 = .ok (.iastore, 1) := by decide +kernel
theorem dX8_turn_44 : decode cX8_turn 44 = .ok (.iinc 4 1, 3) := by decide +kernel
theorem dX8_turn_47 : decode cX8_turn 47 = .ok (.goto (-31), 3) := by decide +kernel
theorem dX8_turn_50 : decode cX8_turn 50 = .ok (.iconst 0, 1) := by decide +kernel
theorem dX8_turn_51 : decode cX8_turn 51 = .ok (.istore 4, 2) := by decide +kernel
theorem dX8_turn_53 : decode cX8_turn 53 = .ok (.iload 4, 2) := by decide +kernel
theorem dX8_turn_55 : decode cX8_turn 55 = .ok (.iload_n 1, 1) := by decide +kernel
theorem dX8_turn_56 : decode cX8_turn 56 = .ok (.if_icmp .ge 118, 3) := by decide +kernel
theorem dX8_turn_59 : decode cX8_turn 59 = .ok (.iload 4, 2) := by decide +kernel
theorem dX8_turn_61 : decode cX8_turn 61 = .ok (.istore 5, 2) := by decide +kernel
theorem dX8_turn_63 : decode cX8_turn 63 = .ok (.iconst 0, 1) := by decide +kernel
theorem dX8_turn_64 : decode cX8_turn 64 = .ok (.istore 6, 2) := by decide +kernel
theorem dX8_turn_66 : decode cX8_turn 66 = .ok (.iload_n 2, 1) := by decide +kernel
theorem dX8_turn_67 : decode cX8_turn 67 = .ok (.iconst 1, 1) := by decide +kernel
theorem dX8_turn_68 : decode cX8_turn 68 = .ok (.isub, 1) := by decide +kernel
theorem dX8_turn_69 : decode cX8_turn 69 = .ok (.istore 7, 2) := by decide +kernel
theorem dX8_turn_71 : decode cX8_turn 71 = .ok (.iload 7, 2) := by decide +kernel
theorem dX8_turn_73 : decode cX8_turn 73 = .ok (.ifCond .lt 79, 3) := by decide +kernel
theorem dX8_turn_76 : decode cX8_turn 76 = .ok (.iload 5, 2) := by decide +kernel
theorem dX8_turn_78 : decode cX8_turn 78 = .ok (.aload_n 0, 1) := by decide +kernel
theorem dX8_turn_79 : decode cX8_turn 79 = .ok (.bipush 8, 2) := by decide +kernel
theorem dX8_turn_81 : decode cX8_turn 81 = .ok (.iload 7, 2) := by decide +kernel
theorem dX8_turn_83 : decode cX8_turn 83 = .ok (.invokevirtual 88, 3) := by decide +kernel
theorem dX8_turn_86 : decode cX8_turn 86 = .ok (.irem, 1) := by decide +kernel
theorem dX8_turn_87 : decode cX8_turn 87 = .ok (.istore 8, 2) := by decide +kernel
theorem dX8_turn_89 : decode cX8_turn 89 = .ok (.iload 5, 2) := by decide +kernel
theorem dX8_turn_91 : decode cX8_turn 91 = .ok (.aload_n 0, 1) := by decide +kernel
theorem dX8_turn_92 : decode cX8_turn 92 = .ok (.bipush 8, 2) := by decide +kernel
theorem dX8_turn_94 : decode cX8_turn 94 = .ok (.iload 7, 2) := by decide +kernel
theorem dX8_turn_96 : decode cX8_turn 96 = .ok (.invokevirtual 88, 3) := by decide +kernel
theorem dX8_turn_99 : decode cX8_turn 99 = .ok (.idiv, 1) := by decide +kernel
theorem dX8_turn_100 : decode cX8_turn 100 = .ok (.istore 5, 2) := by decide +kernel
theorem dX8_turn_102 : decode cX8_turn 102 = .ok (.iconst 1, 1) := by decide +kernel
theorem dX8_turn_103 : decode cX8_turn 103 = .ok (.istore 9, 2) := by decide +kernel
theorem dX8_turn_105 : decode cX8_turn 105 = .ok (.iload_n 2, 1) := by decide +kernel
theorem dX8_turn_106 : decode cX8_turn 106 = .ok (.iload 7, 2) := by decide +kernel
theorem dX8_turn_108 : decode cX8_turn 108 = .ok (.isub, 1) := by decide +kernel
theorem dX8_turn_109 : decode cX8_turn 109 = .ok (.istore 10, 2) := by decide +kernel
theorem dX8_turn_111 : decode cX8_turn 111 = .ok (.iload 10, 2) := by decide +kernel
theorem dX8_turn_113 : decode cX8_turn 113 = .ok (.iload_n 2, 1) := by decide +kernel
theorem dX8_turn_114 : decode cX8_turn 114 = .ok (.if_icmp .ge 22, 3) := by decide +kernel
theorem dX8_turn_117 : decode cX8_turn 117 = .ok (.iload 9, 2) := by decide +kernel
theorem dX8_turn_119 : decode cX8_turn 119 = .ok (.aload_n 0, 1) := by decide +kernel
theorem dX8_turn_120 : decode cX8_turn 120 = .ok (.bipush 19, 2) := by decide +kernel
theorem dX8_turn_122 : decode cX8_turn 122 = .ok (.iload 10, 2) := by decide +kernel
theorem dX8_turn_124 : decode cX8_turn 124 = .ok (.invokevirtual 88, 3) := by decide +kernel
theorem dX8_turn_127 : decode cX8_turn 127 = .ok (.imul, 1) := by decide +kernel
theorem dX8_turn_128 : decode cX8_turn 128 = .ok (.istore 9, 2) := by decide +kernel
theorem dX8_turn_130 : decode cX8_turn 130 = .ok (.iinc 10 1, 3) := by decide +kernel
theorem dX8_turn_133 : decode cX8_turn 133 = .ok (.goto (-22), 3) := by decide +kernel
theorem dX8_turn_136 : decode cX8_turn 136 = .ok (.iload 6, 2) := by decide +kernel
theorem dX8_turn_138 : decode cX8_turn 138 = .ok (.iload 8, 2) := by decide +kernel
theorem dX8_turn_140 : decode cX8_turn 140 = .ok (.iload 9, 2) := by decide +kernel
theorem dX8_turn_142 : decode cX8_turn 142 = .ok (.imul, 1) := by decide +kernel
theorem dX8_turn_143 : decode cX8_turn 143 = .ok (.iadd, 1) := by decide +kernel
theorem dX8_turn_144 : decode cX8_turn 144 = .ok (.istore 6, 2) := by decide +kernel
theorem dX8_turn_146 : decode cX8_turn 146 = .ok (.iinc 7 (-1), 3) := by decide +kernel
theorem dX8_turn_149 : decode cX8_turn 149 = .ok (.goto (-78), 3) := by decide +kernel
theorem dX8_turn_152 : decode cX8_turn 152 = .ok (.aload_n 0, 1) := by decide +kernel
theorem dX8_turn_153 : decode cX8_turn 153 = .ok (.bipush 8, 2) := by decide +kernel
theorem dX8_turn_155 : decode cX8_turn 155 = .ok (.iload 4, 2) := by decide +kernel
theorem dX8_turn_157 : decode cX8_turn 157 = .ok (.aload_n 0, 1) := by decide +kernel
theorem dX8_turn_158 : decode cX8_turn 158 = .ok (.bipush 19, 2) := by decide +kernel
theorem dX8_turn_160 : decode cX8_turn 160 = .ok (.iload 6, 2) := by decide +kernel
theorem dX8_turn_162 : decode cX8_turn 162 = .ok (.invokevirtual 119, 3) := by decide +kernel
theorem dX8_turn_165 : decode cX8_turn 165 = .ok (.invokevirtual 122, 3) := by decide +kernel
theorem dX8_turn_168 : decode cX8_turn 168 = .ok (.iinc 4 1, 3) := by decide +kernel
theorem dX8_turn_171 : decode cX8_turn 171 = .ok (.goto (-118), 3) := by decide +kernel
theorem dX8_turn_174 : decode cX8_turn 174 = .ok (.iload_n 3, 1) := by decide +kernel
theorem dX8_turn_175 : decode cX8_turn 175 = .ok (.ireturn, 1) := by decide +kernel
theorem dX8_reverse_0 : decode cX8_reverse 0 = .ok (.aload_n 0, 1) := by decide +kernel
theorem dX8_reverse_1 : decode cX8_reverse 1 = .ok (.bipush 19, 2) := by decide +kernel
theorem dX8_reverse_3 : decode cX8_reverse 3 = .ok (.invokevirtual 142, 3) := by decide +kernel
theorem dX8_reverse_6 : decode cX8_reverse 6 = .ok (.istore_n 2, 1) := by decide +kernel
theorem dX8_reverse_7 : decode cX8_reverse 7 = .ok (.aload_n 0, 1) := by decide +kernel
theorem dX8_reverse_8 : decode cX8_reverse 8 = .ok (.invokevirtual 109, 3) := by decide +kernel
theorem dX8_reverse_11 : decode cX8_reverse 11 = .ok (.istore_n 3, 1) := by decide +kernel
theorem dX8_reverse_12 : decode cX8_reverse 12 = .ok (.iconst 0, 1) := by decide +kernel
theorem dX8_reverse_13 : decode cX8_reverse 13 = .ok (.istore 4, 2) := by decide +kernel
theorem dX8_reverse_15 : decode cX8_reverse 15 = .ok (.iload 4, 2) := by decide +kernel
theorem dX8_reverse_17 : decode cX8_reverse 17 = .ok (.iload_n 1, 1) := by decide +kernel
theorem dX8_reverse_18 : decode cX8_reverse 18 = .ok (.if_icmp .ge 38, 3) := by decide +kernel
theorem dX8_reverse_21 : decode cX8_reverse 21 = .ok (.aload_n 0, 1) := by decide +kernel
theorem dX8_reverse_22 : decode cX8_reverse 22 = .ok (.bipush 8, 2) := by decide +kernel
theorem dX8_reverse_24 : decode cX8_reverse 24 = .ok (.iload 4, 2) := by decide +kernel
theorem dX8_reverse_26 : decode cX8_reverse 26 = .ok (.aload_n 0, 1) := by decide +kernel
theorem dX8_reverse_27 : decode cX8_reverse 27 = .ok (.bipush 19, 2) := by decide +kernel
theorem dX8_reverse_29 : decode cX8_reverse 29 = .ok (.iload 4, 2) := by decide +kernel
theorem dX8_reverse_31 : decode cX8_reverse 31 = .ok (.iload_n 2, 1) := by decide +kernel
theorem dX8_reverse_32 : decode cX8_reverse 32 = .ok (.idiv, 1) := by decide +kernel
theorem dX8_reverse_33 : decode cX8_reverse 33 = .ok (.iload_n 2, 1) := by decide +kernel
theorem dX8_reverse_34 : decode cX8_reverse 34 = .ok (.imul, 1) := by decide +kernel
theorem dX8_reverse_35 : decode cX8_reverse 35 = .ok (.iload_n 2, 1) := by decide +kernel
theorem dX8_reverse_36 : decode cX8_reverse 36 = .ok (.iconst 1, 1) := by decide +kernel
theorem dX8_reverse_37 : decode cX8_reverse 37 = .ok (.isub, 1) := by decide +kernel
theorem dX8_reverse_38 : decode cX8_reverse 38 = .ok (.iload 4, 2) := by decide +kernel
theorem dX8_reverse_40 : decode cX8_reverse 40 = .ok (.iload_n 2, 1) := by decide +kernel
theorem dX8_reverse_41 : decode cX8_reverse 41 = .ok (.irem, 1) := by decide +kernel
theorem dX8_reverse_42 : decode cX8_reverse 42 = .ok (.isub, 1) := by decide +kernel
theorem dX8_reverse_43 : decode cX8_reverse 43 = .ok (.iadd, 1) := by decide +kernel
theorem dX8_reverse_44 : decode cX8_reverse 44 = .ok (.invokevirtual 119, 3) := by decide +kernel
theorem dX8_reverse_47 : decode cX8_reverse 47 = .ok (.invokevirtual 122, 3) := by decide +kernel
theorem dX8_reverse_50 : decode cX8_reverse 50 = .ok (.iinc 4 1, 3) := by decide +kernel
theorem dX8_reverse_53 : decode cX8_reverse 53 = .ok (.goto (-38), 3) := by decide +kernel
theorem dX8_reverse_56 : decode cX8_reverse 56 = .ok (.iload_n 3, 1) := by decide +kernel
theorem dX8_reverse_57 : decode cX8_reverse 57 = .ok (.ireturn, 1) := by decide +kernel
theorem dX8_pair_0 : decode cX8_pair 0 = .ok (.iload_n 1, 1) := by decide +kernel
theorem dX8_pair_1 : decode cX8_pair 1 = .ok (.bipush 10, 2) := by decide +kernel
theorem dX8_pair_3 : decode cX8_pair 3 = .ok (.if_icmp .ge 9, 3) := by decide +kernel
theorem dX8_pair_6 : decode cX8_pair 6 = .ok (.aload_n 0, 1) := by decide +kernel
theorem dX8_pair_7 : decode cX8_pair 7 = .ok (.iload_n 1, 1) := by decide +kernel
theorem dX8_pair_8 : decode cX8_pair 8 = .ok (.invokevirtual 148, 3) := by decide +kernel
theorem dX8_pair_11 : decode cX8_pair 11 = .ok (.ireturn, 1) := by decide +kernel
theorem dX8_pair_12 : decode cX8_pair 12 = .ok (.iload_n 1, 1) := by decide +kernel
theorem dX8_pair_13 : decode cX8_pair 13 = .ok (.bipush 30, 2) := by decide +kernel
theorem dX8_pair_15 : decode cX8_pair 15 = .ok (.if_icmp .ge 12, 3) := by decide +kernel
theorem dX8_pair_18 : decode cX8_pair 18 = .ok (.aload_n 0, 1) := by decide +kernel
theorem dX8_pair_19 : decode cX8_pair 19 = .ok (.iload_n 1, 1) := by decide +kernel
theorem dX8_pair_20 : decode cX8_pair 20 = .ok (.bipush 20, 2) := by decide +kernel
theorem dX8_pair_22 : decode cX8_pair 22 = .ok (.isub, 1) := by decide +kernel
theorem dX8_pair_23 : decode cX8_pair 23 = .ok (.invokevirtual 151, 3) := by decide +kernel
theorem dX8_pair_26 : decode cX8_pair 26 = .ok (.ireturn, 1) := by decide +kernel
theorem dX8_pair_27 : decode cX8_pair 27 = .ok (.iload_n 1, 1) := by decide +kernel
theorem dX8_pair_28 : decode cX8_pair 28 = .ok (.bipush 30, 2) := by decide +kernel
theorem dX8_pair_30 : decode cX8_pair 30 = .ok (.if_icmp .ne 8, 3) := by decide +kernel
theorem dX8_pair_33 : decode cX8_pair 33 = .ok (.aload_n 0, 1) := by decide +kernel
theorem dX8_pair_34 : decode cX8_pair 34 = .ok (.invokevirtual 154, 3) := by decide +kernel
theorem dX8_pair_37 : decode cX8_pair 37 = .ok (.ireturn, 1) := by decide +kernel
theorem dX8_pair_38 : decode cX8_pair 38 = .ok (.iload_n 1, 1) := by decide +kernel
theorem dX8_pair_39 : decode cX8_pair 39 = .ok (.bipush 31, 2) := by decide +kernel
theorem dX8_pair_41 : decode cX8_pair 41 = .ok (.if_icmp .ne 8, 3) := by decide +kernel
theorem dX8_pair_44 : decode cX8_pair 44 = .ok (.aload_n 0, 1) := by decide +kernel
theorem dX8_pair_45 : decode cX8_pair 45 = .ok (.invokevirtual 157, 3) := by decide +kernel
theorem dX8_pair_48 : decode cX8_pair 48 = .ok (.ireturn, 1) := by decide +kernel
theorem dX8_pair_49 : decode cX8_pair 49 = .ok (.iload_n 1, 1) := by decide +kernel
theorem dX8_pair_50 : decode cX8_pair 50 = .ok (.bipush 32, 2) := by decide +kernel
theorem dX8_pair_52 : decode cX8_pair 52 = .ok (.if_icmp .ne 8, 3) := by decide +kernel
theorem dX8_pair_55 : decode cX8_pair 55 = .ok (.aload_n 0, 1) := by decide +kernel
theorem dX8_pair_56 : decode cX8_pair 56 = .ok (.invokevirtual 160, 3) := by decide +kernel
theorem dX8_pair_59 : decode cX8_pair 59 = .ok (.ireturn, 1) := by decide +kernel
theorem dX8_pair_60 : decode cX8_pair 60 = .ok (.aload_n 0, 1) := by decide +kernel
theorem dX8_pair_61 : decode cX8_pair 61 = .ok (.iload_n 1, 1) := by decide +kernel
theorem dX8_pair_62 : decode cX8_pair 62 = .ok (.bipush 100, 2) := by decide +kernel
theorem dX8_pair_64 : decode cX8_pair 64 = .ok (.isub, 1) := by decide +kernel
theorem dX8_pair_65 : decode cX8_pair 65 = .ok (.bipush 10, 2) := by decide +kernel
theorem dX8_pair_67 : decode cX8_pair 67 = .ok (.idiv, 1) := by decide +kernel
theorem dX8_pair_68 : decode cX8_pair 68 = .ok (.iload_n 1, 1) := by decide +kernel
theorem dX8_pair_69 : decode cX8_pair 69 = .ok (.bipush 100, 2) := by decide +kernel
theorem dX8_pair_71 : decode cX8_pair 71 = .ok (.isub, 1) := by decide +kernel
theorem dX8_pair_72 : decode cX8_pair 72 = .ok (.bipush 10, 2) := by decide +kernel
theorem dX8_pair_74 : decode cX8_pair 74 = .ok (.irem, 1) := by decide +kernel
theorem dX8_pair_75 : decode cX8_pair 75 = .ok (.invokevirtual 163, 3) := by decide +kernel
theorem dX8_pair_78 : decode cX8_pair 78 = .ok (.ireturn, 1) := by decide +kernel
theorem dX8_each_0 : decode cX8_each 0 = .ok (.aload_n 0, 1) := by decide +kernel
theorem dX8_each_1 : decode cX8_each 1 = .ok (.getfield 13, 3) := by decide +kernel
theorem dX8_each_4 : decode cX8_each 4 = .ok (.bipush 18, 2) := by decide +kernel
theorem dX8_each_6 : decode cX8_each 6 = .ok (.iaload, 1) := by decide +kernel
theorem dX8_each_7 : decode cX8_each 7 = .ok (.istore_n 2, 1) := by decide +kernel
theorem dX8_each_8 : decode cX8_each 8 = .ok (.aload_n 0, 1) := by decide +kernel
theorem dX8_each_9 : decode cX8_each 9 = .ok (.getfield 13, 3) := by decide +kernel
theorem dX8_each_12 : decode cX8_each 12 = .ok (.bipush 19, 2) := by decide +kernel
theorem dX8_each_14 : decode cX8_each 14 = .ok (.iaload, 1) := by decide +kernel
theorem dX8_each_15 : decode cX8_each 15 = .ok (.istore_n 3, 1) := by decide +kernel
theorem dX8_each_16 : decode cX8_each 16 = .ok (.iload_n 2, 1) := by decide +kernel
theorem dX8_each_17 : decode cX8_each 17 = .ok (.ifCond .eq 58, 3) := by decide +kernel
theorem dX8_each_20 : decode cX8_each 20 = .ok (.iload_n 3, 1) := by decide +kernel
theorem dX8_each_21 : decode cX8_each 21 = .ok (.ifCond .eq 54, 3) := by decide +kernel
theorem dX8_each_24 : decode cX8_each 24 = .ok (.iload_n 2, 1) := by decide +kernel
theorem dX8_each_25 : decode cX8_each 25 = .ok (.iload_n 3, 1) := by decide +kernel
theorem dX8_each_26 : decode cX8_each 26 = .ok (.if_icmp .eq 9, 3) := by decide +kernel
theorem dX8_each_29 : decode cX8_each 29 = .ok (.aload_n 0, 1) := by decide +kernel
theorem dX8_each_30 : decode cX8_each 30 = .ok (.iconst 4, 1) := by decide +kernel
theorem dX8_each_31 : decode cX8_each 31 = .ok (.invokevirtual 95, 3) := by decide +kernel
theorem dX8_each_34 : decode cX8_each 34 = .ok (.ireturn, 1) := by decide +kernel
theorem dX8_each_35 : decode cX8_each 35 = .ok (.iconst 0, 1) := by decide +kernel
theorem dX8_each_36 : decode cX8_each 36 = .ok (.istore 4, 2) := by decide +kernel
theorem dX8_each_38 : decode cX8_each 38 = .ok (.iload 4, 2) := by decide +kernel
theorem dX8_each_40 : decode cX8_each 40 = .ok (.iload_n 2, 1) := by decide +kernel
theorem dX8_each_41 : decode cX8_each 41 = .ok (.if_icmp .ge 34, 3) := by decide +kernel
theorem dX8_each_44 : decode cX8_each 44 = .ok (.aload_n 0, 1) := by decide +kernel
theorem dX8_each_45 : decode cX8_each 45 = .ok (.bipush 18, 2) := by decide +kernel
theorem dX8_each_47 : decode cX8_each 47 = .ok (.iload 4, 2) := by decide +kernel
theorem dX8_each_49 : decode cX8_each 49 = .ok (.invokevirtual 88, 3) := by decide +kernel
theorem dX8_each_52 : decode cX8_each 52 = .ok (.aload_n 0, 1) := by decide +kernel
theorem dX8_each_53 : decode cX8_each 53 = .ok (.bipush 19, 2) := by decide +kernel
theorem dX8_each_55 : decode cX8_each 55 = .ok (.iload 4, 2) := by decide +kernel
theorem dX8_each_57 : decode cX8_each 57 = .ok (.invokevirtual 88, 3) := by decide +kernel
theorem dX8_each_60 : decode cX8_each 60 = .ok (.if_icmp .eq 9, 3) := by decide +kernel
theorem dX8_each_63 : decode cX8_each 63 = .ok (.aload_n 0, 1) := by decide +kernel
theorem dX8_each_64 : decode cX8_each 64 = .ok (.iconst 3, 1) := by decide +kernel
theorem dX8_each_65 : decode cX8_each 65 = .ok (.invokevirtual 95, 3) := by decide +kernel
theorem dX8_each_68 : decode cX8_each 68 = .ok (.ireturn, 1) := by decide +kernel
theorem dX8_each_69 : decode cX8_each 69 = .ok (.iinc 4 1, 3) := by decide +kernel
theorem dX8_each_72 : decode cX8_each 72 = .ok (.goto (-34), 3) := by decide +kernel
theorem dX8_each_75 : decode cX8_each 75 = .ok (.aload_n 0, 1) := by decide +kernel
theorem dX8_each_76 : decode cX8_each 76 = .ok (.iload_n 2, 1) := by decide +kernel
theorem dX8_each_77 : decode cX8_each 77 = .ok (.ifCond .ne 8, 3) := by decide +kernel
theorem dX8_each_80 : decode cX8_each 80 = .ok (.bipush 19, 2) := by decide +kernel
theorem dX8_each_82 : decode cX8_each 82 = .ok (.goto 5, 3) := by decide +kernel
theorem dX8_each_85 : decode cX8_each 85 = .ok (.bipush 18, 2) := by decide +kernel
theorem dX8_each_87 : decode cX8_each 87 = .ok (.bipush 8, 2) := by decide +kernel
theorem dX8_each_89 : decode cX8_each 89 = .ok (.invokevirtual 138, 3) := by decide +kernel
theorem dX8_each_92 : decode cX8_each 92 = .ok (.aload_n 0, 1) := by decide +kernel
theorem dX8_each_93 : decode cX8_each 93 = .ok (.bipush 8, 2) := by decide +kernel
theorem dX8_each_95 : decode cX8_each 95 = .ok (.invokevirtual 98, 3) := by decide +kernel
theorem dX8_each_98 : decode cX8_each 98 = .ok (.istore 4, 2) := by decide +kernel
theorem dX8_each_100 : decode cX8_each 100 = .ok (.iconst 0, 1) := by decide +kernel
theorem dX8_each_101 : decode cX8_each 101 = .ok (.istore 5, 2) := by decide +kernel
theorem dX8_each_103 : decode cX8_each 103 = .ok (.iload 5, 2) := by decide +kernel
theorem dX8_each_105 : decode cX8_each 105 = .ok (.iload 4, 2) := by decide +kernel
theorem dX8_each_107 : decode cX8_each 107 = .ok (.if_icmp .ge 63, 3) := by decide +kernel
theorem dX8_each_110 : decode cX8_each 110 = .ok (.aload_n 0, 1) := by decide +kernel
theorem dX8_each_111 : decode cX8_each 111 = .ok (.getfield 92, 3) := by decide +kernel
theorem dX8_each_114 : decode cX8_each 114 = .ok (.ifCond .ne 56, 3) := by decide +kernel
theorem dX8_each_117 : decode cX8_each 117 = .ok (.aload_n 0, 1) := by decide +kernel
theorem dX8_each_118 : decode cX8_each 118 = .ok (.bipush 8, 2) := by decide +kernel
theorem dX8_each_120 : decode cX8_each 120 = .ok (.iload 5, 2) := by decide +kernel
theorem dX8_each_122 : decode cX8_each 122 = .ok (.aload_n 0, 1) := by decide +kernel
theorem dX8_each_123 : decode cX8_each 123 = .ok (.iload_n 1, 1) := by decide +kernel
theorem dX8_each_124 : decode cX8_each 124 = .ok (.aload_n 0, 1) := by decide +kernel
theorem dX8_each_125 : decode cX8_each 125 = .ok (.bipush 18, 2) := by decide +kernel
theorem dX8_each_127 : decode cX8_each 127 = .ok (.iload_n 2, 1) := by decide +kernel
theorem dX8_each_128 : decode cX8_each 128 = .ok (.ifCond .ne 7, 3) := by decide +kernel
theorem dX8_each_131 : decode cX8_each 131 = .ok (.iconst 0, 1) := by decide +kernel
theorem dX8_each_132 : decode cX8_each 132 = .ok (.goto 5, 3) := by decide +kernel
theorem dX8_each_135 : decode cX8_each 135 = .ok (.iload 5, 2) := by decide +kernel
theorem dX8_each_137 : decode cX8_each 137 = .ok (.invokevirtual 119, 3) := by decide +kernel
theorem dX8_each_140 : decode cX8_each 140 = .ok (.i2l, 1) := by decide +kernel
theorem dX8_each_141 : decode cX8_each 141 = .ok (.aload_n 0, 1) := by decide +kernel
theorem dX8_each_142 : decode cX8_each 142 = .ok (.bipush 19, 2) := by decide +kernel
theorem dX8_each_144 : decode cX8_each 144 = .ok (.iload_n 3, 1) := by decide +kernel
theorem dX8_each_145 : decode cX8_each 145 = .ok (.ifCond .ne 7, 3) := by decide +kernel
theorem dX8_each_148 : decode cX8_each 148 = .ok (.iconst 0, 1) := by decide +kernel
theorem dX8_each_149 : decode cX8_each 149 = .ok (.goto 5, 3) := by decide +kernel
theorem dX8_each_152 : decode cX8_each 152 = .ok (.iload 5, 2) := by decide +kernel
theorem dX8_each_154 : decode cX8_each 154 = .ok (.invokevirtual 119, 3) := by decide +kernel
theorem dX8_each_157 : decode cX8_each 157 = .ok (.i2l, 1) := by decide +kernel
theorem dX8_each_158 : decode cX8_each 158 = .ok (.invokevirtual 105, 3) := by decide +kernel
theorem dX8_each_161 : decode cX8_each 161 = .ok (.invokevirtual 122, 3) := by decide +kernel
theorem dX8_each_164 : decode cX8_each 164 = .ok (.iinc 5 1, 3) := by decide +kernel
theorem dX8_each_167 : decode cX8_each 167 = .ok (.goto (-64), 3) := by decide +kernel
theorem dX8_each_170 : decode cX8_each 170 = .ok (.aload_n 0, 1) := by decide +kernel
theorem dX8_each_171 : decode cX8_each 171 = .ok (.getfield 92, 3) := by decide +kernel
theorem dX8_each_174 : decode cX8_each 174 = .ok (.ifCond .ne 7, 3) := by decide +kernel
theorem dX8_each_177 : decode cX8_each 177 = .ok (.iconst 1, 1) := by decide +kernel
theorem dX8_each_178 : decode cX8_each 178 = .ok (.goto 4, 3) := by decide +kernel
theorem dX8_each_181 : decode cX8_each 181 = .ok (.iconst 0, 1) := by decide +kernel
theorem dX8_each_182 : decode cX8_each 182 = .ok (.ireturn, 1) := by decide +kernel
theorem dX8_joined_0 : decode cX8_joined 0 = .ok (.aload_n 0, 1) := by decide +kernel
theorem dX8_joined_1 : decode cX8_joined 1 = .ok (.getfield 13, 3) := by decide +kernel
theorem dX8_joined_4 : decode cX8_joined 4 = .ok (.bipush 18, 2) := by decide +kernel
theorem dX8_joined_6 : decode cX8_joined 6 = .ok (.iaload, 1) := by decide +kernel
theorem dX8_joined_7 : decode cX8_joined 7 = .ok (.iload_n 2, 1) := by decide +kernel
theorem dX8_joined_8 : decode cX8_joined 8 = .ok (.isub, 1) := by decide +kernel
theorem dX8_joined_9 : decode cX8_joined 9 = .ok (.istore 4, 2) := by decide +kernel
theorem dX8_joined_11 : decode cX8_joined 11 = .ok (.iload_n 1, 1) := by decide +kernel
theorem dX8_joined_12 : decode cX8_joined 12 = .ok (.iload 4, 2) := by decide +kernel
theorem dX8_joined_14 : decode cX8_joined 14 = .ok (.if_icmp .ge 11, 3) := by decide +kernel
theorem dX8_joined_17 : decode cX8_joined 17 = .ok (.aload_n 0, 1) := by decide +kernel
theorem dX8_joined_18 : decode cX8_joined 18 = .ok (.bipush 18, 2) := by decide +kernel
theorem dX8_joined_20 : decode cX8_joined 20 = .ok (.iload_n 1, 1) := by decide +kernel
theorem dX8_joined_21 : decode cX8_joined 21 = .ok (.invokevirtual 88, 3) := by decide +kernel
theorem dX8_joined_24 : decode cX8_joined 24 = .ok (.ireturn, 1) := by decide +kernel
theorem dX8_joined_25 : decode cX8_joined 25 = .ok (.iload_n 1, 1) := by decide +kernel
theorem dX8_joined_26 : decode cX8_joined 26 = .ok (.iload 4, 2) := by decide +kernel
theorem dX8_joined_28 : decode cX8_joined 28 = .ok (.isub, 1) := by decide +kernel
theorem dX8_joined_29 : decode cX8_joined 29 = .ok (.iload_n 3, 1) := by decide +kernel
theorem dX8_joined_30 : decode cX8_joined 30 = .ok (.iadd, 1) := by decide +kernel
theorem dX8_joined_31 : decode cX8_joined 31 = .ok (.istore 5, 2) := by decide +kernel
theorem dX8_joined_33 : decode cX8_joined 33 = .ok (.iload 5, 2) := by decide +kernel
theorem dX8_joined_35 : decode cX8_joined 35 = .ok (.aload_n 0, 1) := by decide +kernel
theorem dX8_joined_36 : decode cX8_joined 36 = .ok (.getfield 13, 3) := by decide +kernel
theorem dX8_joined_39 : decode cX8_joined 39 = .ok (.bipush 19, 2) := by decide +kernel
theorem dX8_joined_41 : decode cX8_joined 41 = .ok (.iaload, 1) := by decide +kernel
theorem dX8_joined_42 : decode cX8_joined 42 = .ok (.if_icmp .ge 14, 3) := by decide +kernel
theorem dX8_joined_45 : decode cX8_joined 45 = .ok (.aload_n 0, 1) := by decide +kernel
theorem dX8_joined_46 : decode cX8_joined 46 = .ok (.bipush 19, 2) := by decide +kernel
theorem dX8_joined_48 : decode cX8_joined 48 = .ok (.iload 5, 2) := by decide +kernel
theorem dX8_joined_50 : decode cX8_joined 50 = .ok (.invokevirtual 88, 3) := by decide +kernel
theorem dX8_joined_53 : decode cX8_joined 53 = .ok (.goto 4, 3) := by decide +kernel
theorem dX8_joined_56 : decode cX8_joined 56 = .ok (.iconst 0, 1) := by decide +kernel
theorem dX8_joined_57 : decode cX8_joined 57 = .ok (.ireturn, 1) := by decide +kernel
theorem dX8_outer_0 : decode cX8_outer 0 = .ok (.aload_n 0, 1) := by decide +kernel
theorem dX8_outer_1 : decode cX8_outer 1 = .ok (.getfield 13, 3) := by decide +kernel
theorem dX8_outer_4 : decode cX8_outer 4 = .ok (.bipush 18, 2) := by decide +kernel
theorem dX8_outer_6 : decode cX8_outer 6 = .ok (.iaload, 1) := by decide +kernel
theorem dX8_outer_7 : decode cX8_outer 7 = .ok (.aload_n 0, 1) := by decide +kernel
theorem dX8_outer_8 : decode cX8_outer 8 = .ok (.getfield 13, 3) := by decide +kernel
theorem dX8_outer_11 : decode cX8_outer 11 = .ok (.bipush 19, 2) := by decide +kernel
theorem dX8_outer_13 : decode cX8_outer 13 = .ok (.iaload, 1) := by decide +kernel
theorem dX8_outer_14 : decode cX8_outer 14 = .ok (.iadd, 1) := by decide +kernel
theorem dX8_outer_15 : decode cX8_outer 15 = .ok (.istore_n 2, 1) := by decide +kernel
theorem dX8_outer_16 : decode cX8_outer 16 = .ok (.iload_n 2, 1) := by decide +kernel
theorem dX8_outer_17 : decode cX8_outer 17 = .ok (.iconst 3, 1) := by decide +kernel
theorem dX8_outer_18 : decode cX8_outer 18 = .ok (.if_icmp .le 9, 3) := by decide +kernel
theorem dX8_outer_21 : decode cX8_outer 21 = .ok (.aload_n 0, 1) := by decide +kernel
theorem dX8_outer_22 : decode cX8_outer 22 = .ok (.iconst 4, 1) := by decide +kernel
theorem dX8_outer_23 : decode cX8_outer 23 = .ok (.invokevirtual 95, 3) := by decide +kernel
theorem dX8_outer_26 : decode cX8_outer 26 = .ok (.ireturn, 1) := by decide +kernel
theorem dX8_outer_27 : decode cX8_outer 27 = .ok (.aload_n 0, 1) := by decide +kernel
theorem dX8_outer_28 : decode cX8_outer 28 = .ok (.iload_n 2, 1) := by decide +kernel
theorem dX8_outer_29 : decode cX8_outer 29 = .ok (.aload_n 0, 1) := by decide +kernel
theorem dX8_outer_30 : decode cX8_outer 30 = .ok (.iconst 0, 1) := by decide +kernel
theorem dX8_outer_31 : decode cX8_outer 31 = .ok (.iconst 0, 1) := by decide +kernel
theorem dX8_outer_32 : decode cX8_outer 32 = .ok (.iconst 0, 1) := by decide +kernel
theorem dX8_outer_33 : decode cX8_outer 33 = .ok (.invokevirtual 166, 3) := by decide +kernel
theorem dX8_outer_36 : decode cX8_outer 36 = .ok (.aload_n 0, 1) := by decide +kernel
theorem dX8_outer_37 : decode cX8_outer 37 = .ok (.iconst 1, 1) := by decide +kernel
theorem dX8_outer_38 : decode cX8_outer 38 = .ok (.iconst 0, 1) := by decide +kernel
theorem dX8_outer_39 : decode cX8_outer 39 = .ok (.iconst 0, 1) := by decide +kernel
theorem dX8_outer_40 : decode cX8_outer 40 = .ok (.invokevirtual 166, 3) := by decide +kernel
theorem dX8_outer_43 : decode cX8_outer 43 = .ok (.aload_n 0, 1) := by decide +kernel
theorem dX8_outer_44 : decode cX8_outer 44 = .ok (.iconst 2, 1) := by decide +kernel
theorem dX8_outer_45 : decode cX8_outer 45 = .ok (.iconst 0, 1) := by decide +kernel
theorem dX8_outer_46 : decode cX8_outer 46 = .ok (.iconst 0, 1) := by decide +kernel
theorem dX8_outer_47 : decode cX8_outer 47 = .ok (.invokevirtual 166, 3) := by decide +kernel
theorem dX8_outer_50 : decode cX8_outer 50 = .ok (.invokevirtual 128, 3) := by decide +kernel
theorem dX8_outer_53 : decode cX8_outer 53 = .ok (.ifCond .ne 5, 3) := by decide +kernel
theorem dX8_outer_56 : decode cX8_outer 56 = .ok (.iconst 0, 1) := by decide +kernel
theorem dX8_outer_57 : decode cX8_outer 57 = .ok (.ireturn, 1) := by decide +kernel
theorem dX8_outer_58 : decode cX8_outer 58 = .ok (.aload_n 0, 1) := by decide +kernel
theorem dX8_outer_59 : decode cX8_outer 59 = .ok (.bipush 8, 2) := by decide +kernel
theorem dX8_outer_61 : decode cX8_outer 61 = .ok (.invokevirtual 98, 3) := by decide +kernel
theorem dX8_outer_64 : decode cX8_outer 64 = .ok (.istore_n 3, 1) := by decide +kernel
theorem dX8_outer_65 : decode cX8_outer 65 = .ok (.aload_n 0, 1) := by decide +kernel
theorem dX8_outer_66 : decode cX8_outer 66 = .ok (.bipush 19, 2) := by decide +kernel
theorem dX8_outer_68 : decode cX8_outer 68 = .ok (.invokevirtual 98, 3) := by decide +kernel
theorem dX8_outer_71 : decode cX8_outer 71 = .ok (.istore 4, 2) := by decide +kernel
theorem dX8_outer_73 : decode cX8_outer 73 = .ok (.iconst 0, 1) := by decide +kernel
theorem dX8_outer_74 : decode cX8_outer 74 = .ok (.istore 5, 2) := by decide +kernel
theorem dX8_outer_76 : decode cX8_outer 76 = .ok (.iload 5, 2) := by decide +kernel
theorem dX8_outer_78 : decode cX8_outer 78 = .ok (.iload_n 3, 1) := by decide +kernel
theorem dX8_outer_79 : decode cX8_outer 79 = .ok (.if_icmp .ge 53, 3) := by decide +kernel
theorem dX8_outer_82 : decode cX8_outer 82 = .ok (.aload_n 0, 1) := by decide +kernel
theorem dX8_outer_83 : decode cX8_outer 83 = .ok (.getfield 92, 3) := by decide +kernel
theorem dX8_outer_86 : decode cX8_outer 86 = .ok (.ifCond .ne 46, 3) := by decide +kernel
theorem dX8_outer_89 : decode cX8_outer 89 = .ok (.aload_n 0, 1) := by decide +kernel
theorem dX8_outer_90 : decode cX8_outer 90 = .ok (.bipush 8, 2) := by decide +kernel
theorem dX8_outer_92 : decode cX8_outer 92 = .ok (.iload 5, 2) := by decide +kernel
theorem dX8_outer_94 : decode cX8_outer 94 = .ok (.aload_n 0, 1) := by decide +kernel
theorem dX8_outer_95 : decode cX8_outer 95 = .ok (.iload_n 1, 1) := by decide +kernel
theorem dX8_outer_96 : decode cX8_outer 96 = .ok (.aload_n 0, 1) := by decide +kernel
theorem dX8_outer_97 : decode cX8_outer 97 = .ok (.bipush 18, 2) := by decide +kernel
theorem dX8_outer_99 : decode cX8_outer 99 = .ok (.iload 5, 2) := by decide +kernel
theorem dX8_outer_101 : decode cX8_outer 101 = .ok (.iload 4, 2) := by decide +kernel
theorem dX8_outer_103 : decode cX8_outer 103 = .ok (.idiv, 1) := by decide +kernel
theorem dX8_outer_104 : decode cX8_outer 104 = .ok (.invokevirtual 119, 3) := by decide +kernel
theorem dX8_outer_107 : decode cX8_outer 107 = .ok (.i2l, 1) := by decide +kernel
theorem dX8_outer_108 : decode cX8_outer 108 = .ok (.aload_n 0, 1) := by decide +kernel
theorem dX8_outer_109 : decode cX8_outer 109 = .ok (.bipush 19, 2) := by decide +kernel
theorem dX8_outer_111 : decode cX8_outer 111 = .ok (.iload 5, 2) := by decide +kernel
theorem dX8_outer_113 : decode cX8_outer 113 = .ok (.iload 4, 2) := by decide +kernel
theorem dX8_outer_115 : decode cX8_outer 115 = .ok (.irem, 1) := by decide +kernel
theorem dX8_outer_116 : decode cX8_outer 116 = .ok (.invokevirtual 119, 3) := by decide +kernel
theorem dX8_outer_119 : decode cX8_outer 119 = .ok (.i2l, 1) := by decide +kernel
theorem dX8_outer_120 : decode cX8_outer 120 = .ok (.invokevirtual 105, 3) := by decide +kernel
theorem dX8_outer_123 : decode cX8_outer 123 = .ok (.invokevirtual 122, 3) := by decide +kernel
theorem dX8_outer_126 : decode cX8_outer 126 = .ok (.iinc 5 1, 3) := by decide +kernel
theorem dX8_outer_129 : decode cX8_outer 129 = .ok (.goto (-53), 3) := by decide +kernel
theorem dX8_outer_132 : decode cX8_outer 132 = .ok (.aload_n 0, 1) := by decide +kernel
theorem dX8_outer_133 : decode cX8_outer 133 = .ok (.getfield 92, 3) := by decide +kernel
theorem dX8_outer_136 : decode cX8_outer 136 = .ok (.ifCond .ne 7, 3) := by decide +kernel
theorem dX8_outer_139 : decode cX8_outer 139 = .ok (.iconst 1, 1) := by decide +kernel
theorem dX8_outer_140 : decode cX8_outer 140 = .ok (.goto 4, 3) := by decide +kernel
theorem dX8_outer_143 : decode cX8_outer 143 = .ok (.iconst 0, 1) := by decide +kernel
theorem dX8_outer_144 : decode cX8_outer 144 = .ok (.ireturn, 1) := by decide +kernel
theorem dX8_inner_0 : decode cX8_inner 0 = .ok (.aload_n 0, 1) := by decide +kernel
theorem dX8_inner_1 : decode cX8_inner 1 = .ok (.getfield 13, 3) := by decide +kernel
theorem dX8_inner_4 : decode cX8_inner 4 = .ok (.bipush 18, 2) := by decide +kernel
theorem dX8_inner_6 : decode cX8_inner 6 = .ok (.iaload, 1) := by decide +kernel
theorem dX8_inner_7 : decode cX8_inner 7 = .ok (.aload_n 0, 1) := by decide +kernel
theorem dX8_inner_8 : decode cX8_inner 8 = .ok (.getfield 13, 3) := by decide +kernel
theorem dX8_inner_11 : decode cX8_inner 11 = .ok (.bipush 19, 2) := by decide +kernel
theorem dX8_inner_13 : decode cX8_inner 13 = .ok (.iaload, 1) := by decide +kernel
theorem dX8_inner_14 : decode cX8_inner 14 = .ok (.iadd, 1) := by decide +kernel
theorem dX8_inner_15 : decode cX8_inner 15 = .ok (.istore_n 3, 1) := by decide +kernel
theorem dX8_inner_16 : decode cX8_inner 16 = .ok (.aload_n 0, 1) := by decide +kernel
theorem dX8_inner_17 : decode cX8_inner 17 = .ok (.getfield 13, 3) := by decide +kernel
theorem dX8_inner_20 : decode cX8_inner 20 = .ok (.bipush 18, 2) := by decide +kernel
theorem dX8_inner_22 : decode cX8_inner 22 = .ok (.iaload, 1) := by decide +kernel
theorem dX8_inner_23 : decode cX8_inner 23 = .ok (.ifCond .eq 18, 3) := by decide +kernel
theorem dX8_inner_26 : decode cX8_inner 26 = .ok (.aload_n 0, 1) := by decide +kernel
theorem dX8_inner_27 : decode cX8_inner 27 = .ok (.getfield 13, 3) := by decide +kernel
theorem dX8_inner_30 : decode cX8_inner 30 = .ok (.bipush 19, 2) := by decide +kernel
theorem dX8_inner_32 : decode cX8_inner 32 = .ok (.iaload, 1) := by decide +kernel
theorem dX8_inner_33 : decode cX8_inner 33 = .ok (.ifCond .eq 8, 3) := by decide +kernel
theorem dX8_inner_36 : decode cX8_inner 36 = .ok (.iload_n 3, 1) := by decide +kernel
theorem dX8_inner_37 : decode cX8_inner 37 = .ok (.iconst 5, 1) := by decide +kernel
theorem dX8_inner_38 : decode cX8_inner 38 = .ok (.if_icmp .le 9, 3) := by decide +kernel
theorem dX8_inner_41 : decode cX8_inner 41 = .ok (.aload_n 0, 1) := by decide +kernel
theorem dX8_inner_42 : decode cX8_inner 42 = .ok (.iconst 4, 1) := by decide +kernel
theorem dX8_inner_43 : decode cX8_inner 43 = .ok (.invokevirtual 95, 3) := by decide +kernel
theorem dX8_inner_46 : decode cX8_inner 46 = .ok (.ireturn, 1) := by decide +kernel
theorem dX8_inner_47 : decode cX8_inner 47 = .ok (.aload_n 0, 1) := by decide +kernel
theorem dX8_inner_48 : decode cX8_inner 48 = .ok (.bipush 18, 2) := by decide +kernel
theorem dX8_inner_50 : decode cX8_inner 50 = .ok (.invokevirtual 142, 3) := by decide +kernel
theorem dX8_inner_53 : decode cX8_inner 53 = .ok (.istore 4, 2) := by decide +kernel
theorem dX8_inner_55 : decode cX8_inner 55 = .ok (.iload 4, 2) := by decide +kernel
theorem dX8_inner_57 : decode cX8_inner 57 = .ok (.aload_n 0, 1) := by decide +kernel
theorem dX8_inner_58 : decode cX8_inner 58 = .ok (.bipush 19, 2) := by decide +kernel
theorem dX8_inner_60 : decode cX8_inner 60 = .ok (.iconst 0, 1) := by decide +kernel
theorem dX8_inner_61 : decode cX8_inner 61 = .ok (.invokevirtual 88, 3) := by decide +kernel
theorem dX8_inner_64 : decode cX8_inner 64 = .ok (.if_icmp .eq 9, 3) := by decide +kernel
theorem dX8_inner_67 : decode cX8_inner 67 = .ok (.aload_n 0, 1) := by decide +kernel
theorem dX8_inner_68 : decode cX8_inner 68 = .ok (.iconst 3, 1) := by decide +kernel
theorem dX8_inner_69 : decode cX8_inner 69 = .ok (.invokevirtual 95, 3) := by decide +kernel
theorem dX8_inner_72 : decode cX8_inner 72 = .ok (.ireturn, 1) := by decide +kernel
theorem dX8_inner_73 : decode cX8_inner 73 = .ok (.aload_n 0, 1) := by decide +kernel
theorem dX8_inner_74 : decode cX8_inner 74 = .ok (.iload_n 3, 1) := by decide +kernel
theorem dX8_inner_75 : decode cX8_inner 75 = .ok (.iconst 2, 1) := by decide +kernel
theorem dX8_inner_76 : decode cX8_inner 76 = .ok (.isub, 1) := by decide +kernel
theorem dX8_inner_77 : decode cX8_inner 77 = .ok (.aload_n 0, 1) := by decide +kernel
theorem dX8_inner_78 : decode cX8_inner 78 = .ok (.iconst 0, 1) := by decide +kernel
theorem dX8_inner_79 : decode cX8_inner 79 = .ok (.iconst 1, 1) := by decide +kernel
theorem dX8_inner_80 : decode cX8_inner 80 = .ok (.iconst 1, 1) := by decide +kernel
theorem dX8_inner_81 : decode cX8_inner 81 = .ok (.invokevirtual 166, 3) := by decide +kernel
theorem dX8_inner_84 : decode cX8_inner 84 = .ok (.aload_n 0, 1) := by decide +kernel
theorem dX8_inner_85 : decode cX8_inner 85 = .ok (.iconst 1, 1) := by decide +kernel
theorem dX8_inner_86 : decode cX8_inner 86 = .ok (.iconst 1, 1) := by decide +kernel
theorem dX8_inner_87 : decode cX8_inner 87 = .ok (.iconst 1, 1) := by decide +kernel
theorem dX8_inner_88 : decode cX8_inner 88 = .ok (.invokevirtual 166, 3) := by decide +kernel
theorem dX8_inner_91 : decode cX8_inner 91 = .ok (.aload_n 0, 1) := by decide +kernel
theorem dX8_inner_92 : decode cX8_inner 92 = .ok (.iconst 2, 1) := by decide +kernel
theorem dX8_inner_93 : decode cX8_inner 93 = .ok (.iconst 1, 1) := by decide +kernel
theorem dX8_inner_94 : decode cX8_inner 94 = .ok (.iconst 1, 1) := by decide +kernel
theorem dX8_inner_95 : decode cX8_inner 95 = .ok (.invokevirtual 166, 3) := by decide +kernel
theorem dX8_inner_98 : decode cX8_inner 98 = .ok (.invokevirtual 128, 3) := by decide +kernel
theorem dX8_inner_101 : decode cX8_inner 101 = .ok (.ifCond .ne 5, 3) := by decide +kernel
theorem dX8_inner_104 : decode cX8_inner 104 = .ok (.iconst 0, 1) := by decide +kernel
theorem dX8_inner_105 : decode cX8_inner 105 = .ok (.ireturn, 1) := by decide +kernel
theorem dX8_inner_106 : decode cX8_inner 106 = .ok (.aload_n 0, 1) := by decide +kernel
theorem dX8_inner_107 : decode cX8_inner 107 = .ok (.bipush 8, 2) := by decide +kernel
theorem dX8_inner_109 : decode cX8_inner 109 = .ok (.invokevirtual 98, 3) := by decide +kernel
theorem dX8_inner_112 : decode cX8_inner 112 = .ok (.istore 5, 2) := by decide +kernel
theorem dX8_inner_114 : decode cX8_inner 114 = .ok (.iconst 1, 1) := by decide +kernel
theorem dX8_inner_115 : decode cX8_inner 115 = .ok (.istore 6, 2) := by decide +kernel
theorem dX8_inner_117 : decode cX8_inner 117 = .ok (.iconst 1, 1) := by decide +kernel
theorem dX8_inner_118 : decode cX8_inner 118 = .ok (.istore 7, 2) := by decide +kernel
theorem dX8_inner_120 : decode cX8_inner 120 = .ok (.iload 7, 2) := by decide +kernel
theorem dX8_inner_122 : decode cX8_inner 122 = .ok (.aload_n 0, 1) := by decide +kernel
theorem dX8_inner_123 : decode cX8_inner 123 = .ok (.getfield 13, 3) := by decide +kernel
theorem dX8_inner_126 : decode cX8_inner 126 = .ok (.bipush 19, 2) := by decide +kernel
theorem dX8_inner_128 : decode cX8_inner 128 = .ok (.iaload, 1) := by decide +kernel
theorem dX8_inner_129 : decode cX8_inner 129 = .ok (.if_icmp .ge 22, 3) := by decide +kernel
theorem dX8_inner_132 : decode cX8_inner 132 = .ok (.iload 6, 2) := by decide +kernel
theorem dX8_inner_134 : decode cX8_inner 134 = .ok (.aload_n 0, 1) := by decide +kernel
theorem dX8_inner_135 : decode cX8_inner 135 = .ok (.bipush 19, 2) := by decide +kernel
theorem dX8_inner_137 : decode cX8_inner 137 = .ok (.iload 7, 2) := by decide +kernel
theorem dX8_inner_139 : decode cX8_inner 139 = .ok (.invokevirtual 88, 3) := by decide +kernel
theorem dX8_inner_142 : decode cX8_inner 142 = .ok (.imul, 1) := by decide +kernel
theorem dX8_inner_143 : decode cX8_inner 143 = .ok (.istore 6, 2) := by decide +kernel
theorem dX8_inner_145 : decode cX8_inner 145 = .ok (.iinc 7 1, 3) := by decide +kernel
theorem dX8_inner_148 : decode cX8_inner 148 = .ok (.goto (-28), 3) := by decide +kernel
theorem dX8_inner_151 : decode cX8_inner 151 = .ok (.iconst 0, 1) := by decide +kernel
theorem dX8_inner_152 : decode cX8_inner 152 = .ok (.istore 7, 2) := by decide +kernel
theorem dX8_inner_154 : decode cX8_inner 154 = .ok (.iload 7, 2) := by decide +kernel
theorem dX8_inner_156 : decode cX8_inner 156 = .ok (.iload 5, 2) := by decide +kernel
theorem dX8_inner_158 : decode cX8_inner 158 = .ok (.if_icmp .ge 109, 3) := by decide +kernel
theorem dX8_inner_161 : decode cX8_inner 161 = .ok (.aload_n 0, 1) := by decide +kernel
theorem dX8_inner_162 : decode cX8_inner 162 = .ok (.getfield 92, 3) := by decide +kernel
theorem dX8_inner_165 : decode cX8_inner 165 = .ok (.ifCond .ne 102, 3) := by decide +kernel
theorem dX8_inner_168 : decode cX8_inner 168 = .ok (.iconst 0, 1) := by decide +kernel
theorem dX8_inner_169 : decode cX8_inner 169 = .ok (.istore 8, 2) := by decide +kernel
theorem dX8_inner_171 : decode cX8_inner 171 = .ok (.iload 8, 2) := by decide +kernel
theorem dX8_inner_173 : decode cX8_inner 173 = .ok (.iload 4, 2) := by decide +kernel
theorem dX8_inner_175 : decode cX8_inner 175 = .ok (.if_icmp .ge 64, 3) := by decide +kernel
theorem dX8_inner_178 : decode cX8_inner 178 = .ok (.aload_n 0, 1) := by decide +kernel
theorem dX8_inner_179 : decode cX8_inner 179 = .ok (.getfield 92, 3) := by decide +kernel
theorem dX8_inner_182 : decode cX8_inner 182 = .ok (.ifCond .ne 57, 3) := by decide +kernel
theorem dX8_inner_185 : decode cX8_inner 185 = .ok (.aload_n 0, 1) := by decide +kernel
theorem dX8_inner_186 : decode cX8_inner 186 = .ok (.getfield 44, 3) := by decide +kernel
theorem dX8_inner_189 : decode cX8_inner 189 = .ok (.iload 8, 2) := by decide +kernel
theorem dX8_inner_191 : decode cX8_inner 191 = .ok (.aload_n 0, 1) := by decide +kernel
theorem dX8_inner_192 : decode cX8_inner 192 = .ok (.iload_n 2, 1) := by decide +kernel
theorem dX8_inner_193 : decode cX8_inner 193 = .ok (.aload_n 0, 1) := by decide +kernel
theorem dX8_inner_194 : decode cX8_inner 194 = .ok (.bipush 18, 2) := by decide +kernel
theorem dX8_inner_196 : decode cX8_inner 196 = .ok (.iload 7, 2) := by decide +kernel
theorem dX8_inner_198 : decode cX8_inner 198 = .ok (.iload 6, 2) := by decide +kernel
theorem dX8_inner_200 : decode cX8_inner 200 = .ok (.idiv, 1) := by decide +kernel
theorem dX8_inner_201 : decode cX8_inner 201 = .ok (.iload 4, 2) := by decide +kernel
theorem dX8_inner_203 : decode cX8_inner 203 = .ok (.imul, 1) := by decide +kernel
theorem dX8_inner_204 : decode cX8_inner 204 = .ok (.iload 8, 2) := by decide +kernel
theorem dX8_inner_206 : decode cX8_inner 206 = .ok (.iadd, 1) := by decide +kernel
theorem dX8_inner_207 : decode cX8_inner 207 = .ok (.invokevirtual 119, 3) := by decide +kernel
theorem dX8_inner_210 : decode cX8_inner 210 = .ok (.i2l, 1) := by decide +kernel
theorem dX8_inner_211 : decode cX8_inner 211 = .ok (.aload_n 0, 1) := by decide +kernel
theorem dX8_inner_212 : decode cX8_inner 212 = .ok (.bipush 19, 2) := by decide +kernel
theorem dX8_inner_214 : decode cX8_inner 214 = .ok (.iload 8, 2) := by decide +kernel
theorem dX8_inner_216 : decode cX8_inner 216 = .ok (.iload 6, 2) := by decide +kernel
theorem dX8_inner_218 : decode cX8_inner 218 = .ok (.imul, 1) := by decide +kernel
theorem dX8_inner_219 : decode cX8_inner 219 = .ok (.iload 7, 2) := by decide +kernel
theorem dX8_inner_221 : decode cX8_inner 221 = .ok (.iload 6, 2) := by decide +kernel
theorem dX8_inner_223 : decode cX8_inner 223 = .ok (.irem, 1) := by decide +kernel
theorem dX8_inner_224 : decode cX8_inner 224 = .ok (.iadd, 1) := by decide +kernel
theorem dX8_inner_225 : decode cX8_inner 225 = .ok (.invokevirtual 119, 3) := by decide +kernel
theorem dX8_inner_228 : decode cX8_inner 228 = .ok (.i2l, 1) := by decide +kernel
theorem dX8_inner_229 : decode cX8_inner 229 = .ok (.invokevirtual 105, 3) := by decide +kernel
theorem dX8_inner_232 : decode cX8_inner 232 = .ok (.iastore, 1) := by decide +kernel
theorem dX8_inner_233 : decode cX8_inner 233 = .ok (.iinc 8 1, 3) := by decide +kernel
theorem dX8_inner_236 : decode cX8_inner 236 = .ok (.goto (-65), 3) := by decide +kernel
theorem dX8_inner_239 : decode cX8_inner 239 = .ok (.aload_n 0, 1) := by decide +kernel
theorem dX8_inner_240 : decode cX8_inner 240 = .ok (.getfield 92, 3) := by decide +kernel
theorem dX8_inner_243 : decode cX8_inner 243 = .ok (.ifCond .ne 18, 3) := by decide +kernel
theorem dX8_inner_246 : decode cX8_inner 246 = .ok (.aload_n 0, 1) := by decide +kernel
theorem dX8_inner_247 : decode cX8_inner 247 = .ok (.bipush 8, 2) := by decide +kernel
theorem dX8_inner_249 : decode cX8_inner 249 = .ok (.iload 7, 2) := by decide +kernel
theorem dX8_inner_251 : decode cX8_inner 251 = .ok (.aload_n 0, 1) := by decide +kernel
theorem dX8_inner_252 : decode cX8_inner 252 = .ok (.iload_n 1, 1) := by decide +kernel
theorem dX8_inner_253 : decode cX8_inner 253 = .ok (.iload 4, 2) := by decide +kernel
theorem dX8_inner_255 : decode cX8_inner 255 = .ok (.invokevirtual 145, 3) := by decide +kernel
theorem dX8_inner_258 : decode cX8_inner 258 = .ok (.invokevirtual 122, 3) := by decide +kernel
theorem dX8_inner_261 : decode cX8_inner 261 = .ok (.iinc 7 1, 3) := by decide +kernel
theorem dX8_inner_264 : decode cX8_inner 264 = .ok (.goto (-110), 3) := by decide +kernel
theorem dX8_inner_267 : decode cX8_inner 267 = .ok (.aload_n 0, 1) := by decide +kernel
theorem dX8_inner_268 : decode cX8_inner 268 = .ok (.getfield 92, 3) := by decide +kernel
theorem dX8_inner_271 : decode cX8_inner 271 = .ok (.ifCond .ne 7, 3) := by decide +kernel
theorem dX8_inner_274 : decode cX8_inner 274 = .ok (.iconst 1, 1) := by decide +kernel
theorem dX8_inner_275 : decode cX8_inner 275 = .ok (.goto 4, 3) := by decide +kernel
theorem dX8_inner_278 : decode cX8_inner 278 = .ok (.iconst 0, 1) := by decide +kernel
theorem dX8_inner_279 : decode cX8_inner 279 = .ok (.ireturn, 1) := by decide +kernel
theorem dX8_reshape_0 : decode cX8_reshape 0 = .ok (.aload_n 0, 1) := by decide +kernel
theorem dX8_reshape_1 : decode cX8_reshape 1 = .ok (.bipush 18, 2) := by decide +kernel
theorem dX8_reshape_3 : decode cX8_reshape 3 = .ok (.invokevirtual 98, 3) := by decide +kernel
theorem dX8_reshape_6 : decode cX8_reshape 6 = .ok (.istore_n 1, 1) := by decide +kernel
theorem dX8_reshape_7 : decode cX8_reshape 7 = .ok (.aload_n 0, 1) := by decide +kernel
theorem dX8_reshape_8 : decode cX8_reshape 8 = .ok (.getfield 13, 3) := by decide +kernel
theorem dX8_reshape_11 : decode cX8_reshape 11 = .ok (.bipush 18, 2) := by decide +kernel
theorem dX8_reshape_13 : decode cX8_reshape 13 = .ok (.iaload, 1) := by decide +kernel
theorem dX8_reshape_14 : decode cX8_reshape 14 = .ok (.iconst 1, 1) := by decide +kernel
theorem dX8_reshape_15 : decode cX8_reshape 15 = .ok (.if_icmp .gt 8, 3) := by decide +kernel
theorem dX8_reshape_18 : decode cX8_reshape 18 = .ok (.iload_n 1, 1) := by decide +kernel
theorem dX8_reshape_19 : decode cX8_reshape 19 = .ok (.iconst 3, 1) := by decide +kernel
theorem dX8_reshape_20 : decode cX8_reshape 20 = .ok (.if_icmp .le 9, 3) := by decide +kernel
theorem dX8_reshape_23 : decode cX8_reshape 23 = .ok (.aload_n 0, 1) := by decide +kernel
theorem dX8_reshape_24 : decode cX8_reshape 24 = .ok (.iconst 4, 1) := by decide +kernel
theorem dX8_reshape_25 : decode cX8_reshape 25 = .ok (.invokevirtual 95, 3) := by decide +kernel
theorem dX8_reshape_28 : decode cX8_reshape 28 = .ok (.ireturn, 1) := by decide +kernel
theorem dX8_reshape_29 : decode cX8_reshape 29 = .ok (.iconst 0, 1) := by decide +kernel
theorem dX8_reshape_30 : decode cX8_reshape 30 = .ok (.istore_n 2, 1) := by decide +kernel
theorem dX8_reshape_31 : decode cX8_reshape 31 = .ok (.iload_n 2, 1) := by decide +kernel
theorem dX8_reshape_32 : decode cX8_reshape 32 = .ok (.iload_n 1, 1) := by decide +kernel
theorem dX8_reshape_33 : decode cX8_reshape 33 = .ok (.if_icmp .ge 25, 3) := by decide +kernel
theorem dX8_reshape_36 : decode cX8_reshape 36 = .ok (.aload_n 0, 1) := by decide +kernel
theorem dX8_reshape_37 : decode cX8_reshape 37 = .ok (.bipush 18, 2) := by decide +kernel
theorem dX8_reshape_39 : decode cX8_reshape 39 = .ok (.iload_n 2, 1) := by decide +kernel
theorem dX8_reshape_40 : decode cX8_reshape 40 = .ok (.invokevirtual 119, 3) := by decide +kernel
theorem dX8_reshape_43 : decode cX8_reshape 43 = .ok (.ifCond .ge 9, 3) := by decide +kernel
theorem dX8_reshape_46 : decode cX8_reshape 46 = .ok (.aload_n 0, 1) := by decide +kernel
theorem dX8_reshape_47 : decode cX8_reshape 47 = .ok (.iconst 2, 1) := by decide +kernel
theorem dX8_reshape_48 : decode cX8_reshape 48 = .ok (.invokevirtual 95, 3) := by decide +kernel
theorem dX8_reshape_51 : decode cX8_reshape 51 = .ok (.ireturn, 1) := by decide +kernel
theorem dX8_reshape_52 : decode cX8_reshape 52 = .ok (.iinc 2 1, 3) := by decide +kernel
theorem dX8_reshape_55 : decode cX8_reshape 55 = .ok (.goto (-24), 3) := by decide +kernel
theorem dX8_reshape_58 : decode cX8_reshape 58 = .ok (.aload_n 0, 1) := by decide +kernel
theorem dX8_reshape_59 : decode cX8_reshape 59 = .ok (.iload_n 1, 1) := by decide +kernel
theorem dX8_reshape_60 : decode cX8_reshape 60 = .ok (.iload_n 1, 1) := by decide +kernel
theorem dX8_reshape_61 : decode cX8_reshape 61 = .ok (.ifCond .le 13, 3) := by decide +kernel
theorem dX8_reshape_64 : decode cX8_reshape 64 = .ok (.aload_n 0, 1) := by decide +kernel
theorem dX8_reshape_65 : decode cX8_reshape 65 = .ok (.bipush 18, 2) := by decide +kernel
theorem dX8_reshape_67 : decode cX8_reshape 67 = .ok (.iconst 0, 1) := by decide +kernel
theorem dX8_reshape_68 : decode cX8_reshape 68 = .ok (.invokevirtual 119, 3) := by decide +kernel
theorem dX8_reshape_71 : decode cX8_reshape 71 = .ok (.goto 4, 3) := by decide +kernel
theorem dX8_reshape_74 : decode cX8_reshape 74 = .ok (.iconst 0, 1) := by decide +kernel
theorem dX8_reshape_75 : decode cX8_reshape 75 = .ok (.iload_n 1, 1) := by decide +kernel
theorem dX8_reshape_76 : decode cX8_reshape 76 = .ok (.iconst 1, 1) := by decide +kernel
theorem dX8_reshape_77 : decode cX8_reshape 77 = .ok (.if_icmp .le 13, 3) := by decide +kernel
theorem dX8_reshape_80 : decode cX8_reshape 80 = .ok (.aload_n 0, 1) := by decide +kernel
theorem dX8_reshape_81 : decode cX8_reshape 81 = .ok (.bipush 18, 2) := by decide +kernel
theorem dX8_reshape_83 : decode cX8_reshape 83 = .ok (.iconst 1, 1) := by decide +kernel
theorem dX8_reshape_84 : decode cX8_reshape 84 = .ok (.invokevirtual 119, 3) := by decide +kernel
theorem dX8_reshape_87 : decode cX8_reshape 87 = .ok (.goto 4, 3) := by decide +kernel
theorem dX8_reshape_90 : decode cX8_reshape 90 = .ok (.iconst 0, 1) := by decide +kernel
theorem dX8_reshape_91 : decode cX8_reshape 91 = .ok (.iload_n 1, 1) := by decide +kernel
theorem dX8_reshape_92 : decode cX8_reshape 92 = .ok (.iconst 2, 1) := by decide +kernel
theorem dX8_reshape_93 : decode cX8_reshape 93 = .ok (.if_icmp .le 13, 3) := by decide +kernel
theorem dX8_reshape_96 : decode cX8_reshape 96 = .ok (.aload_n 0, 1) := by decide +kernel
theorem dX8_reshape_97 : decode cX8_reshape 97 = .ok (.bipush 18, 2) := by decide +kernel
theorem dX8_reshape_99 : decode cX8_reshape 99 = .ok (.iconst 2, 1) := by decide +kernel
theorem dX8_reshape_100 : decode cX8_reshape 100 = .ok (.invokevirtual 119, 3) := by decide +kernel
theorem dX8_reshape_103 : decode cX8_reshape 103 = .ok (.goto 4, 3) := by decide +kernel
theorem dX8_reshape_106 : decode cX8_reshape 106 = .ok (.iconst 0, 1) := by decide +kernel
theorem dX8_reshape_107 : decode cX8_reshape 107 = .ok (.invokevirtual 128, 3) := by decide +kernel
theorem dX8_reshape_110 : decode cX8_reshape 110 = .ok (.ifCond .ne 5, 3) := by decide +kernel
theorem dX8_reshape_113 : decode cX8_reshape 113 = .ok (.iconst 0, 1) := by decide +kernel
theorem dX8_reshape_114 : decode cX8_reshape 114 = .ok (.ireturn, 1) := by decide +kernel
theorem dX8_reshape_115 : decode cX8_reshape 115 = .ok (.aload_n 0, 1) := by decide +kernel
theorem dX8_reshape_116 : decode cX8_reshape 116 = .ok (.bipush 8, 2) := by decide +kernel
theorem dX8_reshape_118 : decode cX8_reshape 118 = .ok (.invokevirtual 98, 3) := by decide +kernel
theorem dX8_reshape_121 : decode cX8_reshape 121 = .ok (.istore_n 2, 1) := by decide +kernel
theorem dX8_reshape_122 : decode cX8_reshape 122 = .ok (.aload_n 0, 1) := by decide +kernel
theorem dX8_reshape_123 : decode cX8_reshape 123 = .ok (.bipush 19, 2) := by decide +kernel
theorem dX8_reshape_125 : decode cX8_reshape 125 = .ok (.invokevirtual 98, 3) := by decide +kernel
theorem dX8_reshape_128 : decode cX8_reshape 128 = .ok (.istore_n 3, 1) := by decide +kernel
theorem dX8_reshape_129 : decode cX8_reshape 129 = .ok (.iload_n 2, 1) := by decide +kernel
theorem dX8_reshape_130 : decode cX8_reshape 130 = .ok (.ifCond .le 13, 3) := by decide +kernel
theorem dX8_reshape_133 : decode cX8_reshape 133 = .ok (.iload_n 3, 1) := by decide +kernel
theorem dX8_reshape_134 : decode cX8_reshape 134 = .ok (.ifCond .ne 9, 3) := by decide +kernel
theorem dX8_reshape_137 : decode cX8_reshape 137 = .ok (.aload_n 0, 1) := by decide +kernel
theorem dX8_reshape_138 : decode cX8_reshape 138 = .ok (.iconst 3, 1) := by decide +kernel
theorem dX8_reshape_139 : decode cX8_reshape 139 = .ok (.invokevirtual 95, 3) := by decide +kernel
theorem dX8_reshape_142 : decode cX8_reshape 142 = .ok (.ireturn, 1) := by decide +kernel
theorem dX8_reshape_143 : decode cX8_reshape 143 = .ok (.iconst 0, 1) := by decide +kernel
theorem dX8_reshape_144 : decode cX8_reshape 144 = .ok (.istore 4, 2) := by decide +kernel
theorem dX8_reshape_146 : decode cX8_reshape 146 = .ok (.iload 4, 2) := by decide +kernel
theorem dX8_reshape_148 : decode cX8_reshape 148 = .ok (.iload_n 2, 1) := by decide +kernel
theorem dX8_reshape_149 : decode cX8_reshape 149 = .ok (.if_icmp .ge 27, 3) := by decide +kernel
theorem dX8_reshape_152 : decode cX8_reshape 152 = .ok (.aload_n 0, 1) := by decide +kernel
theorem dX8_reshape_153 : decode cX8_reshape 153 = .ok (.bipush 8, 2) := by decide +kernel
theorem dX8_reshape_155 : decode cX8_reshape 155 = .ok (.iload 4, 2) := by decide +kernel
theorem dX8_reshape_157 : decode cX8_reshape 157 = .ok (.aload_n 0, 1) := by decide +kernel
theorem dX8_reshape_158 : decode cX8_reshape 158 = .ok (.bipush 19, 2) := by decide +kernel
theorem dX8_reshape_160 : decode cX8_reshape 160 = .ok (.iload 4, 2) := by decide +kernel
theorem dX8_reshape_162 : decode cX8_reshape 162 = .ok (.iload_n 3, 1) := by decide +kernel
theorem dX8_reshape_163 : decode cX8_reshape 163 = .ok (.irem, 1) := by decide +kernel
theorem dX8_reshape_164 : decode cX8_reshape 164 = .ok (.invokevirtual 119, 3) := by decide +kernel
theorem dX8_reshape_167 : decode cX8_reshape 167 = .ok (.invokevirtual 122, 3) := by decide +kernel
theorem dX8_reshape_170 : decode cX8_reshape 170 = .ok (.iinc 4 1, 3) := by decide +kernel
theorem dX8_reshape_173 : decode cX8_reshape 173 = .ok (.goto (-27), 3) := by decide +kernel
theorem dX8_reshape_176 : decode cX8_reshape 176 = .ok (.iconst 1, 1) := by decide +kernel
theorem dX8_reshape_177 : decode cX8_reshape 177 = .ok (.ireturn, 1) := by decide +kernel
theorem dX8_width_0 : decode cX8_width 0 = .ok (.aload_n 0, 1) := by decide +kernel
theorem dX8_width_1 : decode cX8_width 1 = .ok (.getfield 13, 3) := by decide +kernel
theorem dX8_width_4 : decode cX8_width 4 = .ok (.iload_n 1, 1) := by decide +kernel
theorem dX8_width_5 : decode cX8_width 5 = .ok (.iaload, 1) := by decide +kernel
theorem dX8_width_6 : decode cX8_width 6 = .ok (.iload_n 2, 1) := by decide +kernel
theorem dX8_width_7 : decode cX8_width 7 = .ok (.if_icmp .ne 11, 3) := by decide +kernel
theorem dX8_width_10 : decode cX8_width 10 = .ok (.aload_n 0, 1) := by decide +kernel
theorem dX8_width_11 : decode cX8_width 11 = .ok (.iload_n 1, 1) := by decide +kernel
theorem dX8_width_12 : decode cX8_width 12 = .ok (.invokevirtual 142, 3) := by decide +kernel
theorem dX8_width_15 : decode cX8_width 15 = .ok (.goto 4, 3) := by decide +kernel
theorem dX8_width_18 : decode cX8_width 18 = .ok (.iconst 1, 1) := by decide +kernel
theorem dX8_width_19 : decode cX8_width 19 = .ok (.ireturn, 1) := by decide +kernel
theorem dX8_before_0 : decode cX8_before 0 = .ok (.aload_n 0, 1) := by decide +kernel
theorem dX8_before_1 : decode cX8_before 1 = .ok (.getfield 13, 3) := by decide +kernel
theorem dX8_before_4 : decode cX8_before 4 = .ok (.iload_n 1, 1) := by decide +kernel
theorem dX8_before_5 : decode cX8_before 5 = .ok (.iaload, 1) := by decide +kernel
theorem dX8_before_6 : decode cX8_before 6 = .ok (.ifCond .ne 13, 3) := by decide +kernel
theorem dX8_before_9 : decode cX8_before 9 = .ok (.aload_n 0, 1) := by decide +kernel
theorem dX8_before_10 : decode cX8_before 10 = .ok (.iload_n 3, 1) := by decide +kernel
theorem dX8_before_11 : decode cX8_before 11 = .ok (.iload 4, 2) := by decide +kernel
theorem dX8_before_13 : decode cX8_before 13 = .ok (.invokevirtual 88, 3) := by decide +kernel
theorem dX8_before_16 : decode cX8_before 16 = .ok (.goto 10, 3) := by decide +kernel
theorem dX8_before_19 : decode cX8_before 19 = .ok (.aload_n 0, 1) := by decide +kernel
theorem dX8_before_20 : decode cX8_before 20 = .ok (.iload_n 1, 1) := by decide +kernel
theorem dX8_before_21 : decode cX8_before 21 = .ok (.iload 4, 2) := by decide +kernel
theorem dX8_before_23 : decode cX8_before 23 = .ok (.invokevirtual 88, 3) := by decide +kernel
theorem dX8_before_26 : decode cX8_before 26 = .ok (.ireturn, 1) := by decide +kernel
theorem dX8_join_0 : decode cX8_join 0 = .ok (.aload_n 0, 1) := by decide +kernel
theorem dX8_join_1 : decode cX8_join 1 = .ok (.getfield 13, 3) := by decide +kernel
theorem dX8_join_4 : decode cX8_join 4 = .ok (.bipush 18, 2) := by decide +kernel
theorem dX8_join_6 : decode cX8_join 6 = .ok (.iaload, 1) := by decide +kernel
theorem dX8_join_7 : decode cX8_join 7 = .ok (.istore_n 1, 1) := by decide +kernel
theorem dX8_join_8 : decode cX8_join 8 = .ok (.aload_n 0, 1) := by decide +kernel
theorem dX8_join_9 : decode cX8_join 9 = .ok (.getfield 13, 3) := by decide +kernel
theorem dX8_join_12 : decode cX8_join 12 = .ok (.bipush 19, 2) := by decide +kernel
theorem dX8_join_14 : decode cX8_join 14 = .ok (.iaload, 1) := by decide +kernel
theorem dX8_join_15 : decode cX8_join 15 = .ok (.istore_n 2, 1) := by decide +kernel
theorem dX8_join_16 : decode cX8_join 16 = .ok (.iload_n 1, 1) := by decide +kernel
theorem dX8_join_17 : decode cX8_join 17 = .ok (.iload_n 2, 1) := by decide +kernel
theorem dX8_join_18 : decode cX8_join 18 = .ok (.if_icmp .le 7, 3) := by decide +kernel
theorem dX8_join_21 : decode cX8_join 21 = .ok (.iload_n 1, 1) := by decide +kernel
theorem dX8_join_22 : decode cX8_join 22 = .ok (.goto 4, 3) := by decide +kernel
theorem dX8_join_25 : decode cX8_join 25 = .ok (.iload_n 2, 1) := by decide +kernel
theorem dX8_join_26 : decode cX8_join 26 = .ok (.istore_n 3, 1) := by decide +kernel
theorem dX8_join_27 : decode cX8_join 27 = .ok (.iload_n 3, 1) := by decide +kernel
theorem dX8_join_28 : decode cX8_join 28 = .ok (.ifCond .ne 5, 3) := by decide +kernel
theorem dX8_join_31 : decode cX8_join 31 = .ok (.iconst 1, 1) := by decide +kernel
theorem dX8_join_32 : decode cX8_join 32 = .ok (.istore_n 3, 1) := by decide +kernel
theorem dX8_join_33 : decode cX8_join 33 = .ok (.iload_n 1, 1) := by decide +kernel
theorem dX8_join_34 : decode cX8_join 34 = .ok (.ifCond .eq 27, 3) := by decide +kernel
theorem dX8_join_37 : decode cX8_join 37 = .ok (.iload_n 2, 1) := by decide +kernel
theorem dX8_join_38 : decode cX8_join 38 = .ok (.ifCond .eq 23, 3) := by decide +kernel
theorem dX8_join_41 : decode cX8_join 41 = .ok (.iload_n 1, 1) := by decide +kernel
theorem dX8_join_42 : decode cX8_join 42 = .ok (.iload_n 2, 1) := by decide +kernel
theorem dX8_join_43 : decode cX8_join 43 = .ok (.isub, 1) := by decide +kernel
theorem dX8_join_44 : decode cX8_join 44 = .ok (.iconst 1, 1) := by decide +kernel
theorem dX8_join_45 : decode cX8_join 45 = .ok (.if_icmp .gt 10, 3) := by decide +kernel
theorem dX8_join_48 : decode cX8_join 48 = .ok (.iload_n 2, 1) := by decide +kernel
theorem dX8_join_49 : decode cX8_join 49 = .ok (.iload_n 1, 1) := by decide +kernel
theorem dX8_join_50 : decode cX8_join 50 = .ok (.isub, 1) := by decide +kernel
theorem dX8_join_51 : decode cX8_join 51 = .ok (.iconst 1, 1) := by decide +kernel
theorem dX8_join_52 : decode cX8_join 52 = .ok (.if_icmp .le 9, 3) := by decide +kernel
theorem dX8_join_55 : decode cX8_join 55 = .ok (.aload_n 0, 1) := by decide +kernel
theorem dX8_join_56 : decode cX8_join 56 = .ok (.iconst 4, 1) := by decide +kernel
theorem dX8_join_57 : decode cX8_join 57 = .ok (.invokevirtual 95, 3) := by decide +kernel
theorem dX8_join_60 : decode cX8_join 60 = .ok (.ireturn, 1) := by decide +kernel
theorem dX8_join_61 : decode cX8_join 61 = .ok (.iconst 0, 1) := by decide +kernel
theorem dX8_join_62 : decode cX8_join 62 = .ok (.istore 4, 2) := by decide +kernel
theorem dX8_join_64 : decode cX8_join 64 = .ok (.iload 4, 2) := by decide +kernel
theorem dX8_join_66 : decode cX8_join 66 = .ok (.iload_n 3, 1) := by decide +kernel
theorem dX8_join_67 : decode cX8_join 67 = .ok (.iconst 1, 1) := by decide +kernel
theorem dX8_join_68 : decode cX8_join 68 = .ok (.isub, 1) := by decide +kernel
theorem dX8_join_69 : decode cX8_join 69 = .ok (.if_icmp .ge 42, 3) := by decide +kernel
theorem dX8_join_72 : decode cX8_join 72 = .ok (.iload_n 1, 1) := by decide +kernel
theorem dX8_join_73 : decode cX8_join 73 = .ok (.ifCond .eq 32, 3) := by decide +kernel
theorem dX8_join_76 : decode cX8_join 76 = .ok (.iload_n 2, 1) := by decide +kernel
theorem dX8_join_77 : decode cX8_join 77 = .ok (.ifCond .eq 28, 3) := by decide +kernel
theorem dX8_join_80 : decode cX8_join 80 = .ok (.aload_n 0, 1) := by decide +kernel
theorem dX8_join_81 : decode cX8_join 81 = .ok (.bipush 18, 2) := by decide +kernel
theorem dX8_join_83 : decode cX8_join 83 = .ok (.iload 4, 2) := by decide +kernel
theorem dX8_join_85 : decode cX8_join 85 = .ok (.invokevirtual 88, 3) := by decide +kernel
theorem dX8_join_88 : decode cX8_join 88 = .ok (.aload_n 0, 1) := by decide +kernel
theorem dX8_join_89 : decode cX8_join 89 = .ok (.bipush 19, 2) := by decide +kernel
theorem dX8_join_91 : decode cX8_join 91 = .ok (.iload 4, 2) := by decide +kernel
theorem dX8_join_93 : decode cX8_join 93 = .ok (.invokevirtual 88, 3) := by decide +kernel
theorem dX8_join_96 : decode cX8_join 96 = .ok (.if_icmp .eq 9, 3) := by decide +kernel
theorem dX8_join_99 : decode cX8_join 99 = .ok (.aload_n 0, 1) := by decide +kernel
theorem dX8_join_100 : decode cX8_join 100 = .ok (.iconst 3, 1) := by decide +kernel
theorem dX8_join_101 : decode cX8_join 101 = .ok (.invokevirtual 95, 3) := by decide +kernel
theorem dX8_join_104 : decode cX8_join 104 = .ok (.ireturn, 1) := by decide +kernel
theorem dX8_join_105 : decode cX8_join 105 = .ok (.iinc 4 1, 3) := by decide +kernel
theorem dX8_join_108 : decode cX8_join 108 = .ok (.goto (-44), 3) := by decide +kernel
theorem dX8_join_111 : decode cX8_join 111 = .ok (.iload_n 1, 1) := by decide +kernel
theorem dX8_join_112 : decode cX8_join 112 = .ok (.ifCond .ne 7, 3) := by decide +kernel
theorem dX8_join_115 : decode cX8_join 115 = .ok (.iconst 1, 1) := by decide +kernel
theorem dX8_join_116 : decode cX8_join 116 = .ok (.goto 10, 3) := by decide +kernel
theorem dX8_join_119 : decode cX8_join 119 = .ok (.aload_n 0, 1) := by decide +kernel
theorem dX8_join_120 : decode cX8_join 120 = .ok (.bipush 18, 2) := by decide +kernel
theorem dX8_join_122 : decode cX8_join 122 = .ok (.iload_n 3, 1) := by decide +kernel
theorem dX8_join_123 : decode cX8_join 123 = .ok (.invokevirtual 170, 3) := by decide +kernel
theorem dX8_join_126 : decode cX8_join 126 = .ok (.istore 4, 2) := by decide +kernel
theorem dX8_join_128 : decode cX8_join 128 = .ok (.iload_n 2, 1) := by decide +kernel
theorem dX8_join_129 : decode cX8_join 129 = .ok (.ifCond .ne 7, 3) := by decide +kernel
theorem dX8_join_132 : decode cX8_join 132 = .ok (.iconst 1, 1) := by decide +kernel
theorem dX8_join_133 : decode cX8_join 133 = .ok (.goto 10, 3) := by decide +kernel
theorem dX8_join_136 : decode cX8_join 136 = .ok (.aload_n 0, 1) := by decide +kernel
theorem dX8_join_137 : decode cX8_join 137 = .ok (.bipush 19, 2) := by decide +kernel
theorem dX8_join_139 : decode cX8_join 139 = .ok (.iload_n 3, 1) := by decide +kernel
theorem dX8_join_140 : decode cX8_join 140 = .ok (.invokevirtual 170, 3) := by decide +kernel
theorem dX8_join_143 : decode cX8_join 143 = .ok (.istore 5, 2) := by decide +kernel
theorem dX8_join_145 : decode cX8_join 145 = .ok (.iload_n 3, 1) := by decide +kernel
theorem dX8_join_146 : decode cX8_join 146 = .ok (.iconst 1, 1) := by decide +kernel
theorem dX8_join_147 : decode cX8_join 147 = .ok (.if_icmp .ne 11, 3) := by decide +kernel
theorem dX8_join_150 : decode cX8_join 150 = .ok (.iload 4, 2) := by decide +kernel
theorem dX8_join_152 : decode cX8_join 152 = .ok (.iload 5, 2) := by decide +kernel
theorem dX8_join_154 : decode cX8_join 154 = .ok (.iadd, 1) := by decide +kernel
theorem dX8_join_155 : decode cX8_join 155 = .ok (.goto 13, 3) := by decide +kernel
theorem dX8_join_158 : decode cX8_join 158 = .ok (.aload_n 0, 1) := by decide +kernel
theorem dX8_join_159 : decode cX8_join 159 = .ok (.bipush 18, 2) := by decide +kernel
theorem dX8_join_161 : decode cX8_join 161 = .ok (.iload_n 3, 1) := by decide +kernel
theorem dX8_join_162 : decode cX8_join 162 = .ok (.bipush 19, 2) := by decide +kernel
theorem dX8_join_164 : decode cX8_join 164 = .ok (.iconst 0, 1) := by decide +kernel
theorem dX8_join_165 : decode cX8_join 165 = .ok (.invokevirtual 173, 3) := by decide +kernel
theorem dX8_join_168 : decode cX8_join 168 = .ok (.istore 6, 2) := by decide +kernel
theorem dX8_join_170 : decode cX8_join 170 = .ok (.iload_n 3, 1) := by decide +kernel
theorem dX8_join_171 : decode cX8_join 171 = .ok (.iconst 2, 1) := by decide +kernel
theorem dX8_join_172 : decode cX8_join 172 = .ok (.if_icmp .ne 11, 3) := by decide +kernel
theorem dX8_join_175 : decode cX8_join 175 = .ok (.iload 4, 2) := by decide +kernel
theorem dX8_join_177 : decode cX8_join 177 = .ok (.iload 5, 2) := by decide +kernel
theorem dX8_join_179 : decode cX8_join 179 = .ok (.iadd, 1) := by decide +kernel
theorem dX8_join_180 : decode cX8_join 180 = .ok (.goto 22, 3) := by decide +kernel
theorem dX8_join_183 : decode cX8_join 183 = .ok (.iload_n 3, 1) := by decide +kernel
theorem dX8_join_184 : decode cX8_join 184 = .ok (.iconst 2, 1) := by decide +kernel
theorem dX8_join_185 : decode cX8_join 185 = .ok (.if_icmp .le 16, 3) := by decide +kernel
theorem dX8_join_188 : decode cX8_join 188 = .ok (.aload_n 0, 1) := by decide +kernel
theorem dX8_join_189 : decode cX8_join 189 = .ok (.bipush 18, 2) := by decide +kernel
theorem dX8_join_191 : decode cX8_join 191 = .ok (.iload_n 3, 1) := by decide +kernel
theorem dX8_join_192 : decode cX8_join 192 = .ok (.bipush 19, 2) := by decide +kernel
theorem dX8_join_194 : decode cX8_join 194 = .ok (.iconst 1, 1) := by decide +kernel
theorem dX8_join_195 : decode cX8_join 195 = .ok (.invokevirtual 173, 3) := by decide +kernel
theorem dX8_join_198 : decode cX8_join 198 = .ok (.goto 4, 3) := by decide +kernel
theorem dX8_join_201 : decode cX8_join 201 = .ok (.iconst 0, 1) := by decide +kernel
theorem dX8_join_202 : decode cX8_join 202 = .ok (.istore 7, 2) := by decide +kernel
theorem dX8_join_204 : decode cX8_join 204 = .ok (.aload_n 0, 1) := by decide +kernel
theorem dX8_join_205 : decode cX8_join 205 = .ok (.iload_n 3, 1) := by decide +kernel
theorem dX8_join_206 : decode cX8_join 206 = .ok (.iload 6, 2) := by decide +kernel
theorem dX8_join_208 : decode cX8_join 208 = .ok (.iload 7, 2) := by decide +kernel
theorem dX8_join_210 : decode cX8_join 210 = .ok (.iload_n 3, 1) := by decide +kernel
theorem dX8_join_211 : decode cX8_join 211 = .ok (.iconst 3, 1) := by decide +kernel
theorem dX8_join_212 : decode cX8_join 212 = .ok (.if_icmp .ne 11, 3) := by decide +kernel
theorem dX8_join_215 : decode cX8_join 215 = .ok (.iload 4, 2) := by decide +kernel
theorem dX8_join_217 : decode cX8_join 217 = .ok (.iload 5, 2) := by decide +kernel
theorem dX8_join_219 : decode cX8_join 219 = .ok (.iadd, 1) := by decide +kernel
theorem dX8_join_220 : decode cX8_join 220 = .ok (.goto 4, 3) := by decide +kernel
theorem dX8_join_223 : decode cX8_join 223 = .ok (.iconst 0, 1) := by decide +kernel
theorem dX8_join_224 : decode cX8_join 224 = .ok (.invokevirtual 128, 3) := by decide +kernel
theorem dX8_join_227 : decode cX8_join 227 = .ok (.ifCond .ne 5, 3) := by decide +kernel
theorem dX8_join_230 : decode cX8_join 230 = .ok (.iconst 0, 1) := by decide +kernel
theorem dX8_join_231 : decode cX8_join 231 = .ok (.ireturn, 1) := by decide +kernel
theorem dX8_join_232 : decode cX8_join 232 = .ok (.aload_n 0, 1) := by decide +kernel
theorem dX8_join_233 : decode cX8_join 233 = .ok (.bipush 8, 2) := by decide +kernel
theorem dX8_join_235 : decode cX8_join 235 = .ok (.invokevirtual 98, 3) := by decide +kernel
theorem dX8_join_238 : decode cX8_join 238 = .ok (.istore 8, 2) := by decide +kernel
theorem dX8_join_240 : decode cX8_join 240 = .ok (.iconst 0, 1) := by decide +kernel
theorem dX8_join_241 : decode cX8_join 241 = .ok (.istore 9, 2) := by decide +kernel
theorem dX8_join_243 : decode cX8_join 243 = .ok (.iload 9, 2) := by decide +kernel
theorem dX8_join_245 : decode cX8_join 245 = .ok (.iload 8, 2) := by decide +kernel
theorem dX8_join_247 : decode cX8_join 247 = .ok (.if_icmp .ge 94, 3) := by decide +kernel
theorem dX8_join_250 : decode cX8_join 250 = .ok (.iload 9, 2) := by decide +kernel
theorem dX8_join_252 : decode cX8_join 252 = .ok (.iload 4, 2) := by decide +kernel
theorem dX8_join_254 : decode cX8_join 254 = .ok (.iload 5, 2) := by decide +kernel
theorem dX8_join_256 : decode cX8_join 256 = .ok (.iadd, 1) := by decide +kernel
theorem dX8_join_257 : decode cX8_join 257 = .ok (.idiv, 1) := by decide +kernel
theorem dX8_join_258 : decode cX8_join 258 = .ok (.istore 10, 2) := by decide +kernel
theorem dX8_join_260 : decode cX8_join 260 = .ok (.iload 9, 2) := by decide +kernel
theorem dX8_join_262 : decode cX8_join 262 = .ok (.iload 4, 2) := by decide +kernel
theorem dX8_join_264 : decode cX8_join 264 = .ok (.iload 5, 2) := by decide +kernel
theorem dX8_join_266 : decode cX8_join 266 = .ok (.iadd, 1) := by decide +kernel
theorem dX8_join_267 : decode cX8_join 267 = .ok (.irem, 1) := by decide +kernel
theorem dX8_join_268 : decode cX8_join 268 = .ok (.istore 11, 2) := by decide +kernel
theorem dX8_join_270 : decode cX8_join 270 = .ok (.aload_n 0, 1) := by decide +kernel
theorem dX8_join_271 : decode cX8_join 271 = .ok (.bipush 8, 2) := by decide +kernel
theorem dX8_join_273 : decode cX8_join 273 = .ok (.iload 9, 2) := by decide +kernel
theorem dX8_join_275 : decode cX8_join 275 = .ok (.iload 11, 2) := by decide +kernel
theorem dX8_join_277 : decode cX8_join 277 = .ok (.iload 4, 2) := by decide +kernel
theorem dX8_join_279 : decode cX8_join 279 = .ok (.if_icmp .ge 28, 3) := by decide +kernel
theorem dX8_join_282 : decode cX8_join 282 = .ok (.aload_n 0, 1) := by decide +kernel
theorem dX8_join_283 : decode cX8_join 283 = .ok (.bipush 18, 2) := by decide +kernel
theorem dX8_join_285 : decode cX8_join 285 = .ok (.iload_n 1, 1) := by decide +kernel
theorem dX8_join_286 : decode cX8_join 286 = .ok (.ifCond .ne 7, 3) := by decide +kernel
theorem dX8_join_289 : decode cX8_join 289 = .ok (.iconst 0, 1) := by decide +kernel
theorem dX8_join_290 : decode cX8_join 290 = .ok (.goto 11, 3) := by decide +kernel
theorem dX8_join_293 : decode cX8_join 293 = .ok (.iload 4, 2) := by decide +kernel
theorem dX8_join_295 : decode cX8_join 295 = .ok (.iload 10, 2) := by decide +kernel
theorem dX8_join_297 : decode cX8_join 297 = .ok (.imul, 1) := by decide +kernel
theorem dX8_join_298 : decode cX8_join 298 = .ok (.iload 11, 2) := by decide +kernel
theorem dX8_join_300 : decode cX8_join 300 = .ok (.iadd, 1) := by decide +kernel
theorem dX8_join_301 : decode cX8_join 301 = .ok (.invokevirtual 119, 3) := by decide +kernel
theorem dX8_join_304 : decode cX8_join 304 = .ok (.goto 28, 3) := by decide +kernel
theorem dX8_join_307 : decode cX8_join 307 = .ok (.aload_n 0, 1) := by decide +kernel
theorem dX8_join_308 : decode cX8_join 308 = .ok (.bipush 19, 2) := by decide +kernel
theorem dX8_join_310 : decode cX8_join 310 = .ok (.iload_n 2, 1) := by decide +kernel
theorem dX8_join_311 : decode cX8_join 311 = .ok (.ifCond .ne 7, 3) := by decide +kernel
theorem dX8_join_314 : decode cX8_join 314 = .ok (.iconst 0, 1) := by decide +kernel
theorem dX8_join_315 : decode cX8_join 315 = .ok (.goto 14, 3) := by decide +kernel
theorem dX8_join_318 : decode cX8_join 318 = .ok (.iload 5, 2) := by decide +kernel
theorem dX8_join_320 : decode cX8_join 320 = .ok (.iload 10, 2) := by decide +kernel
theorem dX8_join_322 : decode cX8_join 322 = .ok (.imul, 1) := by decide +kernel
theorem dX8_join_323 : decode cX8_join 323 = .ok (.iload 11, 2) := by decide +kernel
theorem dX8_join_325 : decode cX8_join 325 = .ok (.iadd, 1) := by decide +kernel
theorem dX8_join_326 : decode cX8_join 326 = .ok (.iload 4, 2) := by decide +kernel
theorem dX8_join_328 : decode cX8_join 328 = .ok (.isub, 1) := by decide +kernel
theorem dX8_join_329 : decode cX8_join 329 = .ok (.invokevirtual 119, 3) := by decide +kernel
theorem dX8_join_332 : decode cX8_join 332 = .ok (.invokevirtual 122, 3) := by decide +kernel
theorem dX8_join_335 : decode cX8_join 335 = .ok (.iinc 9 1, 3) := by decide +kernel
theorem dX8_join_338 : decode cX8_join 338 = .ok (.goto (-95), 3) := by decide +kernel
theorem dX8_join_341 : decode cX8_join 341 = .ok (.iconst 1, 1) := by decide +kernel
theorem dX8_join_342 : decode cX8_join 342 = .ok (.ireturn, 1) := by decide +kernel
theorem dX8_pick_0 : decode cX8_pick 0 = .ok (.aload_n 0, 1) := by decide +kernel
theorem dX8_pick_1 : decode cX8_pick 1 = .ok (.getfield 13, 3) := by decide +kernel
theorem dX8_pick_4 : decode cX8_pick 4 = .ok (.bipush 18, 2) := by decide +kernel
theorem dX8_pick_6 : decode cX8_pick 6 = .ok (.iaload, 1) := by decide +kernel
theorem dX8_pick_7 : decode cX8_pick 7 = .ok (.aload_n 0, 1) := by decide +kernel
theorem dX8_pick_8 : decode cX8_pick 8 = .ok (.getfield 13, 3) := by decide +kernel
theorem dX8_pick_11 : decode cX8_pick 11 = .ok (.bipush 19, 2) := by decide +kernel
theorem dX8_pick_13 : decode cX8_pick 13 = .ok (.iaload, 1) := by decide +kernel
theorem dX8_pick_14 : decode cX8_pick 14 = .ok (.iadd, 1) := by decide +kernel
theorem dX8_pick_15 : decode cX8_pick 15 = .ok (.istore_n 1, 1) := by decide +kernel
theorem dX8_pick_16 : decode cX8_pick 16 = .ok (.aload_n 0, 1) := by decide +kernel
theorem dX8_pick_17 : decode cX8_pick 17 = .ok (.getfield 13, 3) := by decide +kernel
theorem dX8_pick_20 : decode cX8_pick 20 = .ok (.bipush 19, 2) := by decide +kernel
theorem dX8_pick_22 : decode cX8_pick 22 = .ok (.iaload, 1) := by decide +kernel
theorem dX8_pick_23 : decode cX8_pick 23 = .ok (.ifCond .eq 8, 3) := by decide +kernel
theorem dX8_pick_26 : decode cX8_pick 26 = .ok (.iload_n 1, 1) := by decide +kernel
theorem dX8_pick_27 : decode cX8_pick 27 = .ok (.iconst 4, 1) := by decide +kernel
theorem dX8_pick_28 : decode cX8_pick 28 = .ok (.if_icmp .le 9, 3) := by decide +kernel
theorem dX8_pick_31 : decode cX8_pick 31 = .ok (.aload_n 0, 1) := by decide +kernel
theorem dX8_pick_32 : decode cX8_pick 32 = .ok (.iconst 4, 1) := by decide +kernel
theorem dX8_pick_33 : decode cX8_pick 33 = .ok (.invokevirtual 95, 3) := by decide +kernel
theorem dX8_pick_36 : decode cX8_pick 36 = .ok (.ireturn, 1) := by decide +kernel
theorem dX8_pick_37 : decode cX8_pick 37 = .ok (.aload_n 0, 1) := by decide +kernel
theorem dX8_pick_38 : decode cX8_pick 38 = .ok (.iload_n 1, 1) := by decide +kernel
theorem dX8_pick_39 : decode cX8_pick 39 = .ok (.iconst 1, 1) := by decide +kernel
theorem dX8_pick_40 : decode cX8_pick 40 = .ok (.isub, 1) := by decide +kernel
theorem dX8_pick_41 : decode cX8_pick 41 = .ok (.aload_n 0, 1) := by decide +kernel
theorem dX8_pick_42 : decode cX8_pick 42 = .ok (.iconst 0, 1) := by decide +kernel
theorem dX8_pick_43 : decode cX8_pick 43 = .ok (.iconst 0, 1) := by decide +kernel
theorem dX8_pick_44 : decode cX8_pick 44 = .ok (.iconst 1, 1) := by decide +kernel
theorem dX8_pick_45 : decode cX8_pick 45 = .ok (.invokevirtual 166, 3) := by decide +kernel
theorem dX8_pick_48 : decode cX8_pick 48 = .ok (.aload_n 0, 1) := by decide +kernel
theorem dX8_pick_49 : decode cX8_pick 49 = .ok (.iconst 1, 1) := by decide +kernel
theorem dX8_pick_50 : decode cX8_pick 50 = .ok (.iconst 0, 1) := by decide +kernel
theorem dX8_pick_51 : decode cX8_pick 51 = .ok (.iconst 1, 1) := by decide +kernel
theorem dX8_pick_52 : decode cX8_pick 52 = .ok (.invokevirtual 166, 3) := by decide +kernel
theorem dX8_pick_55 : decode cX8_pick 55 = .ok (.aload_n 0, 1) := by decide +kernel
theorem dX8_pick_56 : decode cX8_pick 56 = .ok (.iconst 2, 1) := by decide +kernel
theorem dX8_pick_57 : decode cX8_pick 57 = .ok (.iconst 0, 1) := by decide +kernel
theorem dX8_pick_58 : decode cX8_pick 58 = .ok (.iconst 1, 1) := by decide +kernel
theorem dX8_pick_59 : decode cX8_pick 59 = .ok (.invokevirtual 166, 3) := by decide +kernel
theorem dX8_pick_62 : decode cX8_pick 62 = .ok (.invokevirtual 128, 3) := by decide +kernel
theorem dX8_pick_65 : decode cX8_pick 65 = .ok (.ifCond .ne 5, 3) := by decide +kernel
theorem dX8_pick_68 : decode cX8_pick 68 = .ok (.iconst 0, 1) := by decide +kernel
theorem dX8_pick_69 : decode cX8_pick 69 = .ok (.ireturn, 1) := by decide +kernel
theorem dX8_pick_70 : decode cX8_pick 70 = .ok (.iconst 1, 1) := by decide +kernel
theorem dX8_pick_71 : decode cX8_pick 71 = .ok (.istore_n 2, 1) := by decide +kernel
theorem dX8_pick_72 : decode cX8_pick 72 = .ok (.iconst 1, 1) := by decide +kernel
theorem dX8_pick_73 : decode cX8_pick 73 = .ok (.istore_n 3, 1) := by decide +kernel
theorem dX8_pick_74 : decode cX8_pick 74 = .ok (.iload_n 3, 1) := by decide +kernel
theorem dX8_pick_75 : decode cX8_pick 75 = .ok (.aload_n 0, 1) := by decide +kernel
theorem dX8_pick_76 : decode cX8_pick 76 = .ok (.getfield 13, 3) := by decide +kernel
theorem dX8_pick_79 : decode cX8_pick 79 = .ok (.bipush 19, 2) := by decide +kernel
theorem dX8_pick_81 : decode cX8_pick 81 = .ok (.iaload, 1) := by decide +kernel
theorem dX8_pick_82 : decode cX8_pick 82 = .ok (.if_icmp .ge 19, 3) := by decide +kernel
theorem dX8_pick_85 : decode cX8_pick 85 = .ok (.iload_n 2, 1) := by decide +kernel
theorem dX8_pick_86 : decode cX8_pick 86 = .ok (.aload_n 0, 1) := by decide +kernel
theorem dX8_pick_87 : decode cX8_pick 87 = .ok (.bipush 19, 2) := by decide +kernel
theorem dX8_pick_89 : decode cX8_pick 89 = .ok (.iload_n 3, 1) := by decide +kernel
theorem dX8_pick_90 : decode cX8_pick 90 = .ok (.invokevirtual 88, 3) := by decide +kernel
theorem dX8_pick_93 : decode cX8_pick 93 = .ok (.imul, 1) := by decide +kernel
theorem dX8_pick_94 : decode cX8_pick 94 = .ok (.istore_n 2, 1) := by decide +kernel
theorem dX8_pick_95 : decode cX8_pick 95 = .ok (.iinc 3 1, 3) := by decide +kernel
theorem dX8_pick_98 : decode cX8_pick 98 = .ok (.goto (-24), 3) := by decide +kernel
theorem dX8_pick_101 : decode cX8_pick 101 = .ok (.aload_n 0, 1) := by decide +kernel
theorem dX8_pick_102 : decode cX8_pick 102 = .ok (.bipush 18, 2) := by decide +kernel
theorem dX8_pick_104 : decode cX8_pick 104 = .ok (.invokevirtual 98, 3) := by decide +kernel
theorem dX8_pick_107 : decode cX8_pick 107 = .ok (.istore_n 3, 1) := by decide +kernel
theorem dX8_pick_108 : decode cX8_pick 108 = .ok (.iconst 0, 1) := by decide +kernel
theorem dX8_pick_109 : decode cX8_pick 109 = .ok (.istore 4, 2) := by decide +kernel
theorem dX8_pick_111 : decode cX8_pick 111 = .ok (.iload 4, 2) := by decide +kernel
theorem dX8_pick_113 : decode cX8_pick 113 = .ok (.iload_n 3, 1) := by decide +kernel
theorem dX8_pick_114 : decode cX8_pick 114 = .ok (.if_icmp .ge 83, 3) := by decide +kernel
theorem dX8_pick_117 : decode cX8_pick 117 = .ok (.aload_n 0, 1) := by decide +kernel
theorem dX8_pick_118 : decode cX8_pick 118 = .ok (.bipush 18, 2) := by decide +kernel
theorem dX8_pick_120 : decode cX8_pick 120 = .ok (.iload 4, 2) := by decide +kernel
theorem dX8_pick_122 : decode cX8_pick 122 = .ok (.invokevirtual 119, 3) := by decide +kernel
theorem dX8_pick_125 : decode cX8_pick 125 = .ok (.istore 5, 2) := by decide +kernel
theorem dX8_pick_127 : decode cX8_pick 127 = .ok (.iload 5, 2) := by decide +kernel
theorem dX8_pick_129 : decode cX8_pick 129 = .ok (.ifCond .lt 15, 3) := by decide +kernel
theorem dX8_pick_132 : decode cX8_pick 132 = .ok (.iload 5, 2) := by decide +kernel
theorem dX8_pick_134 : decode cX8_pick 134 = .ok (.aload_n 0, 1) := by decide +kernel
theorem dX8_pick_135 : decode cX8_pick 135 = .ok (.bipush 19, 2) := by decide +kernel
theorem dX8_pick_137 : decode cX8_pick 137 = .ok (.iconst 0, 1) := by decide +kernel
theorem dX8_pick_138 : decode cX8_pick 138 = .ok (.invokevirtual 88, 3) := by decide +kernel
theorem dX8_pick_141 : decode cX8_pick 141 = .ok (.if_icmp .lt 9, 3) := by decide +kernel
theorem dX8_pick_144 : decode cX8_pick 144 = .ok (.aload_n 0, 1) := by decide +kernel
theorem dX8_pick_145 : decode cX8_pick 145 = .ok (.iconst 5, 1) := by decide +kernel
theorem dX8_pick_146 : decode cX8_pick 146 = .ok (.invokevirtual 95, 3) := by decide +kernel
theorem dX8_pick_149 : decode cX8_pick 149 = .ok (.ireturn, 1) := by decide +kernel
theorem dX8_pick_150 : decode cX8_pick 150 = .ok (.iconst 0, 1) := by decide +kernel
theorem dX8_pick_151 : decode cX8_pick 151 = .ok (.istore 6, 2) := by decide +kernel
theorem dX8_pick_153 : decode cX8_pick 153 = .ok (.iload 6, 2) := by decide +kernel
theorem dX8_pick_155 : decode cX8_pick 155 = .ok (.iload_n 2, 1) := by decide +kernel
theorem dX8_pick_156 : decode cX8_pick 156 = .ok (.if_icmp .ge 35, 3) := by decide +kernel
theorem dX8_pick_159 : decode cX8_pick 159 = .ok (.aload_n 0, 1) := by decide +kernel
theorem dX8_pick_160 : decode cX8_pick 160 = .ok (.bipush 8, 2) := by decide +kernel
theorem dX8_pick_162 : decode cX8_pick 162 = .ok (.iload_n 2, 1) := by decide +kernel
theorem dX8_pick_163 : decode cX8_pick 163 = .ok (.iload 4, 2) := by decide +kernel
theorem dX8_pick_165 : decode cX8_pick 165 = .ok (.imul, 1) := by decide +kernel
theorem dX8_pick_166 : decode cX8_pick 166 = .ok (.iload 6, 2) := by decide +kernel
theorem dX8_pick_168 : decode cX8_pick 168 = .ok (.iadd, 1) := by decide +kernel
theorem dX8_pick_169 : decode cX8_pick 169 = .ok (.aload_n 0, 1) := by decide +kernel
theorem dX8_pick_170 : decode cX8_pick 170 = .ok (.bipush 19, 2) := by decide +kernel
theorem dX8_pick_172 : decode cX8_pick 172 = .ok (.iload_n 2, 1) := by decide +kernel
theorem dX8_pick_173 : decode cX8_pick 173 = .ok (.iload 5, 2) := by decide +kernel
theorem dX8_pick_175 : decode cX8_pick 175 = .ok (.imul, 1) := by decide +kernel
theorem dX8_pick_176 : decode cX8_pick 176 = .ok (.iload 6, 2) := by decide +kernel
theorem dX8_pick_178 : decode cX8_pick 178 = .ok (.iadd, 1) := by decide +kernel
theorem dX8_pick_179 : decode cX8_pick 179 = .ok (.invokevirtual 119, 3) := by decide +kernel
theorem dX8_pick_182 : decode cX8_pick 182 = .ok (.invokevirtual 122, 3) := by decide +kernel
theorem dX8_pick_185 : decode cX8_pick 185 = .ok (.iinc 6 1, 3) := by decide +kernel
theorem dX8_pick_188 : decode cX8_pick 188 = .ok (.goto (-35), 3) := by decide +kernel
theorem dX8_pick_191 : decode cX8_pick 191 = .ok (.iinc 4 1, 3) := by decide +kernel
theorem dX8_pick_194 : decode cX8_pick 194 = .ok (.goto (-83), 3) := by decide +kernel
theorem dX8_pick_197 : decode cX8_pick 197 = .ok (.iconst 1, 1) := by decide +kernel
theorem dX8_pick_198 : decode cX8_pick 198 = .ok (.ireturn, 1) := by decide +kernel
theorem dX8_term_0 : decode cX8_term 0 = .ok (.aload_n 0, 1) := by decide +kernel
theorem dX8_term_1 : decode cX8_term 1 = .ok (.getfield 22, 3) := by decide +kernel
theorem dX8_term_4 : decode cX8_term 4 = .ok (.iload_n 1, 1) := by decide +kernel
theorem dX8_term_5 : decode cX8_term 5 = .ok (.iaload, 1) := by decide +kernel
theorem dX8_term_6 : decode cX8_term 6 = .ok (.iconst 1, 1) := by decide +kernel
theorem dX8_term_7 : decode cX8_term 7 = .ok (.if_icmp .ne 44, 3) := by decide +kernel
theorem dX8_term_10 : decode cX8_term 10 = .ok (.aload_n 0, 1) := by decide +kernel
theorem dX8_term_11 : decode cX8_term 11 = .ok (.getfield 13, 3) := by decide +kernel
theorem dX8_term_14 : decode cX8_term 14 = .ok (.bipush 9, 2) := by decide +kernel
theorem dX8_term_16 : decode cX8_term 16 = .ok (.aload_n 0, 1) := by decide +kernel
theorem dX8_term_17 : decode cX8_term 17 = .ok (.getfield 25, 3) := by decide +kernel
theorem dX8_term_20 : decode cX8_term 20 = .ok (.iload_n 1, 1) := by decide +kernel
theorem dX8_term_21 : decode cX8_term 21 = .ok (.iaload, 1) := by decide +kernel
theorem dX8_term_22 : decode cX8_term 22 = .ok (.iadd, 1) := by decide +kernel
theorem dX8_term_23 : decode cX8_term 23 = .ok (.iaload, 1) := by decide +kernel
theorem dX8_term_24 : decode cX8_term 24 = .ok (.ifCond .ge 10, 3) := by decide +kernel
theorem dX8_term_27 : decode cX8_term 27 = .ok (.aload_n 0, 1) := by decide +kernel
theorem dX8_term_28 : decode cX8_term 28 = .ok (.bipush 6, 2) := by decide +kernel
theorem dX8_term_30 : decode cX8_term 30 = .ok (.invokevirtual 95, 3) := by decide +kernel
theorem dX8_term_33 : decode cX8_term 33 = .ok (.ireturn, 1) := by decide +kernel
theorem dX8_term_34 : decode cX8_term 34 = .ok (.aload_n 0, 1) := by decide +kernel
theorem dX8_term_35 : decode cX8_term 35 = .ok (.bipush 9, 2) := by decide +kernel
theorem dX8_term_37 : decode cX8_term 37 = .ok (.aload_n 0, 1) := by decide +kernel
theorem dX8_term_38 : decode cX8_term 38 = .ok (.getfield 25, 3) := by decide +kernel
theorem dX8_term_41 : decode cX8_term 41 = .ok (.iload_n 1, 1) := by decide +kernel
theorem dX8_term_42 : decode cX8_term 42 = .ok (.iaload, 1) := by decide +kernel
theorem dX8_term_43 : decode cX8_term 43 = .ok (.iadd, 1) := by decide +kernel
theorem dX8_term_44 : decode cX8_term 44 = .ok (.bipush 7, 2) := by decide +kernel
theorem dX8_term_46 : decode cX8_term 46 = .ok (.invokevirtual 138, 3) := by decide +kernel
theorem dX8_term_49 : decode cX8_term 49 = .ok (.iconst 1, 1) := by decide +kernel
theorem dX8_term_50 : decode cX8_term 50 = .ok (.ireturn, 1) := by decide +kernel
theorem dX8_term_51 : decode cX8_term 51 = .ok (.aload_n 0, 1) := by decide +kernel
theorem dX8_term_52 : decode cX8_term 52 = .ok (.getfield 28, 3) := by decide +kernel
theorem dX8_term_55 : decode cX8_term 55 = .ok (.iload_n 1, 1) := by decide +kernel
theorem dX8_term_56 : decode cX8_term 56 = .ok (.iaload, 1) := by decide +kernel
theorem dX8_term_57 : decode cX8_term 57 = .ok (.istore_n 2, 1) := by decide +kernel
theorem dX8_term_58 : decode cX8_term 58 = .ok (.iload_n 2, 1) := by decide +kernel
theorem dX8_term_59 : decode cX8_term 59 = .ok (.bipush 48, 2) := by decide +kernel
theorem dX8_term_61 : decode cX8_term 61 = .ok (.if_icmp .le 9, 3) := by decide +kernel
theorem dX8_term_64 : decode cX8_term 64 = .ok (.aload_n 0, 1) := by decide +kernel
theorem dX8_term_65 : decode cX8_term 65 = .ok (.iconst 1, 1) := by decide +kernel
theorem dX8_term_66 : decode cX8_term 66 = .ok (.invokevirtual 95, 3) := by decide +kernel
theorem dX8_term_69 : decode cX8_term 69 = .ok (.ireturn, 1) := by decide +kernel
theorem dX8_term_70 : decode cX8_term 70 = .ok (.aload_n 0, 1) := by decide +kernel
theorem dX8_term_71 : decode cX8_term 71 = .ok (.getfield 13, 3) := by decide +kernel
theorem dX8_term_74 : decode cX8_term 74 = .ok (.bipush 7, 2) := by decide +kernel
theorem dX8_term_76 : decode cX8_term 76 = .ok (.iload_n 2, 1) := by decide +kernel
theorem dX8_term_77 : decode cX8_term 77 = .ok (.iconst 1, 1) := by decide +kernel
theorem dX8_term_78 : decode cX8_term 78 = .ok (.if_icmp .ne 7, 3) := by decide +kernel
theorem dX8_term_81 : decode cX8_term 81 = .ok (.iconst 0, 1) := by decide +kernel
theorem dX8_term_82 : decode cX8_term 82 = .ok (.goto 4, 3) := by decide +kernel
theorem dX8_term_85 : decode cX8_term 85 = .ok (.iconst 1, 1) := by decide +kernel
theorem dX8_term_86 : decode cX8_term 86 = .ok (.iastore, 1) := by decide +kernel
theorem dX8_term_87 : decode cX8_term 87 = .ok (.aload_n 0, 1) := by decide +kernel
theorem dX8_term_88 : decode cX8_term 88 = .ok (.getfield 16, 3) := by decide +kernel
theorem dX8_term_91 : decode cX8_term 91 = .ok (.bipush 21, 2) := by decide +kernel
theorem dX8_term_93 : decode cX8_term 93 = .ok (.iload_n 2, 1) := by decide +kernel
theorem dX8_term_94 : decode cX8_term 94 = .ok (.iastore, 1) := by decide +kernel
theorem dX8_term_95 : decode cX8_term 95 = .ok (.iconst 0, 1) := by decide +kernel
theorem dX8_term_96 : decode cX8_term 96 = .ok (.istore_n 3, 1) := by decide +kernel
theorem dX8_term_97 : decode cX8_term 97 = .ok (.iload_n 3, 1) := by decide +kernel
theorem dX8_term_98 : decode cX8_term 98 = .ok (.iload_n 2, 1) := by decide +kernel
theorem dX8_term_99 : decode cX8_term 99 = .ok (.if_icmp .ge 29, 3) := by decide +kernel
theorem dX8_term_102 : decode cX8_term 102 = .ok (.aload_n 0, 1) := by decide +kernel
theorem dX8_term_103 : decode cX8_term 103 = .ok (.bipush 7, 2) := by decide +kernel
theorem dX8_term_105 : decode cX8_term 105 = .ok (.iload_n 3, 1) := by decide +kernel
theorem dX8_term_106 : decode cX8_term 106 = .ok (.aload_n 0, 1) := by decide +kernel
theorem dX8_term_107 : decode cX8_term 107 = .ok (.getfield 31, 3) := by decide +kernel
theorem dX8_term_110 : decode cX8_term 110 = .ok (.aload_n 0, 1) := by decide +kernel
theorem dX8_term_111 : decode cX8_term 111 = .ok (.getfield 25, 3) := by decide +kernel
theorem dX8_term_114 : decode cX8_term 114 = .ok (.iload_n 1, 1) := by decide +kernel
theorem dX8_term_115 : decode cX8_term 115 = .ok (.iaload, 1) := by decide +kernel
theorem dX8_term_116 : decode cX8_term 116 = .ok (.iload_n 3, 1) := by decide +kernel
theorem dX8_term_117 : decode cX8_term 117 = .ok (.iadd, 1) := by decide +kernel
theorem dX8_term_118 : decode cX8_term 118 = .ok (.iaload, 1) := by decide +kernel
theorem dX8_term_119 : decode cX8_term 119 = .ok (.invokevirtual 122, 3) := by decide +kernel
theorem dX8_term_122 : decode cX8_term 122 = .ok (.iinc 3 1, 3) := by decide +kernel
theorem dX8_term_125 : decode cX8_term 125 = .ok (.goto (-28), 3) := by decide +kernel
theorem dX8_term_128 : decode cX8_term 128 = .ok (.iconst 1, 1) := by decide +kernel
theorem dX8_term_129 : decode cX8_term 129 = .ok (.ireturn, 1) := by decide +kernel
theorem dX8_arrive_0 : decode cX8_arrive 0 = .ok (.aload_n 0, 1) := by decide +kernel
theorem dX8_arrive_1 : decode cX8_arrive 1 = .ok (.getfield 38, 3) := by decide +kernel
theorem dX8_arrive_4 : decode cX8_arrive 4 = .ok (.iload_n 1, 1) := by decide +kernel
theorem dX8_arrive_5 : decode cX8_arrive 5 = .ok (.baload, 1) := by decide +kernel
theorem dX8_arrive_6 : decode cX8_arrive 6 = .ok (.ifCond .ne 11, 3) := by decide +kernel
theorem dX8_arrive_9 : decode cX8_arrive 9 = .ok (.aload_n 0, 1) := by decide +kernel
theorem dX8_arrive_10 : decode cX8_arrive 10 = .ok (.bipush 7, 2) := by decide +kernel
theorem dX8_arrive_12 : decode cX8_arrive 12 = .ok (.iload_n 1, 1) := by decide +kernel
theorem dX8_arrive_13 : decode cX8_arrive 13 = .ok (.invokevirtual 138, 3) := by decide +kernel
theorem dX8_arrive_16 : decode cX8_arrive 16 = .ok (.return_, 1) := by decide +kernel
theorem dX8_arrive_17 : decode cX8_arrive 17 = .ok (.aload_n 0, 1) := by decide +kernel
theorem dX8_arrive_18 : decode cX8_arrive 18 = .ok (.getfield 38, 3) := by decide +kernel
theorem dX8_arrive_21 : decode cX8_arrive 21 = .ok (.iload_n 1, 1) := by decide +kernel
theorem dX8_arrive_22 : decode cX8_arrive 22 = .ok (.iconst 0, 1) := by decide +kernel
theorem dX8_arrive_23 : decode cX8_arrive 23 = .ok (.bastore, 1) := by decide +kernel
theorem dX8_arrive_24 : decode cX8_arrive 24 = .ok (.aload_n 0, 1) := by decide +kernel
theorem dX8_arrive_25 : decode cX8_arrive 25 = .ok (.bipush 7, 2) := by decide +kernel
theorem dX8_arrive_27 : decode cX8_arrive 27 = .ok (.bipush 18, 2) := by decide +kernel
theorem dX8_arrive_29 : decode cX8_arrive 29 = .ok (.invokevirtual 138, 3) := by decide +kernel
theorem dX8_arrive_32 : decode cX8_arrive 32 = .ok (.aload_n 0, 1) := by decide +kernel
theorem dX8_arrive_33 : decode cX8_arrive 33 = .ok (.iload_n 1, 1) := by decide +kernel
theorem dX8_arrive_34 : decode cX8_arrive 34 = .ok (.bipush 19, 2) := by decide +kernel
theorem dX8_arrive_36 : decode cX8_arrive 36 = .ok (.invokevirtual 138, 3) := by decide +kernel
theorem dX8_arrive_39 : decode cX8_arrive 39 = .ok (.aload_n 0, 1) := by decide +kernel
theorem dX8_arrive_40 : decode cX8_arrive 40 = .ok (.aload_n 0, 1) := by decide +kernel
theorem dX8_arrive_41 : decode cX8_arrive 41 = .ok (.getfield 41, 3) := by decide +kernel
theorem dX8_arrive_44 : decode cX8_arrive 44 = .ok (.iload_n 1, 1) := by decide +kernel
theorem dX8_arrive_45 : decode cX8_arrive 45 = .ok (.iaload, 1) := by decide +kernel
theorem dX8_arrive_46 : decode cX8_arrive 46 = .ok (.invokevirtual 177, 3) := by decide +kernel
theorem dX8_arrive_49 : decode cX8_arrive 49 = .ok (.ifCond .eq 20, 3) := by decide +kernel
theorem dX8_arrive_52 : decode cX8_arrive 52 = .ok (.aload_n 0, 1) := by decide +kernel
theorem dX8_arrive_53 : decode cX8_arrive 53 = .ok (.bipush 8, 2) := by decide +kernel
theorem dX8_arrive_55 : decode cX8_arrive 55 = .ok (.iload_n 1, 1) := by decide +kernel
theorem dX8_arrive_56 : decode cX8_arrive 56 = .ok (.invokevirtual 138, 3) := by decide +kernel
theorem dX8_arrive_59 : decode cX8_arrive 59 = .ok (.aload_n 0, 1) := by decide +kernel
theorem dX8_arrive_60 : decode cX8_arrive 60 = .ok (.aload_n 0, 1) := by decide +kernel
theorem dX8_arrive_61 : decode cX8_arrive 61 = .ok (.getfield 180, 3) := by decide +kernel
theorem dX8_arrive_64 : decode cX8_arrive 64 = .ok (.iconst 1, 1) := by decide +kernel
theorem dX8_arrive_65 : decode cX8_arrive 65 = .ok (.iadd, 1) := by decide +kernel
theorem dX8_arrive_66 : decode cX8_arrive 66 = .ok (.putfield 180, 3) := by decide +kernel
theorem dX8_arrive_69 : decode cX8_arrive 69 = .ok (.return_, 1) := by decide +kernel
theorem dX8_evaluate_0 : decode cX8_evaluate 0 = .ok (.iconst 0, 1) := by decide +kernel
theorem dX8_evaluate_1 : decode cX8_evaluate 1 = .ok (.istore_n 2, 1) := by decide +kernel
theorem dX8_evaluate_2 : decode cX8_evaluate 2 = .ok (.aload_n 0, 1) := by decide +kernel
theorem dX8_evaluate_3 : decode cX8_evaluate 3 = .ok (.iconst 0, 1) := by decide +kernel
theorem dX8_evaluate_4 : decode cX8_evaluate 4 = .ok (.putfield 92, 3) := by decide +kernel
theorem dX8_evaluate_7 : decode cX8_evaluate 7 = .ok (.aload_n 0, 1) := by decide +kernel
theorem dX8_evaluate_8 : decode cX8_evaluate 8 = .ok (.iconst 0, 1) := by decide +kernel
theorem dX8_evaluate_9 : decode cX8_evaluate 9 = .ok (.putfield 180, 3) := by decide +kernel
theorem dX8_evaluate_12 : decode cX8_evaluate 12 = .ok (.aload_n 0, 1) := by decide +kernel
theorem dX8_evaluate_13 : decode cX8_evaluate 13 = .ok (.getfield 38, 3) := by decide +kernel
theorem dX8_evaluate_16 : decode cX8_evaluate 16 = .ok (.iconst 0, 1) := by decide +kernel
theorem dX8_evaluate_17 : decode cX8_evaluate 17 = .ok (.iconst 0, 1) := by decide +kernel
theorem dX8_evaluate_18 : decode cX8_evaluate 18 = .ok (.bastore, 1) := by decide +kernel
theorem dX8_evaluate_19 : decode cX8_evaluate 19 = .ok (.aload_n 0, 1) := by decide +kernel
theorem dX8_evaluate_20 : decode cX8_evaluate 20 = .ok (.getfield 57, 3) := by decide +kernel
theorem dX8_evaluate_23 : decode cX8_evaluate 23 = .ok (.iconst 1, 1) := by decide +kernel
theorem dX8_evaluate_24 : decode cX8_evaluate 24 = .ok (.isub, 1) := by decide +kernel
theorem dX8_evaluate_25 : decode cX8_evaluate 25 = .ok (.istore_n 3, 1) := by decide +kernel
theorem dX8_evaluate_26 : decode cX8_evaluate 26 = .ok (.iload_n 3, 1) := by decide +kernel
theorem dX8_evaluate_27 : decode cX8_evaluate 27 = .ok (.iload_n 1, 1) := by decide +kernel
theorem dX8_evaluate_28 : decode cX8_evaluate 28 = .ok (.if_icmp .lt 164, 3) := by decide +kernel
theorem dX8_evaluate_31 : decode cX8_evaluate 31 = .ok (.aload_n 0, 1) := by decide +kernel
theorem dX8_evaluate_32 : decode cX8_evaluate 32 = .ok (.getfield 92, 3) := by decide +kernel
theorem dX8_evaluate_35 : decode cX8_evaluate 35 = .ok (.ifCond .ne 157, 3) := by decide +kernel
theorem dX8_evaluate_38 : decode cX8_evaluate 38 = .ok (.aload_n 0, 1) := by decide +kernel
theorem dX8_evaluate_39 : decode cX8_evaluate 39 = .ok (.getfield 22, 3) := by decide +kernel
theorem dX8_evaluate_42 : decode cX8_evaluate 42 = .ok (.iload_n 3, 1) := by decide +kernel
theorem dX8_evaluate_43 : decode cX8_evaluate 43 = .ok (.iaload, 1) := by decide +kernel
theorem dX8_evaluate_44 : decode cX8_evaluate 44 = .ok (.iconst 2, 1) := by decide +kernel
theorem dX8_evaluate_45 : decode cX8_evaluate 45 = .ok (.if_icmp .ge 19, 3) := by decide +kernel
theorem dX8_evaluate_48 : decode cX8_evaluate 48 = .ok (.aload_n 0, 1) := by decide +kernel
theorem dX8_evaluate_49 : decode cX8_evaluate 49 = .ok (.iload_n 3, 1) := by decide +kernel
theorem dX8_evaluate_50 : decode cX8_evaluate 50 = .ok (.invokevirtual 183, 3) := by decide +kernel
theorem dX8_evaluate_53 : decode cX8_evaluate 53 = .ok (.ifCond .eq 133, 3) := by decide +kernel
theorem dX8_evaluate_56 : decode cX8_evaluate 56 = .ok (.aload_n 0, 1) := by decide +kernel
theorem dX8_evaluate_57 : decode cX8_evaluate 57 = .ok (.iload_n 2, 1) := by decide +kernel
theorem dX8_evaluate_58 : decode cX8_evaluate 58 = .ok (.invokevirtual 186, 3) := by decide +kernel
theorem dX8_evaluate_61 : decode cX8_evaluate 61 = .ok (.goto 125, 3) := by decide +kernel
theorem dX8_evaluate_64 : decode cX8_evaluate 64 = .ok (.aload_n 0, 1) := by decide +kernel
theorem dX8_evaluate_65 : decode cX8_evaluate 65 = .ok (.getfield 22, 3) := by decide +kernel
theorem dX8_evaluate_68 : decode cX8_evaluate 68 = .ok (.iload_n 3, 1) := by decide +kernel
theorem dX8_evaluate_69 : decode cX8_evaluate 69 = .ok (.iaload, 1) := by decide +kernel
theorem dX8_evaluate_70 : decode cX8_evaluate 70 = .ok (.iconst 3, 1) := by decide +kernel
theorem dX8_evaluate_71 : decode cX8_evaluate 71 = .ok (.if_icmp .ne 17, 3) := by decide +kernel
theorem dX8_evaluate_74 : decode cX8_evaluate 74 = .ok (.iload_n 2, 1) := by decide +kernel
theorem dX8_evaluate_75 : decode cX8_evaluate 75 = .ok (.iconst 1, 1) := by decide +kernel
theorem dX8_evaluate_76 : decode cX8_evaluate 76 = .ok (.iadd, 1) := by decide +kernel
theorem dX8_evaluate_77 : decode cX8_evaluate 77 = .ok (.istore_n 2, 1) := by decide +kernel
theorem dX8_evaluate_78 : decode cX8_evaluate 78 = .ok (.aload_n 0, 1) := by decide +kernel
theorem dX8_evaluate_79 : decode cX8_evaluate 79 = .ok (.getfield 38, 3) := by decide +kernel
theorem dX8_evaluate_82 : decode cX8_evaluate 82 = .ok (.iload_n 2, 1) := by decide +kernel
theorem dX8_evaluate_83 : decode cX8_evaluate 83 = .ok (.iconst 0, 1) := by decide +kernel
theorem dX8_evaluate_84 : decode cX8_evaluate 84 = .ok (.bastore, 1) := by decide +kernel
theorem dX8_evaluate_85 : decode cX8_evaluate 85 = .ok (.goto 101, 3) := by decide +kernel
theorem dX8_evaluate_88 : decode cX8_evaluate 88 = .ok (.aload_n 0, 1) := by decide +kernel
theorem dX8_evaluate_89 : decode cX8_evaluate 89 = .ok (.getfield 22, 3) := by decide +kernel
theorem dX8_evaluate_92 : decode cX8_evaluate 92 = .ok (.iload_n 3, 1) := by decide +kernel
theorem dX8_evaluate_93 : decode cX8_evaluate 93 = .ok (.iaload, 1) := by decide +kernel
theorem dX8_evaluate_94 : decode cX8_evaluate 94 = .ok (.iconst 2, 1) := by decide +kernel
theorem dX8_evaluate_95 : decode cX8_evaluate 95 = .ok (.if_icmp .ne 22, 3) := by decide +kernel
theorem dX8_evaluate_98 : decode cX8_evaluate 98 = .ok (.aload_n 0, 1) := by decide +kernel
theorem dX8_evaluate_99 : decode cX8_evaluate 99 = .ok (.iload_n 2, 1) := by decide +kernel
theorem dX8_evaluate_100 : decode cX8_evaluate 100 = .ok (.bipush 7, 2) := by decide +kernel
theorem dX8_evaluate_102 : decode cX8_evaluate 102 = .ok (.invokevirtual 138, 3) := by decide +kernel
theorem dX8_evaluate_105 : decode cX8_evaluate 105 = .ok (.iload_n 2, 1) := by decide +kernel
theorem dX8_evaluate_106 : decode cX8_evaluate 106 = .ok (.iconst 1, 1) := by decide +kernel
theorem dX8_evaluate_107 : decode cX8_evaluate 107 = .ok (.isub, 1) := by decide +kernel
theorem dX8_evaluate_108 : decode cX8_evaluate 108 = .ok (.istore_n 2, 1) := by decide +kernel
theorem dX8_evaluate_109 : decode cX8_evaluate 109 = .ok (.aload_n 0, 1) := by decide +kernel
theorem dX8_evaluate_110 : decode cX8_evaluate 110 = .ok (.iload_n 2, 1) := by decide +kernel
theorem dX8_evaluate_111 : decode cX8_evaluate 111 = .ok (.invokevirtual 186, 3) := by decide +kernel
theorem dX8_evaluate_114 : decode cX8_evaluate 114 = .ok (.goto 72, 3) := by decide +kernel
theorem dX8_evaluate_117 : decode cX8_evaluate 117 = .ok (.aload_n 0, 1) := by decide +kernel
theorem dX8_evaluate_118 : decode cX8_evaluate 118 = .ok (.getfield 22, 3) := by decide +kernel
theorem dX8_evaluate_121 : decode cX8_evaluate 121 = .ok (.iload_n 3, 1) := by decide +kernel
theorem dX8_evaluate_122 : decode cX8_evaluate 122 = .ok (.iaload, 1) := by decide +kernel
theorem dX8_evaluate_123 : decode cX8_evaluate 123 = .ok (.iconst 4, 1) := by decide +kernel
theorem dX8_evaluate_124 : decode cX8_evaluate 124 = .ok (.if_icmp .ne 25, 3) := by decide +kernel
theorem dX8_evaluate_127 : decode cX8_evaluate 127 = .ok (.aload_n 0, 1) := by decide +kernel
theorem dX8_evaluate_128 : decode cX8_evaluate 128 = .ok (.getfield 38, 3) := by decide +kernel
theorem dX8_evaluate_131 : decode cX8_evaluate 131 = .ok (.iload_n 2, 1) := by decide +kernel
theorem dX8_evaluate_132 : decode cX8_evaluate 132 = .ok (.iconst 1, 1) := by decide +kernel
theorem dX8_evaluate_133 : decode cX8_evaluate 133 = .ok (.bastore, 1) := by decide +kernel
theorem dX8_evaluate_134 : decode cX8_evaluate 134 = .ok (.aload_n 0, 1) := by decide +kernel
theorem dX8_evaluate_135 : decode cX8_evaluate 135 = .ok (.getfield 41, 3) := by decide +kernel
theorem dX8_evaluate_138 : decode cX8_evaluate 138 = .ok (.iload_n 2, 1) := by decide +kernel
theorem dX8_evaluate_139 : decode cX8_evaluate 139 = .ok (.aload_n 0, 1) := by decide +kernel
theorem dX8_evaluate_140 : decode cX8_evaluate 140 = .ok (.getfield 25, 3) := by decide +kernel
theorem dX8_evaluate_143 : decode cX8_evaluate 143 = .ok (.iload_n 3, 1) := by decide +kernel
theorem dX8_evaluate_144 : decode cX8_evaluate 144 = .ok (.iaload, 1) := by decide +kernel
theorem dX8_evaluate_145 : decode cX8_evaluate 145 = .ok (.iastore, 1) := by decide +kernel
theorem dX8_evaluate_146 : decode cX8_evaluate 146 = .ok (.goto 40, 3) := by decide +kernel
theorem dX8_evaluate_149 : decode cX8_evaluate 149 = .ok (.aload_n 0, 1) := by decide +kernel
theorem dX8_evaluate_150 : decode cX8_evaluate 150 = .ok (.iload_n 2, 1) := by decide +kernel
theorem dX8_evaluate_151 : decode cX8_evaluate 151 = .ok (.bipush 19, 2) := by decide +kernel
theorem dX8_evaluate_153 : decode cX8_evaluate 153 = .ok (.invokevirtual 138, 3) := by decide +kernel
theorem dX8_evaluate_156 : decode cX8_evaluate 156 = .ok (.aload_n 0, 1) := by decide +kernel
theorem dX8_evaluate_157 : decode cX8_evaluate 157 = .ok (.aload_n 0, 1) := by decide +kernel
theorem dX8_evaluate_158 : decode cX8_evaluate 158 = .ok (.getfield 25, 3) := by decide +kernel
theorem dX8_evaluate_161 : decode cX8_evaluate 161 = .ok (.iload_n 3, 1) := by decide +kernel
theorem dX8_evaluate_162 : decode cX8_evaluate 162 = .ok (.iaload, 1) := by decide +kernel
theorem dX8_evaluate_163 : decode cX8_evaluate 163 = .ok (.invokevirtual 190, 3) := by decide +kernel
theorem dX8_evaluate_166 : decode cX8_evaluate 166 = .ok (.ifCond .eq 20, 3) := by decide +kernel
theorem dX8_evaluate_169 : decode cX8_evaluate 169 = .ok (.aload_n 0, 1) := by decide +kernel
theorem dX8_evaluate_170 : decode cX8_evaluate 170 = .ok (.bipush 8, 2) := by decide +kernel
theorem dX8_evaluate_172 : decode cX8_evaluate 172 = .ok (.iload_n 2, 1) := by decide +kernel
theorem dX8_evaluate_173 : decode cX8_evaluate 173 = .ok (.invokevirtual 138, 3) := by decide +kernel
theorem dX8_evaluate_176 : decode cX8_evaluate 176 = .ok (.aload_n 0, 1) := by decide +kernel
theorem dX8_evaluate_177 : decode cX8_evaluate 177 = .ok (.aload_n 0, 1) := by decide +kernel
theorem dX8_evaluate_178 : decode cX8_evaluate 178 = .ok (.getfield 180, 3) := by decide +kernel
theorem dX8_evaluate_181 : decode cX8_evaluate 181 = .ok (.iconst 1, 1) := by decide +kernel
theorem dX8_evaluate_182 : decode cX8_evaluate 182 = .ok (.iadd, 1) := by decide +kernel
theorem dX8_evaluate_183 : decode cX8_evaluate 183 = .ok (.putfield 180, 3) := by decide +kernel
theorem dX8_evaluate_186 : decode cX8_evaluate 186 = .ok (.iinc 3 (-1), 3) := by decide +kernel
theorem dX8_evaluate_189 : decode cX8_evaluate 189 = .ok (.goto (-163), 3) := by decide +kernel
theorem dX8_evaluate_192 : decode cX8_evaluate 192 = .ok (.return_, 1) := by decide +kernel
theorem dX8_target_0 : decode cX8_target 0 = .ok (.aload_n 0, 1) := by decide +kernel
theorem dX8_target_1 : decode cX8_target 1 = .ok (.iconst 0, 1) := by decide +kernel
theorem dX8_target_2 : decode cX8_target 2 = .ok (.putfield 54, 3) := by decide +kernel
theorem dX8_target_5 : decode cX8_target 5 = .ok (.aload_n 0, 1) := by decide +kernel
theorem dX8_target_6 : decode cX8_target 6 = .ok (.invokevirtual 63, 3) := by decide +kernel
theorem dX8_target_9 : decode cX8_target 9 = .ok (.istore_n 1, 1) := by decide +kernel
theorem dX8_target_10 : decode cX8_target 10 = .ok (.iload_n 1, 1) := by decide +kernel
theorem dX8_target_11 : decode cX8_target 11 = .ok (.bipush 65, 2) := by decide +kernel
theorem dX8_target_13 : decode cX8_target 13 = .ok (.if_icmp .lt 9, 3) := by decide +kernel
theorem dX8_target_16 : decode cX8_target 16 = .ok (.iload_n 1, 1) := by decide +kernel
theorem dX8_target_17 : decode cX8_target 17 = .ok (.bipush 72, 2) := by decide +kernel
theorem dX8_target_19 : decode cX8_target 19 = .ok (.if_icmp .le 5, 3) := by decide +kernel
theorem dX8_target_22 : decode cX8_target 22 = .ok (.iconst (-1), 1) := by decide +kernel
theorem dX8_target_23 : decode cX8_target 23 = .ok (.ireturn, 1) := by decide +kernel
theorem dX8_target_24 : decode cX8_target 24 = .ok (.aload_n 0, 1) := by decide +kernel
theorem dX8_target_25 : decode cX8_target 25 = .ok (.aload_n 0, 1) := by decide +kernel
theorem dX8_target_26 : decode cX8_target 26 = .ok (.getfield 54, 3) := by decide +kernel
theorem dX8_target_29 : decode cX8_target 29 = .ok (.iconst 1, 1) := by decide +kernel
theorem dX8_target_30 : decode cX8_target 30 = .ok (.iadd, 1) := by decide +kernel
theorem dX8_target_31 : decode cX8_target 31 = .ok (.putfield 54, 3) := by decide +kernel
theorem dX8_target_34 : decode cX8_target 34 = .ok (.aload_n 0, 1) := by decide +kernel
theorem dX8_target_35 : decode cX8_target 35 = .ok (.invokevirtual 63, 3) := by decide +kernel
theorem dX8_target_38 : decode cX8_target 38 = .ok (.bipush 58, 2) := by decide +kernel
theorem dX8_target_40 : decode cX8_target 40 = .ok (.if_icmp .ne 18, 3) := by decide +kernel
theorem dX8_target_43 : decode cX8_target 43 = .ok (.aload_n 0, 1) := by decide +kernel
theorem dX8_target_44 : decode cX8_target 44 = .ok (.aload_n 0, 1) := by decide +kernel
theorem dX8_target_45 : decode cX8_target 45 = .ok (.getfield 54, 3) := by decide +kernel
theorem dX8_target_48 : decode cX8_target 48 = .ok (.iconst 1, 1) := by decide +kernel
theorem dX8_target_49 : decode cX8_target 49 = .ok (.iadd, 1) := by decide +kernel
theorem dX8_target_50 : decode cX8_target 50 = .ok (.putfield 54, 3) := by decide +kernel
theorem dX8_target_53 : decode cX8_target 53 = .ok (.iload_n 1, 1) := by decide +kernel
theorem dX8_target_54 : decode cX8_target 54 = .ok (.bipush 65, 2) := by decide +kernel
theorem dX8_target_56 : decode cX8_target 56 = .ok (.isub, 1) := by decide +kernel
theorem dX8_target_57 : decode cX8_target 57 = .ok (.ireturn, 1) := by decide +kernel
theorem dX8_target_58 : decode cX8_target 58 = .ok (.aload_n 0, 1) := by decide +kernel
theorem dX8_target_59 : decode cX8_target 59 = .ok (.iconst 0, 1) := by decide +kernel
theorem dX8_target_60 : decode cX8_target 60 = .ok (.putfield 54, 3) := by decide +kernel
theorem dX8_target_63 : decode cX8_target 63 = .ok (.iconst (-1), 1) := by decide +kernel
theorem dX8_target_64 : decode cX8_target 64 = .ok (.ireturn, 1) := by decide +kernel
theorem dX8_run_0 : decode cX8_run 0 = .ok (.aload_n 0, 1) := by decide +kernel
theorem dX8_run_1 : decode cX8_run 1 = .ok (.iconst 0, 1) := by decide +kernel
theorem dX8_run_2 : decode cX8_run 2 = .ok (.putfield 47, 3) := by decide +kernel
theorem dX8_run_5 : decode cX8_run 5 = .ok (.aload_n 0, 1) := by decide +kernel
theorem dX8_run_6 : decode cX8_run 6 = .ok (.iconst 0, 1) := by decide +kernel
theorem dX8_run_7 : decode cX8_run 7 = .ok (.putfield 57, 3) := by decide +kernel
theorem dX8_run_10 : decode cX8_run 10 = .ok (.aload_n 0, 1) := by decide +kernel
theorem dX8_run_11 : decode cX8_run 11 = .ok (.iconst 0, 1) := by decide +kernel
theorem dX8_run_12 : decode cX8_run 12 = .ok (.putfield 60, 3) := by decide +kernel
theorem dX8_run_15 : decode cX8_run 15 = .ok (.aload_n 0, 1) := by decide +kernel
theorem dX8_run_16 : decode cX8_run 16 = .ok (.invokevirtual 193, 3) := by decide +kernel
theorem dX8_run_19 : decode cX8_run 19 = .ok (.istore_n 1, 1) := by decide +kernel
theorem dX8_run_20 : decode cX8_run 20 = .ok (.aload_n 0, 1) := by decide +kernel
theorem dX8_run_21 : decode cX8_run 21 = .ok (.invokevirtual 196, 3) := by decide +kernel
theorem dX8_run_24 : decode cX8_run 24 = .ok (.ifCond .ne 5, 3) := by decide +kernel
theorem dX8_run_27 : decode cX8_run 27 = .ok (.iconst (-1), 1) := by decide +kernel
theorem dX8_run_28 : decode cX8_run 28 = .ok (.ireturn, 1) := by decide +kernel
theorem dX8_run_29 : decode cX8_run 29 = .ok (.aload_n 0, 1) := by decide +kernel
theorem dX8_run_30 : decode cX8_run 30 = .ok (.iconst 0, 1) := by decide +kernel
theorem dX8_run_31 : decode cX8_run 31 = .ok (.invokevirtual 199, 3) := by decide +kernel
theorem dX8_run_34 : decode cX8_run 34 = .ok (.aload_n 0, 1) := by decide +kernel
theorem dX8_run_35 : decode cX8_run 35 = .ok (.aload_n 0, 1) := by decide +kernel
theorem dX8_run_36 : decode cX8_run 36 = .ok (.getfield 92, 3) := by decide +kernel
theorem dX8_run_39 : decode cX8_run 39 = .ok (.putfield 47, 3) := by decide +kernel
theorem dX8_run_42 : decode cX8_run 42 = .ok (.aload_n 0, 1) := by decide +kernel
theorem dX8_run_43 : decode cX8_run 43 = .ok (.getfield 92, 3) := by decide +kernel
theorem dX8_run_46 : decode cX8_run 46 = .ok (.ifCond .le 5, 3) := by decide +kernel
theorem dX8_run_49 : decode cX8_run 49 = .ok (.iconst 0, 1) := by decide +kernel
theorem dX8_run_50 : decode cX8_run 50 = .ok (.ireturn, 1) := by decide +kernel
theorem dX8_run_51 : decode cX8_run 51 = .ok (.aload_n 0, 1) := by decide +kernel
theorem dX8_run_52 : decode cX8_run 52 = .ok (.iconst 0, 1) := by decide +kernel
theorem dX8_run_53 : decode cX8_run 53 = .ok (.bipush 17, 2) := by decide +kernel
theorem dX8_run_55 : decode cX8_run 55 = .ok (.invokevirtual 138, 3) := by decide +kernel
theorem dX8_run_58 : decode cX8_run 58 = .ok (.iload_n 1, 1) := by decide +kernel
theorem dX8_run_59 : decode cX8_run 59 = .ok (.ifCond .lt 12, 3) := by decide +kernel
theorem dX8_run_62 : decode cX8_run 62 = .ok (.aload_n 0, 1) := by decide +kernel
theorem dX8_run_63 : decode cX8_run 63 = .ok (.iconst 0, 1) := by decide +kernel
theorem dX8_run_64 : decode cX8_run 64 = .ok (.bipush 9, 2) := by decide +kernel
theorem dX8_run_66 : decode cX8_run 66 = .ok (.iload_n 1, 1) := by decide +kernel
theorem dX8_run_67 : decode cX8_run 67 = .ok (.iadd, 1) := by decide +kernel
theorem dX8_run_68 : decode cX8_run 68 = .ok (.invokevirtual 138, 3) := by decide +kernel
theorem dX8_run_71 : decode cX8_run 71 = .ok (.aload_n 0, 1) := by decide +kernel
theorem dX8_run_72 : decode cX8_run 72 = .ok (.bipush 17, 2) := by decide +kernel
theorem dX8_run_74 : decode cX8_run 74 = .ok (.invokevirtual 98, 3) := by decide +kernel
theorem dX8_run_77 : decode cX8_run 77 = .ok (.ireturn, 1) := by decide +kernel
theorem dX8_rank_0 : decode cX8_rank 0 = .ok (.aload_n 0, 1) := by decide +kernel
theorem dX8_rank_1 : decode cX8_rank 1 = .ok (.iconst 0, 1) := by decide +kernel
theorem dX8_rank_2 : decode cX8_rank 2 = .ok (.putfield 47, 3) := by decide +kernel
theorem dX8_rank_5 : decode cX8_rank 5 = .ok (.aload_n 0, 1) := by decide +kernel
theorem dX8_rank_6 : decode cX8_rank 6 = .ok (.getfield 13, 3) := by decide +kernel
theorem dX8_rank_9 : decode cX8_rank 9 = .ok (.bipush 17, 2) := by decide +kernel
theorem dX8_rank_11 : decode cX8_rank 11 = .ok (.iaload, 1) := by decide +kernel
theorem dX8_rank_12 : decode cX8_rank 12 = .ok (.ireturn, 1) := by decide +kernel
theorem dX8_axis_0 : decode cX8_axis 0 = .ok (.aload_n 0, 1) := by decide +kernel
theorem dX8_axis_1 : decode cX8_axis 1 = .ok (.iconst 0, 1) := by decide +kernel
theorem dX8_axis_2 : decode cX8_axis 2 = .ok (.putfield 47, 3) := by decide +kernel
theorem dX8_axis_5 : decode cX8_axis 5 = .ok (.iload_n 1, 1) := by decide +kernel
theorem dX8_axis_6 : decode cX8_axis 6 = .ok (.ifCond .lt 14, 3) := by decide +kernel
theorem dX8_axis_9 : decode cX8_axis 9 = .ok (.iload_n 1, 1) := by decide +kernel
theorem dX8_axis_10 : decode cX8_axis 10 = .ok (.aload_n 0, 1) := by decide +kernel
theorem dX8_axis_11 : decode cX8_axis 11 = .ok (.getfield 13, 3) := by decide +kernel
theorem dX8_axis_14 : decode cX8_axis 14 = .ok (.bipush 17, 2) := by decide +kernel
theorem dX8_axis_16 : decode cX8_axis 16 = .ok (.iaload, 1) := by decide +kernel
theorem dX8_axis_17 : decode cX8_axis 17 = .ok (.if_icmp .lt 7, 3) := by decide +kernel
theorem dX8_axis_20 : decode cX8_axis 20 = .ok (.iconst (-1), 1) := by decide +kernel
theorem dX8_axis_21 : decode cX8_axis 21 = .ok (.goto 10, 3) := by decide +kernel
theorem dX8_axis_24 : decode cX8_axis 24 = .ok (.aload_n 0, 1) := by decide +kernel
theorem dX8_axis_25 : decode cX8_axis 25 = .ok (.bipush 17, 2) := by decide +kernel
theorem dX8_axis_27 : decode cX8_axis 27 = .ok (.iload_n 1, 1) := by decide +kernel
theorem dX8_axis_28 : decode cX8_axis 28 = .ok (.invokevirtual 88, 3) := by decide +kernel
theorem dX8_axis_31 : decode cX8_axis 31 = .ok (.ireturn, 1) := by decide +kernel
theorem dX8_size_0 : decode cX8_size 0 = .ok (.aload_n 0, 1) := by decide +kernel
theorem dX8_size_1 : decode cX8_size 1 = .ok (.iconst 0, 1) := by decide +kernel
theorem dX8_size_2 : decode cX8_size 2 = .ok (.putfield 47, 3) := by decide +kernel
theorem dX8_size_5 : decode cX8_size 5 = .ok (.aload_n 0, 1) := by decide +kernel
theorem dX8_size_6 : decode cX8_size 6 = .ok (.bipush 17, 2) := by decide +kernel
theorem dX8_size_8 : decode cX8_size 8 = .ok (.invokevirtual 98, 3) := by decide +kernel
theorem dX8_size_11 : decode cX8_size 11 = .ok (.ireturn, 1) := by decide +kernel
theorem dX8_element_0 : decode cX8_element 0 = .ok (.aload_n 0, 1) := by decide +kernel
theorem dX8_element_1 : decode cX8_element 1 = .ok (.iconst 0, 1) := by decide +kernel
theorem dX8_element_2 : decode cX8_element 2 = .ok (.putfield 47, 3) := by decide +kernel
theorem dX8_element_5 : decode cX8_element 5 = .ok (.iload_n 1, 1) := by decide +kernel
theorem dX8_element_6 : decode cX8_element 6 = .ok (.ifCond .lt 13, 3) := by decide +kernel
theorem dX8_element_9 : decode cX8_element 9 = .ok (.iload_n 1, 1) := by decide +kernel
theorem dX8_element_10 : decode cX8_element 10 = .ok (.aload_n 0, 1) := by decide +kernel
theorem dX8_element_11 : decode cX8_element 11 = .ok (.bipush 17, 2) := by decide +kernel
theorem dX8_element_13 : decode cX8_element 13 = .ok (.invokevirtual 98, 3) := by decide +kernel
theorem dX8_element_16 : decode cX8_element 16 = .ok (.if_icmp .lt 9, 3) := by decide +kernel
theorem dX8_element_19 : decode cX8_element 19 = .ok (.ldc2_w 202, 3) := by decide +kernel
theorem dX8_element_22 : decode cX8_element 22 = .ok (.goto 11, 3) := by decide +kernel
theorem dX8_element_25 : decode cX8_element 25 = .ok (.aload_n 0, 1) := by decide +kernel
theorem dX8_element_26 : decode cX8_element 26 = .ok (.bipush 17, 2) := by decide +kernel
theorem dX8_element_28 : decode cX8_element 28 = .ok (.iload_n 1, 1) := by decide +kernel
theorem dX8_element_29 : decode cX8_element 29 = .ok (.invokevirtual 119, 3) := by decide +kernel
theorem dX8_element_32 : decode cX8_element 32 = .ok (.i2l, 1) := by decide +kernel
theorem dX8_element_33 : decode cX8_element 33 = .ok (.lreturn, 1) := by decide +kernel
theorem dX8_sum_0 : decode cX8_sum 0 = .ok (.aload_n 0, 1) := by decide +kernel
theorem dX8_sum_1 : decode cX8_sum 1 = .ok (.iconst 0, 1) := by decide +kernel
theorem dX8_sum_2 : decode cX8_sum 2 = .ok (.putfield 47, 3) := by decide +kernel
theorem dX8_sum_5 : decode cX8_sum 5 = .ok (.lconst 0, 1) := by decide +kernel
theorem dX8_sum_6 : decode cX8_sum 6 = .ok (.lstore_n 1, 1) := by decide +kernel
theorem dX8_sum_7 : decode cX8_sum 7 = .ok (.iconst 0, 1) := by decide +kernel
theorem dX8_sum_8 : decode cX8_sum 8 = .ok (.istore_n 3, 1) := by decide +kernel
theorem dX8_sum_9 : decode cX8_sum 9 = .ok (.iload_n 3, 1) := by decide +kernel
theorem dX8_sum_10 : decode cX8_sum 10 = .ok (.aload_n 0, 1) := by decide +kernel
theorem dX8_sum_11 : decode cX8_sum 11 = .ok (.bipush 17, 2) := by decide +kernel
theorem dX8_sum_13 : decode cX8_sum 13 = .ok (.invokevirtual 98, 3) := by decide +kernel
theorem dX8_sum_16 : decode cX8_sum 16 = .ok (.if_icmp .ge 20, 3) := by decide +kernel
theorem dX8_sum_19 : decode cX8_sum 19 = .ok (.lload_n 1, 1) := by decide +kernel
theorem dX8_sum_20 : decode cX8_sum 20 = .ok (.aload_n 0, 1) := by decide +kernel
theorem dX8_sum_21 : decode cX8_sum 21 = .ok (.bipush 17, 2) := by decide +kernel
theorem dX8_sum_23 : decode cX8_sum 23 = .ok (.iload_n 3, 1) := by decide +kernel
theorem dX8_sum_24 : decode cX8_sum 24 = .ok (.invokevirtual 119, 3) := by decide +kernel
theorem dX8_sum_27 : decode cX8_sum 27 = .ok (.i2l, 1) := by decide +kernel
theorem dX8_sum_28 : decode cX8_sum 28 = .ok (.ladd, 1) := by decide +kernel
theorem dX8_sum_29 : decode cX8_sum 29 = .ok (.lstore_n 1, 1) := by decide +kernel
theorem dX8_sum_30 : decode cX8_sum 30 = .ok (.iinc 3 1, 3) := by decide +kernel
theorem dX8_sum_33 : decode cX8_sum 33 = .ok (.goto (-24), 3) := by decide +kernel
theorem dX8_sum_36 : decode cX8_sum 36 = .ok (.lload_n 1, 1) := by decide +kernel
theorem dX8_sum_37 : decode cX8_sum 37 = .ok (.lreturn, 1) := by decide +kernel
theorem dX8_held_0 : decode cX8_held 0 = .ok (.aload_n 0, 1) := by decide +kernel
theorem dX8_held_1 : decode cX8_held 1 = .ok (.iconst 0, 1) := by decide +kernel
theorem dX8_held_2 : decode cX8_held 2 = .ok (.putfield 47, 3) := by decide +kernel
theorem dX8_held_5 : decode cX8_held 5 = .ok (.iload_n 1, 1) := by decide +kernel
theorem dX8_held_6 : decode cX8_held 6 = .ok (.ifCond .lt 21, 3) := by decide +kernel
theorem dX8_held_9 : decode cX8_held 9 = .ok (.iload_n 1, 1) := by decide +kernel
theorem dX8_held_10 : decode cX8_held 10 = .ok (.bipush 7, 2) := by decide +kernel
theorem dX8_held_12 : decode cX8_held 12 = .ok (.if_icmp .gt 15, 3) := by decide +kernel
theorem dX8_held_15 : decode cX8_held 15 = .ok (.aload_n 0, 1) := by decide +kernel
theorem dX8_held_16 : decode cX8_held 16 = .ok (.getfield 13, 3) := by decide +kernel
theorem dX8_held_19 : decode cX8_held 19 = .ok (.bipush 9, 2) := by decide +kernel
theorem dX8_held_21 : decode cX8_held 21 = .ok (.iload_n 1, 1) := by decide +kernel
theorem dX8_held_22 : decode cX8_held 22 = .ok (.iadd, 1) := by decide +kernel
theorem dX8_held_23 : decode cX8_held 23 = .ok (.iaload, 1) := by decide +kernel
theorem dX8_held_24 : decode cX8_held 24 = .ok (.ifCond .ge 7, 3) := by decide +kernel
theorem dX8_held_27 : decode cX8_held 27 = .ok (.iconst (-1), 1) := by decide +kernel
theorem dX8_held_28 : decode cX8_held 28 = .ok (.goto 11, 3) := by decide +kernel
theorem dX8_held_31 : decode cX8_held 31 = .ok (.aload_n 0, 1) := by decide +kernel
theorem dX8_held_32 : decode cX8_held 32 = .ok (.bipush 9, 2) := by decide +kernel
theorem dX8_held_34 : decode cX8_held 34 = .ok (.iload_n 1, 1) := by decide +kernel
theorem dX8_held_35 : decode cX8_held 35 = .ok (.iadd, 1) := by decide +kernel
theorem dX8_held_36 : decode cX8_held 36 = .ok (.invokevirtual 98, 3) := by decide +kernel
theorem dX8_held_39 : decode cX8_held 39 = .ok (.ireturn, 1) := by decide +kernel
theorem dX8_forget_0 : decode cX8_forget 0 = .ok (.aload_n 0, 1) := by decide +kernel
theorem dX8_forget_1 : decode cX8_forget 1 = .ok (.iconst 0, 1) := by decide +kernel
theorem dX8_forget_2 : decode cX8_forget 2 = .ok (.putfield 47, 3) := by decide +kernel
theorem dX8_forget_5 : decode cX8_forget 5 = .ok (.iload_n 1, 1) := by decide +kernel
theorem dX8_forget_6 : decode cX8_forget 6 = .ok (.ifCond .lt 21, 3) := by decide +kernel
theorem dX8_forget_9 : decode cX8_forget 9 = .ok (.iload_n 1, 1) := by decide +kernel
theorem dX8_forget_10 : decode cX8_forget 10 = .ok (.bipush 7, 2) := by decide +kernel
theorem dX8_forget_12 : decode cX8_forget 12 = .ok (.if_icmp .gt 15, 3) := by decide +kernel
theorem dX8_forget_15 : decode cX8_forget 15 = .ok (.aload_n 0, 1) := by decide +kernel
theorem dX8_forget_16 : decode cX8_forget 16 = .ok (.getfield 13, 3) := by decide +kernel
theorem dX8_forget_19 : decode cX8_forget 19 = .ok (.bipush 9, 2) := by decide +kernel
theorem dX8_forget_21 : decode cX8_forget 21 = .ok (.iload_n 1, 1) := by decide +kernel
theorem dX8_forget_22 : decode cX8_forget 22 = .ok (.iadd, 1) := by decide +kernel
theorem dX8_forget_23 : decode cX8_forget 23 = .ok (.iaload, 1) := by decide +kernel
theorem dX8_forget_24 : decode cX8_forget 24 = .ok (.ifCond .ge 5, 3) := by decide +kernel
theorem dX8_forget_27 : decode cX8_forget 27 = .ok (.iconst 0, 1) := by decide +kernel
theorem dX8_forget_28 : decode cX8_forget 28 = .ok (.ireturn, 1) := by decide +kernel
theorem dX8_forget_29 : decode cX8_forget 29 = .ok (.aload_n 0, 1) := by decide +kernel
theorem dX8_forget_30 : decode cX8_forget 30 = .ok (.getfield 13, 3) := by decide +kernel
theorem dX8_forget_33 : decode cX8_forget 33 = .ok (.bipush 9, 2) := by decide +kernel
theorem dX8_forget_35 : decode cX8_forget 35 = .ok (.iload_n 1, 1) := by decide +kernel
theorem dX8_forget_36 : decode cX8_forget 36 = .ok (.iadd, 1) := by decide +kernel
theorem dX8_forget_37 : decode cX8_forget 37 = .ok (.iconst (-1), 1) := by decide +kernel
theorem dX8_forget_38 : decode cX8_forget 38 = .ok (.iastore, 1) := by decide +kernel
theorem dX8_forget_39 : decode cX8_forget 39 = .ok (.iconst 1, 1) := by decide +kernel
theorem dX8_forget_40 : decode cX8_forget 40 = .ok (.ireturn, 1) := by decide +kernel
theorem dX8_done_0 : decode cX8_done 0 = .ok (.aload_n 0, 1) := by decide +kernel
theorem dX8_done_1 : decode cX8_done 1 = .ok (.iconst 0, 1) := by decide +kernel
theorem dX8_done_2 : decode cX8_done 2 = .ok (.putfield 47, 3) := by decide +kernel
theorem dX8_done_5 : decode cX8_done 5 = .ok (.aload_n 0, 1) := by decide +kernel
theorem dX8_done_6 : decode cX8_done 6 = .ok (.getfield 180, 3) := by decide +kernel
theorem dX8_done_9 : decode cX8_done 9 = .ok (.ireturn, 1) := by decide +kernel
