theorem dX1_letPass_97 : decode cX1_letPass 97 = .ok (.if_icmp .lt 7, 3) := by decide +kernel
theorem dX1_letPass_100 : decode cX1_letPass 100 = .ok (.aload_n 0, 1) := by decide +kernel
theorem dX1_letPass_101 : decode cX1_letPass 101 = .ok (.invokevirtual 211, 3) := by decide +kernel
theorem dX1_letPass_104 : decode cX1_letPass 104 = .ok (.iinc 2 1, 3) := by decide +kernel
theorem dX1_letPass_107 : decode cX1_letPass 107 = .ok (.goto (-105), 3) := by decide +kernel
theorem dX1_letPass_110 : decode cX1_letPass 110 = .ok (.return_, 1) := by decide +kernel
theorem dX1_letNextIn_0 : decode cX1_letNextIn 0 = .ok (.aload_n 0, 1) := by decide +kernel
theorem dX1_letNextIn_1 : decode cX1_letNextIn 1 = .ok (.getfield 31, 3) := by decide +kernel
theorem dX1_letNextIn_4 : decode cX1_letNextIn 4 = .ok (.getfield 203, 3) := by decide +kernel
theorem dX1_letNextIn_7 : decode cX1_letNextIn 7 = .ok (.istore_n 1, 1) := by decide +kernel
theorem dX1_letNextIn_8 : decode cX1_letNextIn 8 = .ok (.aload_n 0, 1) := by decide +kernel
theorem dX1_letNextIn_9 : decode cX1_letNextIn 9 = .ok (.iconst 5, 1) := by decide +kernel
theorem dX1_letNextIn_10 : decode cX1_letNextIn 10 = .ok (.bipush 7, 2) := by decide +kernel
theorem dX1_letNextIn_12 : decode cX1_letNextIn 12 = .ok (.iload_n 1, 1) := by decide +kernel
theorem dX1_letNextIn_13 : decode cX1_letNextIn 13 = .ok (.imul, 1) := by decide +kernel
theorem dX1_letNextIn_14 : decode cX1_letNextIn 14 = .ok (.bipush 25, 2) := by decide +kernel
theorem dX1_letNextIn_16 : decode cX1_letNextIn 16 = .ok (.irem, 1) := by decide +kernel
theorem dX1_letNextIn_17 : decode cX1_letNextIn 17 = .ok (.iadd, 1) := by decide +kernel
theorem dX1_letNextIn_18 : decode cX1_letNextIn 18 = .ok (.iload_n 1, 1) := by decide +kernel
theorem dX1_letNextIn_19 : decode cX1_letNextIn 19 = .ok (.iconst 5, 1) := by decide +kernel
theorem dX1_letNextIn_20 : decode cX1_letNextIn 20 = .ok (.irem, 1) := by decide +kernel
theorem dX1_letNextIn_21 : decode cX1_letNextIn 21 = .ok (.iload_n 1, 1) := by decide +kernel
theorem dX1_letNextIn_22 : decode cX1_letNextIn 22 = .ok (.iconst 4, 1) := by decide +kernel
theorem dX1_letNextIn_23 : decode cX1_letNextIn 23 = .ok (.irem, 1) := by decide +kernel
theorem dX1_letNextIn_24 : decode cX1_letNextIn 24 = .ok (.invokevirtual 114, 3) := by decide +kernel
theorem dX1_letNextIn_27 : decode cX1_letNextIn 27 = .ok (.pop, 1) := by decide +kernel
theorem dX1_letNextIn_28 : decode cX1_letNextIn 28 = .ok (.return_, 1) := by decide +kernel
theorem dX1_freeStalls_0 : decode cX1_freeStalls 0 = .ok (.iconst 0, 1) := by decide +kernel
theorem dX1_freeStalls_1 : decode cX1_freeStalls 1 = .ok (.istore_n 1, 1) := by decide +kernel
theorem dX1_freeStalls_2 : decode cX1_freeStalls 2 = .ok (.iload_n 1, 1) := by decide +kernel
theorem dX1_freeStalls_3 : decode cX1_freeStalls 3 = .ok (.aload_n 0, 1) := by decide +kernel
theorem dX1_freeStalls_4 : decode cX1_freeStalls 4 = .ok (.getfield 63, 3) := by decide +kernel
theorem dX1_freeStalls_7 : decode cX1_freeStalls 7 = .ok (.if_icmp .ge 19, 3) := by decide +kernel
theorem dX1_freeStalls_10 : decode cX1_freeStalls 10 = .ok (.aload_n 0, 1) := by decide +kernel
theorem dX1_freeStalls_11 : decode cX1_freeStalls 11 = .ok (.getfield 24, 3) := by decide +kernel
theorem dX1_freeStalls_14 : decode cX1_freeStalls 14 = .ok (.iload_n 1, 1) := by decide +kernel
theorem dX1_freeStalls_15 : decode cX1_freeStalls 15 = .ok (.aaload, 1) := by decide +kernel
theorem dX1_freeStalls_16 : decode cX1_freeStalls 16 = .ok (.iconst 0, 1) := by decide +kernel
theorem dX1_freeStalls_17 : decode cX1_freeStalls 17 = .ok (.putfield 214, 3) := by decide +kernel
theorem dX1_freeStalls_20 : decode cX1_freeStalls 20 = .ok (.iinc 1 1, 3) := by decide +kernel
theorem dX1_freeStalls_23 : decode cX1_freeStalls 23 = .ok (.goto (-21), 3) := by decide +kernel
theorem dX1_freeStalls_26 : decode cX1_freeStalls 26 = .ok (.return_, 1) := by decide +kernel
theorem dX1_takeTurn_0 : decode cX1_takeTurn 0 = .ok (.aload_n 0, 1) := by decide +kernel
theorem dX1_takeTurn_1 : decode cX1_takeTurn 1 = .ok (.aload_n 0, 1) := by decide +kernel
theorem dX1_takeTurn_2 : decode cX1_takeTurn 2 = .ok (.getfield 31, 3) := by decide +kernel
theorem dX1_takeTurn_5 : decode cX1_takeTurn 5 = .ok (.getfield 206, 3) := by decide +kernel
theorem dX1_takeTurn_8 : decode cX1_takeTurn 8 = .ok (.iload_n 1, 1) := by decide +kernel
theorem dX1_takeTurn_9 : decode cX1_takeTurn 9 = .ok (.iaload, 1) := by decide +kernel
theorem dX1_takeTurn_10 : decode cX1_takeTurn 10 = .ok (.invokevirtual 217, 3) := by decide +kernel
theorem dX1_takeTurn_13 : decode cX1_takeTurn 13 = .ok (.astore_n 3, 1) := by decide +kernel
theorem dX1_takeTurn_14 : decode cX1_takeTurn 14 = .ok (.aload_n 3, 1) := by decide +kernel
theorem dX1_takeTurn_15 : decode cX1_takeTurn 15 = .ok (.ifnull 10, 3) := by decide +kernel
theorem dX1_takeTurn_18 : decode cX1_takeTurn 18 = .ok (.aload_n 3, 1) := by decide +kernel
theorem dX1_takeTurn_19 : decode cX1_takeTurn 19 = .ok (.getfield 221, 3) := by decide +kernel
theorem dX1_takeTurn_22 : decode cX1_takeTurn 22 = .ok (.ifCond .ne 15, 3) := by decide +kernel
theorem dX1_takeTurn_25 : decode cX1_takeTurn 25 = .ok (.aload_n 0, 1) := by decide +kernel
theorem dX1_takeTurn_26 : decode cX1_takeTurn 26 = .ok (.getfield 31, 3) := by decide +kernel
theorem dX1_takeTurn_29 : decode cX1_takeTurn 29 = .ok (.iload_n 1, 1) := by decide +kernel
theorem dX1_takeTurn_30 : decode cX1_takeTurn 30 = .ok (.iload_n 2, 1) := by decide +kernel
theorem dX1_takeTurn_31 : decode cX1_takeTurn 31 = .ok (.iconst 2, 1) := by decide +kernel
theorem dX1_takeTurn_32 : decode cX1_takeTurn 32 = .ok (.idiv, 1) := by decide +kernel
theorem dX1_takeTurn_33 : decode cX1_takeTurn 33 = .ok (.ineg, 1) := by decide +kernel
theorem dX1_takeTurn_34 : decode cX1_takeTurn 34 = .ok (.invokevirtual 222, 3) := by decide +kernel
theorem dX1_takeTurn_37 : decode cX1_takeTurn 37 = .ok (.aload_n 0, 1) := by decide +kernel
theorem dX1_takeTurn_38 : decode cX1_takeTurn 38 = .ok (.getfield 31, 3) := by decide +kernel
theorem dX1_takeTurn_41 : decode cX1_takeTurn 41 = .ok (.getfield 225, 3) := by decide +kernel
theorem dX1_takeTurn_44 : decode cX1_takeTurn 44 = .ok (.iload_n 1, 1) := by decide +kernel
theorem dX1_takeTurn_45 : decode cX1_takeTurn 45 = .ok (.iaload, 1) := by decide +kernel
theorem dX1_takeTurn_46 : decode cX1_takeTurn 46 = .ok (.ifCond .ne 14, 3) := by decide +kernel
theorem dX1_takeTurn_49 : decode cX1_takeTurn 49 = .ok (.aload_n 0, 1) := by decide +kernel
theorem dX1_takeTurn_50 : decode cX1_takeTurn 50 = .ok (.getfield 31, 3) := by decide +kernel
theorem dX1_takeTurn_53 : decode cX1_takeTurn 53 = .ok (.iload_n 1, 1) := by decide +kernel
theorem dX1_takeTurn_54 : decode cX1_takeTurn 54 = .ok (.invokevirtual 228, 3) := by decide +kernel
theorem dX1_takeTurn_57 : decode cX1_takeTurn 57 = .ok (.goto 43, 3) := by decide +kernel
theorem dX1_takeTurn_60 : decode cX1_takeTurn 60 = .ok (.aload_n 3, 1) := by decide +kernel
theorem dX1_takeTurn_61 : decode cX1_takeTurn 61 = .ok (.ifnull 31, 3) := by decide +kernel
theorem dX1_takeTurn_64 : decode cX1_takeTurn 64 = .ok (.aload_n 3, 1) := by decide +kernel
theorem dX1_takeTurn_65 : decode cX1_takeTurn 65 = .ok (.getfield 214, 3) := by decide +kernel
theorem dX1_takeTurn_68 : decode cX1_takeTurn 68 = .ok (.ifCond .ne 24, 3) := by decide +kernel
theorem dX1_takeTurn_71 : decode cX1_takeTurn 71 = .ok (.aload_n 0, 1) := by decide +kernel
theorem dX1_takeTurn_72 : decode cX1_takeTurn 72 = .ok (.getfield 31, 3) := by decide +kernel
theorem dX1_takeTurn_75 : decode cX1_takeTurn 75 = .ok (.iload_n 1, 1) := by decide +kernel
theorem dX1_takeTurn_76 : decode cX1_takeTurn 76 = .ok (.aload_n 3, 1) := by decide +kernel
theorem dX1_takeTurn_77 : decode cX1_takeTurn 77 = .ok (.invokevirtual 231, 3) := by decide +kernel
theorem dX1_takeTurn_80 : decode cX1_takeTurn 80 = .ok (.ifCond .ne 12, 3) := by decide +kernel
theorem dX1_takeTurn_83 : decode cX1_takeTurn 83 = .ok (.aload_n 0, 1) := by decide +kernel
theorem dX1_takeTurn_84 : decode cX1_takeTurn 84 = .ok (.iload_n 1, 1) := by decide +kernel
theorem dX1_takeTurn_85 : decode cX1_takeTurn 85 = .ok (.aload_n 3, 1) := by decide +kernel
theorem dX1_takeTurn_86 : decode cX1_takeTurn 86 = .ok (.invokevirtual 235, 3) := by decide +kernel
theorem dX1_takeTurn_89 : decode cX1_takeTurn 89 = .ok (.goto 11, 3) := by decide +kernel
theorem dX1_takeTurn_92 : decode cX1_takeTurn 92 = .ok (.aload_n 0, 1) := by decide +kernel
theorem dX1_takeTurn_93 : decode cX1_takeTurn 93 = .ok (.getfield 31, 3) := by decide +kernel
theorem dX1_takeTurn_96 : decode cX1_takeTurn 96 = .ok (.iload_n 1, 1) := by decide +kernel
theorem dX1_takeTurn_97 : decode cX1_takeTurn 97 = .ok (.invokevirtual 239, 3) := by decide +kernel
theorem dX1_takeTurn_100 : decode cX1_takeTurn 100 = .ok (.return_, 1) := by decide +kernel
theorem dX1_play_0 : decode cX1_play 0 = .ok (.aload_n 2, 1) := by decide +kernel
theorem dX1_play_1 : decode cX1_play 1 = .ok (.invokevirtual 242, 3) := by decide +kernel
theorem dX1_play_4 : decode cX1_play 4 = .ok (.iconst 1, 1) := by decide +kernel
theorem dX1_play_5 : decode cX1_play 5 = .ok (.if_icmp .ne 7, 3) := by decide +kernel
theorem dX1_play_8 : decode cX1_play 8 = .ok (.iconst 1, 1) := by decide +kernel
theorem dX1_play_9 : decode cX1_play 9 = .ok (.goto 4, 3) := by decide +kernel
theorem dX1_play_12 : decode cX1_play 12 = .ok (.iconst 0, 1) := by decide +kernel
theorem dX1_play_13 : decode cX1_play 13 = .ok (.istore_n 3, 1) := by decide +kernel
theorem dX1_play_14 : decode cX1_play 14 = .ok (.aload_n 0, 1) := by decide +kernel
theorem dX1_play_15 : decode cX1_play 15 = .ok (.iload_n 1, 1) := by decide +kernel
theorem dX1_play_16 : decode cX1_play 16 = .ok (.aload_n 2, 1) := by decide +kernel
theorem dX1_play_17 : decode cX1_play 17 = .ok (.invokevirtual 245, 3) := by decide +kernel
theorem dX1_play_20 : decode cX1_play 20 = .ok (.iload_n 3, 1) := by decide +kernel
theorem dX1_play_21 : decode cX1_play 21 = .ok (.ifCond .eq 10, 3) := by decide +kernel
theorem dX1_play_24 : decode cX1_play 24 = .ok (.aload_n 2, 1) := by decide +kernel
theorem dX1_play_25 : decode cX1_play 25 = .ok (.invokevirtual 248, 3) := by decide +kernel
theorem dX1_play_28 : decode cX1_play 28 = .ok (.goto 4, 3) := by decide +kernel
theorem dX1_play_31 : decode cX1_play 31 = .ok (.iconst (-1), 1) := by decide +kernel
theorem dX1_play_32 : decode cX1_play 32 = .ok (.istore 4, 2) := by decide +kernel
theorem dX1_play_34 : decode cX1_play 34 = .ok (.aload_n 0, 1) := by decide +kernel
theorem dX1_play_35 : decode cX1_play 35 = .ok (.getfield 31, 3) := by decide +kernel
theorem dX1_play_38 : decode cX1_play 38 = .ok (.getfield 251, 3) := by decide +kernel
theorem dX1_play_41 : decode cX1_play 41 = .ok (.iload_n 1, 1) := by decide +kernel
theorem dX1_play_42 : decode cX1_play 42 = .ok (.iaload, 1) := by decide +kernel
theorem dX1_play_43 : decode cX1_play 43 = .ok (.istore 5, 2) := by decide +kernel
theorem dX1_play_45 : decode cX1_play 45 = .ok (.iload 4, 2) := by decide +kernel
theorem dX1_play_47 : decode cX1_play 47 = .ok (.iconst (-1), 1) := by decide +kernel
theorem dX1_play_48 : decode cX1_play 48 = .ok (.if_icmp .ne 7, 3) := by decide +kernel
theorem dX1_play_51 : decode cX1_play 51 = .ok (.iconst (-1), 1) := by decide +kernel
theorem dX1_play_52 : decode cX1_play 52 = .ok (.goto 11, 3) := by decide +kernel
theorem dX1_play_55 : decode cX1_play 55 = .ok (.aload_n 2, 1) := by decide +kernel
theorem dX1_play_56 : decode cX1_play 56 = .ok (.iload 4, 2) := by decide +kernel
theorem dX1_play_58 : decode cX1_play 58 = .ok (.iload 5, 2) := by decide +kernel
theorem dX1_play_60 : decode cX1_play 60 = .ok (.invokevirtual 253, 3) := by decide +kernel
theorem dX1_play_63 : decode cX1_play 63 = .ok (.istore 6, 2) := by decide +kernel
theorem dX1_play_65 : decode cX1_play 65 = .ok (.iload 6, 2) := by decide +kernel
theorem dX1_play_67 : decode cX1_play 67 = .ok (.iconst (-1), 1) := by decide +kernel
theorem dX1_play_68 : decode cX1_play 68 = .ok (.if_icmp .eq 40, 3) := by decide +kernel
theorem dX1_play_71 : decode cX1_play 71 = .ok (.aload_n 0, 1) := by decide +kernel
theorem dX1_play_72 : decode cX1_play 72 = .ok (.iload_n 1, 1) := by decide +kernel
theorem dX1_play_73 : decode cX1_play 73 = .ok (.aload_n 2, 1) := by decide +kernel
theorem dX1_play_74 : decode cX1_play 74 = .ok (.iload 4, 2) := by decide +kernel
theorem dX1_play_76 : decode cX1_play 76 = .ok (.iload 6, 2) := by decide +kernel
theorem dX1_play_78 : decode cX1_play 78 = .ok (.invokevirtual 256, 3) := by decide +kernel
theorem dX1_play_81 : decode cX1_play 81 = .ok (.aload_n 0, 1) := by decide +kernel
theorem dX1_play_82 : decode cX1_play 82 = .ok (.getfield 31, 3) := by decide +kernel
theorem dX1_play_85 : decode cX1_play 85 = .ok (.iload_n 1, 1) := by decide +kernel
theorem dX1_play_86 : decode cX1_play 86 = .ok (.bipush 20, 2) := by decide +kernel
theorem dX1_play_88 : decode cX1_play 88 = .ok (.iload 6, 2) := by decide +kernel
theorem dX1_play_90 : decode cX1_play 90 = .ok (.iload 5, 2) := by decide +kernel
theorem dX1_play_92 : decode cX1_play 92 = .ok (.if_icmp .ne 8, 3) := by decide +kernel
theorem dX1_play_95 : decode cX1_play 95 = .ok (.bipush 10, 2) := by decide +kernel
theorem dX1_play_97 : decode cX1_play 97 = .ok (.goto 4, 3) := by decide +kernel
theorem dX1_play_100 : decode cX1_play 100 = .ok (.iconst 0, 1) := by decide +kernel
theorem dX1_play_101 : decode cX1_play 101 = .ok (.iadd, 1) := by decide +kernel
theorem dX1_play_102 : decode cX1_play 102 = .ok (.invokevirtual 222, 3) := by decide +kernel
theorem dX1_play_105 : decode cX1_play 105 = .ok (.goto 26, 3) := by decide +kernel
theorem dX1_play_108 : decode cX1_play 108 = .ok (.aload_n 0, 1) := by decide +kernel
theorem dX1_play_109 : decode cX1_play 109 = .ok (.getfield 31, 3) := by decide +kernel
theorem dX1_play_112 : decode cX1_play 112 = .ok (.iload_n 1, 1) := by decide +kernel
theorem dX1_play_113 : decode cX1_play 113 = .ok (.aload_n 2, 1) := by decide +kernel
theorem dX1_play_114 : decode cX1_play 114 = .ok (.getfield 260, 3) := by decide +kernel
theorem dX1_play_117 : decode cX1_play 117 = .ok (.iconst 4, 1) := by decide +kernel
theorem dX1_play_118 : decode cX1_play 118 = .ok (.if_icmp .ne 8, 3) := by decide +kernel
theorem dX1_play_121 : decode cX1_play 121 = .ok (.bipush 15, 2) := by decide +kernel
theorem dX1_play_123 : decode cX1_play 123 = .ok (.goto 5, 3) := by decide +kernel
theorem dX1_play_126 : decode cX1_play 126 = .ok (.bipush (-8), 2) := by decide +kernel
theorem dX1_play_128 : decode cX1_play 128 = .ok (.invokevirtual 222, 3) := by decide +kernel
theorem dX1_play_131 : decode cX1_play 131 = .ok (.return_, 1) := by decide +kernel
theorem dX1_pay_0 : decode cX1_pay 0 = .ok (.aload_n 0, 1) := by decide +kernel
theorem dX1_pay_1 : decode cX1_pay 1 = .ok (.getfield 31, 3) := by decide +kernel
theorem dX1_pay_4 : decode cX1_pay 4 = .ok (.getfield 261, 3) := by decide +kernel
theorem dX1_pay_7 : decode cX1_pay 7 = .ok (.iload_n 1, 1) := by decide +kernel
theorem dX1_pay_8 : decode cX1_pay 8 = .ok (.dup2, 1) := by decide +kernel
theorem dX1_pay_9 : decode cX1_pay 9 = .ok (.iaload, 1) := by decide +kernel
theorem dX1_pay_10 : decode cX1_pay 10 = .ok (.aload_n 2, 1) := by decide +kernel
theorem dX1_pay_11 : decode cX1_pay 11 = .ok (.getfield 263, 3) := by decide +kernel
theorem dX1_pay_14 : decode cX1_pay 14 = .ok (.isub, 1) := by decide +kernel
theorem dX1_pay_15 : decode cX1_pay 15 = .ok (.iastore, 1) := by decide +kernel
theorem dX1_pay_16 : decode cX1_pay 16 = .ok (.aload_n 0, 1) := by decide +kernel
theorem dX1_pay_17 : decode cX1_pay 17 = .ok (.getfield 31, 3) := by decide +kernel
theorem dX1_pay_20 : decode cX1_pay 20 = .ok (.getfield 266, 3) := by decide +kernel
theorem dX1_pay_23 : decode cX1_pay 23 = .ok (.iload_n 1, 1) := by decide +kernel
theorem dX1_pay_24 : decode cX1_pay 24 = .ok (.dup2, 1) := by decide +kernel
theorem dX1_pay_25 : decode cX1_pay 25 = .ok (.iaload, 1) := by decide +kernel
theorem dX1_pay_26 : decode cX1_pay 26 = .ok (.iconst 1, 1) := by decide +kernel
theorem dX1_pay_27 : decode cX1_pay 27 = .ok (.iadd, 1) := by decide +kernel
theorem dX1_pay_28 : decode cX1_pay 28 = .ok (.iastore, 1) := by decide +kernel
theorem dX1_pay_29 : decode cX1_pay 29 = .ok (.aload_n 2, 1) := by decide +kernel
theorem dX1_pay_30 : decode cX1_pay 30 = .ok (.dup, 1) := by decide +kernel
theorem dX1_pay_31 : decode cX1_pay 31 = .ok (.getfield 164, 3) := by decide +kernel
theorem dX1_pay_34 : decode cX1_pay 34 = .ok (.aload_n 2, 1) := by decide +kernel
theorem dX1_pay_35 : decode cX1_pay 35 = .ok (.getfield 263, 3) := by decide +kernel
theorem dX1_pay_38 : decode cX1_pay 38 = .ok (.iadd, 1) := by decide +kernel
theorem dX1_pay_39 : decode cX1_pay 39 = .ok (.putfield 164, 3) := by decide +kernel
theorem dX1_pay_42 : decode cX1_pay 42 = .ok (.aload_n 2, 1) := by decide +kernel
theorem dX1_pay_43 : decode cX1_pay 43 = .ok (.dup, 1) := by decide +kernel
theorem dX1_pay_44 : decode cX1_pay 44 = .ok (.getfield 269, 3) := by decide +kernel
theorem dX1_pay_47 : decode cX1_pay 47 = .ok (.iconst 1, 1) := by decide +kernel
theorem dX1_pay_48 : decode cX1_pay 48 = .ok (.iadd, 1) := by decide +kernel
theorem dX1_pay_49 : decode cX1_pay 49 = .ok (.putfield 269, 3) := by decide +kernel
theorem dX1_pay_52 : decode cX1_pay 52 = .ok (.aload_n 2, 1) := by decide +kernel
theorem dX1_pay_53 : decode cX1_pay 53 = .ok (.iconst 1, 1) := by decide +kernel
theorem dX1_pay_54 : decode cX1_pay 54 = .ok (.putfield 214, 3) := by decide +kernel
theorem dX1_pay_57 : decode cX1_pay 57 = .ok (.aload_n 0, 1) := by decide +kernel
theorem dX1_pay_58 : decode cX1_pay 58 = .ok (.dup, 1) := by decide +kernel
theorem dX1_pay_59 : decode cX1_pay 59 = .ok (.getfield 45, 3) := by decide +kernel
theorem dX1_pay_62 : decode cX1_pay 62 = .ok (.aload_n 2, 1) := by decide +kernel
theorem dX1_pay_63 : decode cX1_pay 63 = .ok (.getfield 263, 3) := by decide +kernel
theorem dX1_pay_66 : decode cX1_pay 66 = .ok (.iadd, 1) := by decide +kernel
theorem dX1_pay_67 : decode cX1_pay 67 = .ok (.putfield 45, 3) := by decide +kernel
theorem dX1_pay_70 : decode cX1_pay 70 = .ok (.aload_n 0, 1) := by decide +kernel
theorem dX1_pay_71 : decode cX1_pay 71 = .ok (.dup, 1) := by decide +kernel
theorem dX1_pay_72 : decode cX1_pay 72 = .ok (.getfield 48, 3) := by decide +kernel
theorem dX1_pay_75 : decode cX1_pay 75 = .ok (.iconst 1, 1) := by decide +kernel
theorem dX1_pay_76 : decode cX1_pay 76 = .ok (.iadd, 1) := by decide +kernel
theorem dX1_pay_77 : decode cX1_pay 77 = .ok (.putfield 48, 3) := by decide +kernel
theorem dX1_pay_80 : decode cX1_pay 80 = .ok (.return_, 1) := by decide +kernel
theorem dX1_handOver_0 : decode cX1_handOver 0 = .ok (.aload_n 2, 1) := by decide +kernel
theorem dX1_handOver_1 : decode cX1_handOver 1 = .ok (.getfield 170, 3) := by decide +kernel
theorem dX1_handOver_4 : decode cX1_handOver 4 = .ok (.iload_n 3, 1) := by decide +kernel
theorem dX1_handOver_5 : decode cX1_handOver 5 = .ok (.iconst 4, 1) := by decide +kernel
theorem dX1_handOver_6 : decode cX1_handOver 6 = .ok (.imul, 1) := by decide +kernel
theorem dX1_handOver_7 : decode cX1_handOver 7 = .ok (.iload 4, 2) := by decide +kernel
theorem dX1_handOver_9 : decode cX1_handOver 9 = .ok (.iadd, 1) := by decide +kernel
theorem dX1_handOver_10 : decode cX1_handOver 10 = .ok (.dup2, 1) := by decide +kernel
theorem dX1_handOver_11 : decode cX1_handOver 11 = .ok (.iaload, 1) := by decide +kernel
theorem dX1_handOver_12 : decode cX1_handOver 12 = .ok (.iconst 1, 1) := by decide +kernel
theorem dX1_handOver_13 : decode cX1_handOver 13 = .ok (.isub, 1) := by decide +kernel
theorem dX1_handOver_14 : decode cX1_handOver 14 = .ok (.iastore, 1) := by decide +kernel
theorem dX1_handOver_15 : decode cX1_handOver 15 = .ok (.aload_n 0, 1) := by decide +kernel
theorem dX1_handOver_16 : decode cX1_handOver 16 = .ok (.getfield 31, 3) := by decide +kernel
theorem dX1_handOver_19 : decode cX1_handOver 19 = .ok (.getfield 270, 3) := by decide +kernel
theorem dX1_handOver_22 : decode cX1_handOver 22 = .ok (.iload_n 1, 1) := by decide +kernel
theorem dX1_handOver_23 : decode cX1_handOver 23 = .ok (.dup2, 1) := by decide +kernel
theorem dX1_handOver_24 : decode cX1_handOver 24 = .ok (.iaload, 1) := by decide +kernel
theorem dX1_handOver_25 : decode cX1_handOver 25 = .ok (.iconst 1, 1) := by decide +kernel
theorem dX1_handOver_26 : decode cX1_handOver 26 = .ok (.iadd, 1) := by decide +kernel
theorem dX1_handOver_27 : decode cX1_handOver 27 = .ok (.iastore, 1) := by decide +kernel
theorem dX1_handOver_28 : decode cX1_handOver 28 = .ok (.aload_n 0, 1) := by decide +kernel
theorem dX1_handOver_29 : decode cX1_handOver 29 = .ok (.getfield 19, 3) := by decide +kernel
theorem dX1_handOver_32 : decode cX1_handOver 32 = .ok (.iload_n 3, 1) := by decide +kernel
theorem dX1_handOver_33 : decode cX1_handOver 33 = .ok (.dup2, 1) := by decide +kernel
theorem dX1_handOver_34 : decode cX1_handOver 34 = .ok (.iaload, 1) := by decide +kernel
theorem dX1_handOver_35 : decode cX1_handOver 35 = .ok (.iconst 1, 1) := by decide +kernel
theorem dX1_handOver_36 : decode cX1_handOver 36 = .ok (.iadd, 1) := by decide +kernel
theorem dX1_handOver_37 : decode cX1_handOver 37 = .ok (.iastore, 1) := by decide +kernel
theorem dX1_handOver_38 : decode cX1_handOver 38 = .ok (.return_, 1) := by decide +kernel
theorem dX1_endDay_0 : decode cX1_endDay 0 = .ok (.aload_n 0, 1) := by decide +kernel
theorem dX1_endDay_1 : decode cX1_endDay 1 = .ok (.getfield 31, 3) := by decide +kernel
theorem dX1_endDay_4 : decode cX1_endDay 4 = .ok (.invokevirtual 273, 3) := by decide +kernel
theorem dX1_endDay_7 : decode cX1_endDay 7 = .ok (.iconst 0, 1) := by decide +kernel
theorem dX1_endDay_8 : decode cX1_endDay 8 = .ok (.istore_n 1, 1) := by decide +kernel
theorem dX1_endDay_9 : decode cX1_endDay 9 = .ok (.iload_n 1, 1) := by decide +kernel
theorem dX1_endDay_10 : decode cX1_endDay 10 = .ok (.aload_n 0, 1) := by decide +kernel
theorem dX1_endDay_11 : decode cX1_endDay 11 = .ok (.getfield 63, 3) := by decide +kernel
theorem dX1_endDay_14 : decode cX1_endDay 14 = .ok (.if_icmp .ge 31, 3) := by decide +kernel
theorem dX1_endDay_17 : decode cX1_endDay 17 = .ok (.aload_n 0, 1) := by decide +kernel
theorem dX1_endDay_18 : decode cX1_endDay 18 = .ok (.getfield 24, 3) := by decide +kernel
theorem dX1_endDay_21 : decode cX1_endDay 21 = .ok (.iload_n 1, 1) := by decide +kernel
theorem dX1_endDay_22 : decode cX1_endDay 22 = .ok (.aaload, 1) := by decide +kernel
theorem dX1_endDay_23 : decode cX1_endDay 23 = .ok (.getfield 179, 3) := by decide +kernel
theorem dX1_endDay_26 : decode cX1_endDay 26 = .ok (.ifCond .eq 13, 3) := by decide +kernel
theorem dX1_endDay_29 : decode cX1_endDay 29 = .ok (.aload_n 0, 1) := by decide +kernel
theorem dX1_endDay_30 : decode cX1_endDay 30 = .ok (.aload_n 0, 1) := by decide +kernel
theorem dX1_endDay_31 : decode cX1_endDay 31 = .ok (.getfield 24, 3) := by decide +kernel
theorem dX1_endDay_34 : decode cX1_endDay 34 = .ok (.iload_n 1, 1) := by decide +kernel
theorem dX1_endDay_35 : decode cX1_endDay 35 = .ok (.aaload, 1) := by decide +kernel
theorem dX1_endDay_36 : decode cX1_endDay 36 = .ok (.invokevirtual 276, 3) := by decide +kernel
theorem dX1_endDay_39 : decode cX1_endDay 39 = .ok (.iinc 1 1, 3) := by decide +kernel
theorem dX1_endDay_42 : decode cX1_endDay 42 = .ok (.goto (-33), 3) := by decide +kernel
theorem dX1_endDay_45 : decode cX1_endDay 45 = .ok (.aload_n 0, 1) := by decide +kernel
theorem dX1_endDay_46 : decode cX1_endDay 46 = .ok (.dup, 1) := by decide +kernel
theorem dX1_endDay_47 : decode cX1_endDay 47 = .ok (.getfield 51, 3) := by decide +kernel
theorem dX1_endDay_50 : decode cX1_endDay 50 = .ok (.iconst 1, 1) := by decide +kernel
theorem dX1_endDay_51 : decode cX1_endDay 51 = .ok (.iadd, 1) := by decide +kernel
theorem dX1_endDay_52 : decode cX1_endDay 52 = .ok (.putfield 51, 3) := by decide +kernel
theorem dX1_endDay_55 : decode cX1_endDay 55 = .ok (.aload_n 0, 1) := by decide +kernel
theorem dX1_endDay_56 : decode cX1_endDay 56 = .ok (.iconst 0, 1) := by decide +kernel
theorem dX1_endDay_57 : decode cX1_endDay 57 = .ok (.putfield 54, 3) := by decide +kernel
theorem dX1_endDay_60 : decode cX1_endDay 60 = .ok (.return_, 1) := by decide +kernel
theorem dX1_payRent_0 : decode cX1_payRent 0 = .ok (.aload_n 1, 1) := by decide +kernel
theorem dX1_payRent_1 : decode cX1_payRent 1 = .ok (.invokevirtual 279, 3) := by decide +kernel
theorem dX1_payRent_4 : decode cX1_payRent 4 = .ok (.aload_n 1, 1) := by decide +kernel
theorem dX1_payRent_5 : decode cX1_payRent 5 = .ok (.getfield 164, 3) := by decide +kernel
theorem dX1_payRent_8 : decode cX1_payRent 8 = .ok (.invokestatic 182, 3) := by decide +kernel
theorem dX1_payRent_11 : decode cX1_payRent 11 = .ok (.istore_n 2, 1) := by decide +kernel
theorem dX1_payRent_12 : decode cX1_payRent 12 = .ok (.aload_n 1, 1) := by decide +kernel
theorem dX1_payRent_13 : decode cX1_payRent 13 = .ok (.aload_n 1, 1) := by decide +kernel
theorem dX1_payRent_14 : decode cX1_payRent 14 = .ok (.getfield 164, 3) := by decide +kernel
theorem dX1_payRent_17 : decode cX1_payRent 17 = .ok (.aload_n 1, 1) := by decide +kernel
theorem dX1_payRent_18 : decode cX1_payRent 18 = .ok (.invokevirtual 279, 3) := by decide +kernel
theorem dX1_payRent_21 : decode cX1_payRent 21 = .ok (.if_icmp .lt 7, 3) := by decide +kernel
theorem dX1_payRent_24 : decode cX1_payRent 24 = .ok (.iconst 1, 1) := by decide +kernel
theorem dX1_payRent_25 : decode cX1_payRent 25 = .ok (.goto 4, 3) := by decide +kernel
theorem dX1_payRent_28 : decode cX1_payRent 28 = .ok (.iconst 0, 1) := by decide +kernel
theorem dX1_payRent_29 : decode cX1_payRent 29 = .ok (.putfield 179, 3) := by decide +kernel
theorem dX1_payRent_32 : decode cX1_payRent 32 = .ok (.aload_n 1, 1) := by decide +kernel
theorem dX1_payRent_33 : decode cX1_payRent 33 = .ok (.dup, 1) := by decide +kernel
theorem dX1_payRent_34 : decode cX1_payRent 34 = .ok (.getfield 164, 3) := by decide +kernel
theorem dX1_payRent_37 : decode cX1_payRent 37 = .ok (.iload_n 2, 1) := by decide +kernel
theorem dX1_payRent_38 : decode cX1_payRent 38 = .ok (.isub, 1) := by decide +kernel
theorem dX1_payRent_39 : decode cX1_payRent 39 = .ok (.putfield 164, 3) := by decide +kernel
theorem dX1_payRent_42 : decode cX1_payRent 42 = .ok (.aload_n 0, 1) := by decide +kernel
theorem dX1_payRent_43 : decode cX1_payRent 43 = .ok (.dup, 1) := by decide +kernel
theorem dX1_payRent_44 : decode cX1_payRent 44 = .ok (.getfield 36, 3) := by decide +kernel
theorem dX1_payRent_47 : decode cX1_payRent 47 = .ok (.iload_n 2, 1) := by decide +kernel
theorem dX1_payRent_48 : decode cX1_payRent 48 = .ok (.iadd, 1) := by decide +kernel
theorem dX1_payRent_49 : decode cX1_payRent 49 = .ok (.putfield 36, 3) := by decide +kernel
theorem dX1_payRent_52 : decode cX1_payRent 52 = .ok (.return_, 1) := by decide +kernel
theorem dX2_init_0 : decode cX2_init 0 = .ok (.aload_n 0, 1) := by decide +kernel
theorem dX2_init_1 : decode cX2_init 1 = .ok (.invokespecial 3, 3) := by decide +kernel
theorem dX2_init_4 : decode cX2_init 4 = .ok (.aload_n 0, 1) := by decide +kernel
theorem dX2_init_5 : decode cX2_init 5 = .ok (.bipush 80, 2) := by decide +kernel
theorem dX2_init_7 : decode cX2_init 7 = .ok (.newarray .char, 2) := by decide +kernel
theorem dX2_init_9 : decode cX2_init 9 = .ok (.putfield 9, 3) := by decide +kernel
theorem dX2_init_12 : decode cX2_init 12 = .ok (.return_, 1) := by decide +kernel
theorem dX2_append_0 : decode cX2_append 0 = .ok (.aload_n 0, 1) := by decide +kernel
theorem dX2_append_1 : decode cX2_append 1 = .ok (.getfield 15, 3) := by decide +kernel
theorem dX2_append_4 : decode cX2_append 4 = .ok (.bipush 80, 2) := by decide +kernel
theorem dX2_append_6 : decode cX2_append 6 = .ok (.if_icmp .lt 5, 3) := by decide +kernel
theorem dX2_append_9 : decode cX2_append 9 = .ok (.iconst 0, 1) := by decide +kernel
theorem dX2_append_10 : decode cX2_append 10 = .ok (.ireturn, 1) := by decide +kernel
theorem dX2_append_11 : decode cX2_append 11 = .ok (.aload_n 0, 1) := by decide +kernel
theorem dX2_append_12 : decode cX2_append 12 = .ok (.getfield 9, 3) := by decide +kernel
theorem dX2_append_15 : decode cX2_append 15 = .ok (.aload_n 0, 1) := by decide +kernel
theorem dX2_append_16 : decode cX2_append 16 = .ok (.getfield 15, 3) := by decide +kernel
theorem dX2_append_19 : decode cX2_append 19 = .ok (.iload_n 1, 1) := by decide +kernel
theorem dX2_append_20 : decode cX2_append 20 = .ok (.castore, 1) := by decide +kernel
theorem dX2_append_21 : decode cX2_append 21 = .ok (.aload_n 0, 1) := by decide +kernel
theorem dX2_append_22 : decode cX2_append 22 = .ok (.dup, 1) := by decide +kernel
theorem dX2_append_23 : decode cX2_append 23 = .ok (.getfield 15, 3) := by decide +kernel
theorem dX2_append_26 : decode cX2_append 26 = .ok (.iconst 1, 1) := by decide +kernel
theorem dX2_append_27 : decode cX2_append 27 = .ok (.iadd, 1) := by decide +kernel
theorem dX2_append_28 : decode cX2_append 28 = .ok (.putfield 15, 3) := by decide +kernel
theorem dX2_append_31 : decode cX2_append 31 = .ok (.iconst 1, 1) := by decide +kernel
theorem dX2_append_32 : decode cX2_append 32 = .ok (.ireturn, 1) := by decide +kernel
theorem dX2_rewind_0 : decode cX2_rewind 0 = .ok (.aload_n 0, 1) := by decide +kernel
theorem dX2_rewind_1 : decode cX2_rewind 1 = .ok (.iconst 0, 1) := by decide +kernel
theorem dX2_rewind_2 : decode cX2_rewind 2 = .ok (.putfield 19, 3) := by decide +kernel
theorem dX2_rewind_5 : decode cX2_rewind 5 = .ok (.aload_n 0, 1) := by decide +kernel
theorem dX2_rewind_6 : decode cX2_rewind 6 = .ok (.iconst 0, 1) := by decide +kernel
theorem dX2_rewind_7 : decode cX2_rewind 7 = .ok (.putfield 22, 3) := by decide +kernel
theorem dX2_rewind_10 : decode cX2_rewind 10 = .ok (.return_, 1) := by decide +kernel
theorem dX2_firstError_0 : decode cX2_firstError 0 = .ok (.aload_n 0, 1) := by decide +kernel
theorem dX2_firstError_1 : decode cX2_firstError 1 = .ok (.invokevirtual 25, 3) := by decide +kernel
theorem dX2_firstError_4 : decode cX2_firstError 4 = .ok (.iconst 0, 1) := by decide +kernel
theorem dX2_firstError_5 : decode cX2_firstError 5 = .ok (.istore_n 1, 1) := by decide +kernel
theorem dX2_firstError_6 : decode cX2_firstError 6 = .ok (.iload_n 1, 1) := by decide +kernel
theorem dX2_firstError_7 : decode cX2_firstError 7 = .ok (.bipush 80, 2) := by decide +kernel
theorem dX2_firstError_9 : decode cX2_firstError 9 = .ok (.if_icmp .ge 29, 3) := by decide +kernel
theorem dX2_firstError_12 : decode cX2_firstError 12 = .ok (.aload_n 0, 1) := by decide +kernel
theorem dX2_firstError_13 : decode cX2_firstError 13 = .ok (.invokevirtual 28, 3) := by decide +kernel
theorem dX2_firstError_16 : decode cX2_firstError 16 = .ok (.ifCond .eq 22, 3) := by decide +kernel
theorem dX2_firstError_19 : decode cX2_firstError 19 = .ok (.aload_n 0, 1) := by decide +kernel
theorem dX2_firstError_20 : decode cX2_firstError 20 = .ok (.getfield 19, 3) := by decide +kernel
theorem dX2_firstError_23 : decode cX2_firstError 23 = .ok (.aload_n 0, 1) := by decide +kernel
theorem dX2_firstError_24 : decode cX2_firstError 24 = .ok (.getfield 15, 3) := by decide +kernel
theorem dX2_firstError_27 : decode cX2_firstError 27 = .ok (.if_icmp .ne 5, 3) := by decide +kernel
theorem dX2_firstError_30 : decode cX2_firstError 30 = .ok (.iconst (-1), 1) := by decide +kernel
theorem dX2_firstError_31 : decode cX2_firstError 31 = .ok (.ireturn, 1) := by decide +kernel
theorem dX2_firstError_32 : decode cX2_firstError 32 = .ok (.iinc 1 1, 3) := by decide +kernel
theorem dX2_firstError_35 : decode cX2_firstError 35 = .ok (.goto (-29), 3) := by decide +kernel
theorem dX2_firstError_38 : decode cX2_firstError 38 = .ok (.aload_n 0, 1) := by decide +kernel
theorem dX2_firstError_39 : decode cX2_firstError 39 = .ok (.getfield 19, 3) := by decide +kernel
theorem dX2_firstError_42 : decode cX2_firstError 42 = .ok (.ireturn, 1) := by decide +kernel
theorem dX2_readNext_0 : decode cX2_readNext 0 = .ok (.aload_n 0, 1) := by decide +kernel
theorem dX2_readNext_1 : decode cX2_readNext 1 = .ok (.getfield 22, 3) := by decide +kernel
theorem dX2_readNext_4 : decode cX2_readNext 4 = .ok (.ifCond .le 14, 3) := by decide +kernel
theorem dX2_readNext_7 : decode cX2_readNext 7 = .ok (.aload_n 0, 1) := by decide +kernel
theorem dX2_readNext_8 : decode cX2_readNext 8 = .ok (.bipush 59, 2) := by decide +kernel
theorem dX2_readNext_10 : decode cX2_readNext 10 = .ok (.invokevirtual 32, 3) := by decide +kernel
theorem dX2_readNext_13 : decode cX2_readNext 13 = .ok (.ifCond .ne 5, 3) := by decide +kernel
theorem dX2_readNext_16 : decode cX2_readNext 16 = .ok (.iconst 0, 1) := by decide +kernel
theorem dX2_readNext_17 : decode cX2_readNext 17 = .ok (.ireturn, 1) := by decide +kernel
theorem dX2_readNext_18 : decode cX2_readNext 18 = .ok (.aload_n 0, 1) := by decide +kernel
theorem dX2_readNext_19 : decode cX2_readNext 19 = .ok (.invokevirtual 36, 3) := by decide +kernel
theorem dX2_readNext_22 : decode cX2_readNext 22 = .ok (.ifCond .ne 5, 3) := by decide +kernel
theorem dX2_readNext_25 : decode cX2_readNext 25 = .ok (.iconst 0, 1) := by decide +kernel
theorem dX2_readNext_26 : decode cX2_readNext 26 = .ok (.ireturn, 1) := by decide +kernel
theorem dX2_readNext_27 : decode cX2_readNext 27 = .ok (.aload_n 0, 1) := by decide +kernel
theorem dX2_readNext_28 : decode cX2_readNext 28 = .ok (.dup, 1) := by decide +kernel
theorem dX2_readNext_29 : decode cX2_readNext 29 = .ok (.getfield 22, 3) := by decide +kernel
theorem dX2_readNext_32 : decode cX2_readNext 32 = .ok (.iconst 1, 1) := by decide +kernel
theorem dX2_readNext_33 : decode cX2_readNext 33 = .ok (.iadd, 1) := by decide +kernel
theorem dX2_readNext_34 : decode cX2_readNext 34 = .ok (.putfield 22, 3) := by decide +kernel
theorem dX2_readNext_37 : decode cX2_readNext 37 = .ok (.iconst 1, 1) := by decide +kernel
theorem dX2_readNext_38 : decode cX2_readNext 38 = .ok (.ireturn, 1) := by decide +kernel
theorem dX2_readOrder_0 : decode cX2_readOrder 0 = .ok (.aload_n 0, 1) := by decide +kernel
theorem dX2_readOrder_1 : decode cX2_readOrder 1 = .ok (.getfield 19, 3) := by decide +kernel
theorem dX2_readOrder_4 : decode cX2_readOrder 4 = .ok (.aload_n 0, 1) := by decide +kernel
theorem dX2_readOrder_5 : decode cX2_readOrder 5 = .ok (.getfield 15, 3) := by decide +kernel
theorem dX2_readOrder_8 : decode cX2_readOrder 8 = .ok (.if_icmp .lt 5, 3) := by decide +kernel
theorem dX2_readOrder_11 : decode cX2_readOrder 11 = .ok (.iconst 0, 1) := by decide +kernel
theorem dX2_readOrder_12 : decode cX2_readOrder 12 = .ok (.ireturn, 1) := by decide +kernel
theorem dX2_readOrder_13 : decode cX2_readOrder 13 = .ok (.aload_n 0, 1) := by decide +kernel
theorem dX2_readOrder_14 : decode cX2_readOrder 14 = .ok (.aload_n 0, 1) := by decide +kernel
theorem dX2_readOrder_15 : decode cX2_readOrder 15 = .ok (.getfield 9, 3) := by decide +kernel
theorem dX2_readOrder_18 : decode cX2_readOrder 18 = .ok (.aload_n 0, 1) := by decide +kernel
theorem dX2_readOrder_19 : decode cX2_readOrder 19 = .ok (.getfield 19, 3) := by decide +kernel
theorem dX2_readOrder_22 : decode cX2_readOrder 22 = .ok (.caload, 1) := by decide +kernel
theorem dX2_readOrder_23 : decode cX2_readOrder 23 = .ok (.putfield 39, 3) := by decide +kernel
theorem dX2_readOrder_26 : decode cX2_readOrder 26 = .ok (.aload_n 0, 1) := by decide +kernel
theorem dX2_readOrder_27 : decode cX2_readOrder 27 = .ok (.bipush 98, 2) := by decide +kernel
theorem dX2_readOrder_29 : decode cX2_readOrder 29 = .ok (.invokevirtual 32, 3) := by decide +kernel
theorem dX2_readOrder_32 : decode cX2_readOrder 32 = .ok (.ifCond .eq 42, 3) := by decide +kernel
theorem dX2_readOrder_35 : decode cX2_readOrder 35 = .ok (.aload_n 0, 1) := by decide +kernel
theorem dX2_readOrder_36 : decode cX2_readOrder 36 = .ok (.bipush 11, 2) := by decide +kernel
theorem dX2_readOrder_38 : decode cX2_readOrder 38 = .ok (.invokevirtual 43, 3) := by decide +kernel
theorem dX2_readOrder_41 : decode cX2_readOrder 41 = .ok (.ifCond .eq 31, 3) := by decide +kernel
theorem dX2_readOrder_44 : decode cX2_readOrder 44 = .ok (.aload_n 0, 1) := by decide +kernel
theorem dX2_readOrder_45 : decode cX2_readOrder 45 = .ok (.invokevirtual 47, 3) := by decide +kernel
theorem dX2_readOrder_48 : decode cX2_readOrder 48 = .ok (.ifCond .eq 24, 3) := by decide +kernel
theorem dX2_readOrder_51 : decode cX2_readOrder 51 = .ok (.aload_n 0, 1) := by decide +kernel
theorem dX2_readOrder_52 : decode cX2_readOrder 52 = .ok (.iconst 1, 1) := by decide +kernel
theorem dX2_readOrder_53 : decode cX2_readOrder 53 = .ok (.bipush 9, 2) := by decide +kernel
theorem dX2_readOrder_55 : decode cX2_readOrder 55 = .ok (.invokevirtual 50, 3) := by decide +kernel
theorem dX2_readOrder_58 : decode cX2_readOrder 58 = .ok (.ifCond .eq 14, 3) := by decide +kernel
theorem dX2_readOrder_61 : decode cX2_readOrder 61 = .ok (.aload_n 0, 1) := by decide +kernel
theorem dX2_readOrder_62 : decode cX2_readOrder 62 = .ok (.invokevirtual 54, 3) := by decide +kernel
theorem dX2_readOrder_65 : decode cX2_readOrder 65 = .ok (.ifCond .eq 7, 3) := by decide +kernel
theorem dX2_readOrder_68 : decode cX2_readOrder 68 = .ok (.iconst 1, 1) := by decide +kernel
theorem dX2_readOrder_69 : decode cX2_readOrder 69 = .ok (.goto 4, 3) := by decide +kernel
theorem dX2_readOrder_72 : decode cX2_readOrder 72 = .ok (.iconst 0, 1) := by decide +kernel
theorem dX2_readOrder_73 : decode cX2_readOrder 73 = .ok (.ireturn, 1) := by decide +kernel
theorem dX2_readOrder_74 : decode cX2_readOrder 74 = .ok (.aload_n 0, 1) := by decide +kernel
theorem dX2_readOrder_75 : decode cX2_readOrder 75 = .ok (.bipush 114, 2) := by decide +kernel
theorem dX2_readOrder_77 : decode cX2_readOrder 77 = .ok (.invokevirtual 32, 3) := by decide +kernel
theorem dX2_readOrder_80 : decode cX2_readOrder 80 = .ok (.ifCond .eq 59, 3) := by decide +kernel
theorem dX2_readOrder_83 : decode cX2_readOrder 83 = .ok (.aload_n 0, 1) := by decide +kernel
theorem dX2_readOrder_84 : decode cX2_readOrder 84 = .ok (.iconst 5, 1) := by decide +kernel
theorem dX2_readOrder_85 : decode cX2_readOrder 85 = .ok (.invokevirtual 43, 3) := by decide +kernel
theorem dX2_readOrder_88 : decode cX2_readOrder 88 = .ok (.ifCond .eq 49, 3) := by decide +kernel
theorem dX2_readOrder_91 : decode cX2_readOrder 91 = .ok (.aload_n 0, 1) := by decide +kernel
theorem dX2_readOrder_92 : decode cX2_readOrder 92 = .ok (.bipush 58, 2) := by decide +kernel
theorem dX2_readOrder_94 : decode cX2_readOrder 94 = .ok (.invokevirtual 32, 3) := by decide +kernel
theorem dX2_readOrder_97 : decode cX2_readOrder 97 = .ok (.ifCond .eq 40, 3) := by decide +kernel
theorem dX2_readOrder_100 : decode cX2_readOrder 100 = .ok (.aload_n 0, 1) := by decide +kernel
theorem dX2_readOrder_101 : decode cX2_readOrder 101 = .ok (.invokevirtual 57, 3) := by decide +kernel
theorem dX2_readOrder_104 : decode cX2_readOrder 104 = .ok (.ifCond .eq 33, 3) := by decide +kernel
theorem dX2_readOrder_107 : decode cX2_readOrder 107 = .ok (.aload_n 0, 1) := by decide +kernel
theorem dX2_readOrder_108 : decode cX2_readOrder 108 = .ok (.invokevirtual 60, 3) := by decide +kernel
theorem dX2_readOrder_111 : decode cX2_readOrder 111 = .ok (.ifCond .eq 26, 3) := by decide +kernel
theorem dX2_readOrder_114 : decode cX2_readOrder 114 = .ok (.aload_n 0, 1) := by decide +kernel
theorem dX2_readOrder_115 : decode cX2_readOrder 115 = .ok (.bipush 42, 2) := by decide +kernel
theorem dX2_readOrder_117 : decode cX2_readOrder 117 = .ok (.invokevirtual 32, 3) := by decide +kernel
theorem dX2_readOrder_120 : decode cX2_readOrder 120 = .ok (.ifCond .eq 17, 3) := by decide +kernel
theorem dX2_readOrder_123 : decode cX2_readOrder 123 = .ok (.aload_n 0, 1) := by decide +kernel
theorem dX2_readOrder_124 : decode cX2_readOrder 124 = .ok (.iconst 1, 1) := by decide +kernel
theorem dX2_readOrder_125 : decode cX2_readOrder 125 = .ok (.bipush 40, 2) := by decide +kernel
theorem dX2_readOrder_127 : decode cX2_readOrder 127 = .ok (.invokevirtual 50, 3) := by decide +kernel
theorem dX2_readOrder_130 : decode cX2_readOrder 130 = .ok (.ifCond .eq 7, 3) := by decide +kernel
theorem dX2_readOrder_133 : decode cX2_readOrder 133 = .ok (.iconst 1, 1) := by decide +kernel
theorem dX2_readOrder_134 : decode cX2_readOrder 134 = .ok (.goto 4, 3) := by decide +kernel
theorem dX2_readOrder_137 : decode cX2_readOrder 137 = .ok (.iconst 0, 1) := by decide +kernel
theorem dX2_readOrder_138 : decode cX2_readOrder 138 = .ok (.ireturn, 1) := by decide +kernel
theorem dX2_readOrder_139 : decode cX2_readOrder 139 = .ok (.aload_n 0, 1) := by decide +kernel
theorem dX2_readOrder_140 : decode cX2_readOrder 140 = .ok (.bipush 102, 2) := by decide +kernel
theorem dX2_readOrder_142 : decode cX2_readOrder 142 = .ok (.invokevirtual 32, 3) := by decide +kernel
theorem dX2_readOrder_145 : decode cX2_readOrder 145 = .ok (.ifCond .eq 36, 3) := by decide +kernel
theorem dX2_readOrder_148 : decode cX2_readOrder 148 = .ok (.aload_n 0, 1) := by decide +kernel
theorem dX2_readOrder_149 : decode cX2_readOrder 149 = .ok (.iconst 5, 1) := by decide +kernel
theorem dX2_readOrder_150 : decode cX2_readOrder 150 = .ok (.invokevirtual 43, 3) := by decide +kernel
theorem dX2_readOrder_153 : decode cX2_readOrder 153 = .ok (.ifCond .eq 26, 3) := by decide +kernel
theorem dX2_readOrder_156 : decode cX2_readOrder 156 = .ok (.aload_n 0, 1) := by decide +kernel
theorem dX2_readOrder_157 : decode cX2_readOrder 157 = .ok (.bipush 43, 2) := by decide +kernel
theorem dX2_readOrder_159 : decode cX2_readOrder 159 = .ok (.invokevirtual 32, 3) := by decide +kernel
theorem dX2_readOrder_162 : decode cX2_readOrder 162 = .ok (.ifCond .eq 17, 3) := by decide +kernel
theorem dX2_readOrder_165 : decode cX2_readOrder 165 = .ok (.aload_n 0, 1) := by decide +kernel
theorem dX2_readOrder_166 : decode cX2_readOrder 166 = .ok (.iconst 1, 1) := by decide +kernel
theorem dX2_readOrder_167 : decode cX2_readOrder 167 = .ok (.bipush 99, 2) := by decide +kernel
theorem dX2_readOrder_169 : decode cX2_readOrder 169 = .ok (.invokevirtual 50, 3) := by decide +kernel
theorem dX2_readOrder_172 : decode cX2_readOrder 172 = .ok (.ifCond .eq 7, 3) := by decide +kernel
theorem dX2_readOrder_175 : decode cX2_readOrder 175 = .ok (.iconst 1, 1) := by decide +kernel
theorem dX2_readOrder_176 : decode cX2_readOrder 176 = .ok (.goto 4, 3) := by decide +kernel
theorem dX2_readOrder_179 : decode cX2_readOrder 179 = .ok (.iconst 0, 1) := by decide +kernel
theorem dX2_readOrder_180 : decode cX2_readOrder 180 = .ok (.ireturn, 1) := by decide +kernel
theorem dX2_readOrder_181 : decode cX2_readOrder 181 = .ok (.aload_n 0, 1) := by decide +kernel
theorem dX2_readOrder_182 : decode cX2_readOrder 182 = .ok (.bipush 99, 2) := by decide +kernel
theorem dX2_readOrder_184 : decode cX2_readOrder 184 = .ok (.invokevirtual 32, 3) := by decide +kernel
theorem dX2_readOrder_187 : decode cX2_readOrder 187 = .ok (.ifCond .eq 33, 3) := by decide +kernel
theorem dX2_readOrder_190 : decode cX2_readOrder 190 = .ok (.aload_n 0, 1) := by decide +kernel
theorem dX2_readOrder_191 : decode cX2_readOrder 191 = .ok (.iconst 0, 1) := by decide +kernel
theorem dX2_readOrder_192 : decode cX2_readOrder 192 = .ok (.bipush 99, 2) := by decide +kernel
theorem dX2_readOrder_194 : decode cX2_readOrder 194 = .ok (.invokevirtual 50, 3) := by decide +kernel
theorem dX2_readOrder_197 : decode cX2_readOrder 197 = .ok (.ifCond .eq 21, 3) := by decide +kernel
theorem dX2_readOrder_200 : decode cX2_readOrder 200 = .ok (.aload_n 0, 1) := by decide +kernel
theorem dX2_readOrder_201 : decode cX2_readOrder 201 = .ok (.invokevirtual 47, 3) := by decide +kernel
theorem dX2_readOrder_204 : decode cX2_readOrder 204 = .ok (.ifCond .eq 14, 3) := by decide +kernel
theorem dX2_readOrder_207 : decode cX2_readOrder 207 = .ok (.aload_n 0, 1) := by decide +kernel
theorem dX2_readOrder_208 : decode cX2_readOrder 208 = .ok (.invokevirtual 60, 3) := by decide +kernel
theorem dX2_readOrder_211 : decode cX2_readOrder 211 = .ok (.ifCond .eq 7, 3) := by decide +kernel
theorem dX2_readOrder_214 : decode cX2_readOrder 214 = .ok (.iconst 1, 1) := by decide +kernel
theorem dX2_readOrder_215 : decode cX2_readOrder 215 = .ok (.goto 4, 3) := by decide +kernel
theorem dX2_readOrder_218 : decode cX2_readOrder 218 = .ok (.iconst 0, 1) := by decide +kernel
theorem dX2_readOrder_219 : decode cX2_readOrder 219 = .ok (.ireturn, 1) := by decide +kernel
theorem dX2_readOrder_220 : decode cX2_readOrder 220 = .ok (.aload_n 0, 1) := by decide +kernel
theorem dX2_readOrder_221 : decode cX2_readOrder 221 = .ok (.bipush 119, 2) := by decide +kernel
theorem dX2_readOrder_223 : decode cX2_readOrder 223 = .ok (.invokevirtual 32, 3) := by decide +kernel
theorem dX2_readOrder_226 : decode cX2_readOrder 226 = .ok (.ifCond .eq 37, 3) := by decide +kernel
theorem dX2_readOrder_229 : decode cX2_readOrder 229 = .ok (.aload_n 0, 1) := by decide +kernel
theorem dX2_readOrder_230 : decode cX2_readOrder 230 = .ok (.bipush 9, 2) := by decide +kernel
theorem dX2_readOrder_232 : decode cX2_readOrder 232 = .ok (.invokevirtual 43, 3) := by decide +kernel
theorem dX2_readOrder_235 : decode cX2_readOrder 235 = .ok (.ifCond .eq 26, 3) := by decide +kernel
theorem dX2_readOrder_238 : decode cX2_readOrder 238 = .ok (.aload_n 0, 1) := by decide +kernel
theorem dX2_readOrder_239 : decode cX2_readOrder 239 = .ok (.bipush 61, 2) := by decide +kernel
theorem dX2_readOrder_241 : decode cX2_readOrder 241 = .ok (.invokevirtual 32, 3) := by decide +kernel
theorem dX2_readOrder_244 : decode cX2_readOrder 244 = .ok (.ifCond .eq 17, 3) := by decide +kernel
theorem dX2_readOrder_247 : decode cX2_readOrder 247 = .ok (.aload_n 0, 1) := by decide +kernel
theorem dX2_readOrder_248 : decode cX2_readOrder 248 = .ok (.iconst 0, 1) := by decide +kernel
theorem dX2_readOrder_249 : decode cX2_readOrder 249 = .ok (.bipush 9, 2) := by decide +kernel
theorem dX2_readOrder_251 : decode cX2_readOrder 251 = .ok (.invokevirtual 50, 3) := by decide +kernel
theorem dX2_readOrder_254 : decode cX2_readOrder 254 = .ok (.ifCond .eq 7, 3) := by decide +kernel
theorem dX2_readOrder_257 : decode cX2_readOrder 257 = .ok (.iconst 1, 1) := by decide +kernel
theorem dX2_readOrder_258 : decode cX2_readOrder 258 = .ok (.goto 4, 3) := by decide +kernel
theorem dX2_readOrder_261 : decode cX2_readOrder 261 = .ok (.iconst 0, 1) := by decide +kernel
theorem dX2_readOrder_262 : decode cX2_readOrder 262 = .ok (.ireturn, 1) := by decide +kernel
theorem dX2_readOrder_263 : decode cX2_readOrder 263 = .ok (.aload_n 0, 1) := by decide +kernel
theorem dX2_readOrder_264 : decode cX2_readOrder 264 = .ok (.bipush 112, 2) := by decide +kernel
theorem dX2_readOrder_266 : decode cX2_readOrder 266 = .ok (.invokevirtual 32, 3) := by decide +kernel
theorem dX2_readOrder_269 : decode cX2_readOrder 269 = .ok (.ifCond .eq 17, 3) := by decide +kernel
theorem dX2_readOrder_272 : decode cX2_readOrder 272 = .ok (.aload_n 0, 1) := by decide +kernel
theorem dX2_readOrder_273 : decode cX2_readOrder 273 = .ok (.iconst 1, 1) := by decide +kernel
theorem dX2_readOrder_274 : decode cX2_readOrder 274 = .ok (.bipush 40, 2) := by decide +kernel
theorem dX2_readOrder_276 : decode cX2_readOrder 276 = .ok (.invokevirtual 50, 3) := by decide +kernel
theorem dX2_readOrder_279 : decode cX2_readOrder 279 = .ok (.ifCond .eq 7, 3) := by decide +kernel
theorem dX2_readOrder_282 : decode cX2_readOrder 282 = .ok (.iconst 1, 1) := by decide +kernel
theorem dX2_readOrder_283 : decode cX2_readOrder 283 = .ok (.goto 4, 3) := by decide +kernel
theorem dX2_readOrder_286 : decode cX2_readOrder 286 = .ok (.iconst 0, 1) := by decide +kernel
theorem dX2_readOrder_287 : decode cX2_readOrder 287 = .ok (.ireturn, 1) := by decide +kernel
theorem dX2_readSign_0 : decode cX2_readSign 0 = .ok (.aload_n 0, 1) := by decide +kernel
theorem dX2_readSign_1 : decode cX2_readSign 1 = .ok (.getfield 19, 3) := by decide +kernel
theorem dX2_readSign_4 : decode cX2_readSign 4 = .ok (.aload_n 0, 1) := by decide +kernel
theorem dX2_readSign_5 : decode cX2_readSign 5 = .ok (.getfield 15, 3) := by decide +kernel
theorem dX2_readSign_8 : decode cX2_readSign 8 = .ok (.if_icmp .ge 16, 3) := by decide +kernel
theorem dX2_readSign_11 : decode cX2_readSign 11 = .ok (.aload_n 0, 1) := by decide +kernel
theorem dX2_readSign_12 : decode cX2_readSign 12 = .ok (.getfield 9, 3) := by decide +kernel
theorem dX2_readSign_15 : decode cX2_readSign 15 = .ok (.aload_n 0, 1) := by decide +kernel
theorem dX2_readSign_16 : decode cX2_readSign 16 = .ok (.getfield 19, 3) := by decide +kernel
theorem dX2_readSign_19 : decode cX2_readSign 19 = .ok (.caload, 1) := by decide +kernel
theorem dX2_readSign_20 : decode cX2_readSign 20 = .ok (.iload_n 1, 1) := by decide +kernel
theorem dX2_readSign_21 : decode cX2_readSign 21 = .ok (.if_icmp .eq 5, 3) := by decide +kernel
theorem dX2_readSign_24 : decode cX2_readSign 24 = .ok (.iconst 0, 1) := by decide +kernel
theorem dX2_readSign_25 : decode cX2_readSign 25 = .ok (.ireturn, 1) := by decide +kernel
theorem dX2_readSign_26 : decode cX2_readSign 26 = .ok (.aload_n 0, 1) := by decide +kernel
theorem dX2_readSign_27 : decode cX2_readSign 27 = .ok (.dup, 1) := by decide +kernel
theorem dX2_readSign_28 : decode cX2_readSign 28 = .ok (.getfield 19, 3) := by decide +kernel
theorem dX2_readSign_31 : decode cX2_readSign 31 = .ok (.iconst 1, 1) := by decide +kernel
theorem dX2_readSign_32 : decode cX2_readSign 32 = .ok (.iadd, 1) := by decide +kernel
theorem dX2_readSign_33 : decode cX2_readSign 33 = .ok (.putfield 19, 3) := by decide +kernel
theorem dX2_readSign_36 : decode cX2_readSign 36 = .ok (.iconst 1, 1) := by decide +kernel
theorem dX2_readSign_37 : decode cX2_readSign 37 = .ok (.ireturn, 1) := by decide +kernel
theorem dX2_readPlace_0 : decode cX2_readPlace 0 = .ok (.aload_n 0, 1) := by decide +kernel
theorem dX2_readPlace_1 : decode cX2_readPlace 1 = .ok (.aload_n 0, 1) := by decide +kernel
theorem dX2_readPlace_2 : decode cX2_readPlace 2 = .ok (.iconst 0, 1) := by decide +kernel
theorem dX2_readPlace_3 : decode cX2_readPlace 3 = .ok (.iload_n 1, 1) := by decide +kernel
theorem dX2_readPlace_4 : decode cX2_readPlace 4 = .ok (.invokevirtual 63, 3) := by decide +kernel
theorem dX2_readPlace_7 : decode cX2_readPlace 7 = .ok (.putfield 67, 3) := by decide +kernel
theorem dX2_readPlace_10 : decode cX2_readPlace 10 = .ok (.aload_n 0, 1) := by decide +kernel
theorem dX2_readPlace_11 : decode cX2_readPlace 11 = .ok (.getfield 67, 3) := by decide +kernel
theorem dX2_readPlace_14 : decode cX2_readPlace 14 = .ok (.iconst (-1), 1) := by decide +kernel
theorem dX2_readPlace_15 : decode cX2_readPlace 15 = .ok (.if_icmp .eq 7, 3) := by decide +kernel
theorem dX2_readPlace_18 : decode cX2_readPlace 18 = .ok (.iconst 1, 1) := by decide +kernel
theorem dX2_readPlace_19 : decode cX2_readPlace 19 = .ok (.goto 4, 3) := by decide +kernel
theorem dX2_readPlace_22 : decode cX2_readPlace 22 = .ok (.iconst 0, 1) := by decide +kernel
theorem dX2_readPlace_23 : decode cX2_readPlace 23 = .ok (.ireturn, 1) := by decide +kernel
theorem dX2_readLevel_0 : decode cX2_readLevel 0 = .ok (.aload_n 0, 1) := by decide +kernel
theorem dX2_readLevel_1 : decode cX2_readLevel 1 = .ok (.aload_n 0, 1) := by decide +kernel
theorem dX2_readLevel_2 : decode cX2_readLevel 2 = .ok (.iconst 0, 1) := by decide +kernel
theorem dX2_readLevel_3 : decode cX2_readLevel 3 = .ok (.iconst 3, 1) := by decide +kernel
theorem dX2_readLevel_4 : decode cX2_readLevel 4 = .ok (.invokevirtual 63, 3) := by decide +kernel
theorem dX2_readLevel_7 : decode cX2_readLevel 7 = .ok (.putfield 70, 3) := by decide +kernel
theorem dX2_readLevel_10 : decode cX2_readLevel 10 = .ok (.aload_n 0, 1) := by decide +kernel
theorem dX2_readLevel_11 : decode cX2_readLevel 11 = .ok (.getfield 70, 3) := by decide +kernel
theorem dX2_readLevel_14 : decode cX2_readLevel 14 = .ok (.iconst (-1), 1) := by decide +kernel
theorem dX2_readLevel_15 : decode cX2_readLevel 15 = .ok (.if_icmp .eq 7, 3) := by decide +kernel
theorem dX2_readLevel_18 : decode cX2_readLevel 18 = .ok (.iconst 1, 1) := by decide +kernel
theorem dX2_readLevel_19 : decode cX2_readLevel 19 = .ok (.goto 4, 3) := by decide +kernel
theorem dX2_readLevel_22 : decode cX2_readLevel 22 = .ok (.iconst 0, 1) := by decide +kernel
theorem dX2_readLevel_23 : decode cX2_readLevel 23 = .ok (.ireturn, 1) := by decide +kernel
theorem dX2_readColour_0 : decode cX2_readColour 0 = .ok (.aload_n 0, 1) := by decide +kernel
theorem dX2_readColour_1 : decode cX2_readColour 1 = .ok (.aload_n 0, 1) := by decide +kernel
theorem dX2_readColour_2 : decode cX2_readColour 2 = .ok (.iconst 0, 1) := by decide +kernel
theorem dX2_readColour_3 : decode cX2_readColour 3 = .ok (.iconst 3, 1) := by decide +kernel
theorem dX2_readColour_4 : decode cX2_readColour 4 = .ok (.invokevirtual 63, 3) := by decide +kernel
theorem dX2_readColour_7 : decode cX2_readColour 7 = .ok (.putfield 73, 3) := by decide +kernel
theorem dX2_readColour_10 : decode cX2_readColour 10 = .ok (.aload_n 0, 1) := by decide +kernel
theorem dX2_readColour_11 : decode cX2_readColour 11 = .ok (.getfield 73, 3) := by decide +kernel
theorem dX2_readColour_14 : decode cX2_readColour 14 = .ok (.iconst (-1), 1) := by decide +kernel
theorem dX2_readColour_15 : decode cX2_readColour 15 = .ok (.if_icmp .eq 7, 3) := by decide +kernel
theorem dX2_readColour_18 : decode cX2_readColour 18 = .ok (.iconst 1, 1) := by decide +kernel
theorem dX2_readColour_19 : decode cX2_readColour 19 = .ok (.goto 4, 3) := by decide +kernel
theorem dX2_readColour_22 : decode cX2_readColour 22 = .ok (.iconst 0, 1) := by decide +kernel
theorem dX2_readColour_23 : decode cX2_readColour 23 = .ok (.ireturn, 1) := by decide +kernel
theorem dX2_readCount_0 : decode cX2_readCount 0 = .ok (.aload_n 0, 1) := by decide +kernel
theorem dX2_readCount_1 : decode cX2_readCount 1 = .ok (.aload_n 0, 1) := by decide +kernel
theorem dX2_readCount_2 : decode cX2_readCount 2 = .ok (.iload_n 1, 1) := by decide +kernel
theorem dX2_readCount_3 : decode cX2_readCount 3 = .ok (.iload_n 2, 1) := by decide +kernel
theorem dX2_readCount_4 : decode cX2_readCount 4 = .ok (.invokevirtual 63, 3) := by decide +kernel
theorem dX2_readCount_7 : decode cX2_readCount 7 = .ok (.putfield 76, 3) := by decide +kernel
theorem dX2_readCount_10 : decode cX2_readCount 10 = .ok (.aload_n 0, 1) := by decide +kernel
theorem dX2_readCount_11 : decode cX2_readCount 11 = .ok (.getfield 76, 3) := by decide +kernel
theorem dX2_readCount_14 : decode cX2_readCount 14 = .ok (.iconst (-1), 1) := by decide +kernel
theorem dX2_readCount_15 : decode cX2_readCount 15 = .ok (.if_icmp .eq 7, 3) := by decide +kernel
theorem dX2_readCount_18 : decode cX2_readCount 18 = .ok (.iconst 1, 1) := by decide +kernel
theorem dX2_readCount_19 : decode cX2_readCount 19 = .ok (.goto 4, 3) := by decide +kernel
theorem dX2_readCount_22 : decode cX2_readCount 22 = .ok (.iconst 0, 1) := by decide +kernel
theorem dX2_readCount_23 : decode cX2_readCount 23 = .ok (.ireturn, 1) := by decide +kernel
theorem dX2_readRoof_0 : decode cX2_readRoof 0 = .ok (.aload_n 0, 1) := by decide +kernel
theorem dX2_readRoof_1 : decode cX2_readRoof 1 = .ok (.aload_n 0, 1) := by decide +kernel
theorem dX2_readRoof_2 : decode cX2_readRoof 2 = .ok (.bipush 94, 2) := by decide +kernel
theorem dX2_readRoof_4 : decode cX2_readRoof 4 = .ok (.invokevirtual 32, 3) := by decide +kernel
theorem dX2_readRoof_7 : decode cX2_readRoof 7 = .ok (.putfield 79, 3) := by decide +kernel
theorem dX2_readRoof_10 : decode cX2_readRoof 10 = .ok (.iconst 1, 1) := by decide +kernel
theorem dX2_readRoof_11 : decode cX2_readRoof 11 = .ok (.ireturn, 1) := by decide +kernel
theorem dX2_readKind_0 : decode cX2_readKind 0 = .ok (.aload_n 0, 1) := by decide +kernel
theorem dX2_readKind_1 : decode cX2_readKind 1 = .ok (.aload_n 0, 1) := by decide +kernel
theorem dX2_readKind_2 : decode cX2_readKind 2 = .ok (.aload_n 0, 1) := by decide +kernel
theorem dX2_readKind_3 : decode cX2_readKind 3 = .ok (.getfield 19, 3) := by decide +kernel
theorem dX2_readKind_6 : decode cX2_readKind 6 = .ok (.invokevirtual 83, 3) := by decide +kernel
theorem dX2_readKind_9 : decode cX2_readKind 9 = .ok (.putfield 87, 3) := by decide +kernel
theorem dX2_readKind_12 : decode cX2_readKind 12 = .ok (.aload_n 0, 1) := by decide +kernel
theorem dX2_readKind_13 : decode cX2_readKind 13 = .ok (.getfield 87, 3) := by decide +kernel
theorem dX2_readKind_16 : decode cX2_readKind 16 = .ok (.iconst (-1), 1) := by decide +kernel
theorem dX2_readKind_17 : decode cX2_readKind 17 = .ok (.if_icmp .ne 5, 3) := by decide +kernel
theorem dX2_readKind_20 : decode cX2_readKind 20 = .ok (.iconst 0, 1) := by decide +kernel
theorem dX2_readKind_21 : decode cX2_readKind 21 = .ok (.ireturn, 1) := by decide +kernel
theorem dX2_readKind_22 : decode cX2_readKind 22 = .ok (.aload_n 0, 1) := by decide +kernel
theorem dX2_readKind_23 : decode cX2_readKind 23 = .ok (.dup, 1) := by decide +kernel
theorem dX2_readKind_24 : decode cX2_readKind 24 = .ok (.getfield 19, 3) := by decide +kernel
theorem dX2_readKind_27 : decode cX2_readKind 27 = .ok (.iconst 1, 1) := by decide +kernel
theorem dX2_readKind_28 : decode cX2_readKind 28 = .ok (.iadd, 1) := by decide +kernel
theorem dX2_readKind_29 : decode cX2_readKind 29 = .ok (.putfield 19, 3) := by decide +kernel
theorem dX2_readKind_32 : decode cX2_readKind 32 = .ok (.iconst 1, 1) := by decide +kernel
theorem dX2_readKind_33 : decode cX2_readKind 33 = .ok (.ireturn, 1) := by decide +kernel
theorem dX2_readDigits_0 : decode cX2_readDigits 0 = .ok (.aload_n 0, 1) := by decide +kernel
theorem dX2_readDigits_1 : decode cX2_readDigits 1 = .ok (.aload_n 0, 1) := by decide +kernel
theorem dX2_readDigits_2 : decode cX2_readDigits 2 = .ok (.getfield 19, 3) := by decide +kernel
theorem dX2_readDigits_5 : decode cX2_readDigits 5 = .ok (.invokevirtual 90, 3) := by decide +kernel
theorem dX2_readDigits_8 : decode cX2_readDigits 8 = .ok (.istore_n 3, 1) := by decide +kernel
theorem dX2_readDigits_9 : decode cX2_readDigits 9 = .ok (.iload_n 3, 1) := by decide +kernel
theorem dX2_readDigits_10 : decode cX2_readDigits 10 = .ok (.iconst (-1), 1) := by decide +kernel
theorem dX2_readDigits_11 : decode cX2_readDigits 11 = .ok (.if_icmp .eq 13, 3) := by decide +kernel
theorem dX2_readDigits_14 : decode cX2_readDigits 14 = .ok (.iload_n 3, 1) := by decide +kernel
theorem dX2_readDigits_15 : decode cX2_readDigits 15 = .ok (.iload_n 1, 1) := by decide +kernel
theorem dX2_readDigits_16 : decode cX2_readDigits 16 = .ok (.if_icmp .lt 8, 3) := by decide +kernel
theorem dX2_readDigits_19 : decode cX2_readDigits 19 = .ok (.iload_n 3, 1) := by decide +kernel
theorem dX2_readDigits_20 : decode cX2_readDigits 20 = .ok (.iload_n 2, 1) := by decide +kernel
theorem dX2_readDigits_21 : decode cX2_readDigits 21 = .ok (.if_icmp .le 5, 3) := by decide +kernel
theorem dX2_readDigits_24 : decode cX2_readDigits 24 = .ok (.iconst (-1), 1) := by decide +kernel
theorem dX2_readDigits_25 : decode cX2_readDigits 25 = .ok (.ireturn, 1) := by decide +kernel
theorem dX2_readDigits_26 : decode cX2_readDigits 26 = .ok (.aload_n 0, 1) := by decide +kernel
theorem dX2_readDigits_27 : decode cX2_readDigits 27 = .ok (.dup, 1) := by decide +kernel
theorem dX2_readDigits_28 : decode cX2_readDigits 28 = .ok (.getfield 19, 3) := by decide +kernel
theorem dX2_readDigits_31 : decode cX2_readDigits 31 = .ok (.iconst 1, 1) := by decide +kernel
theorem dX2_readDigits_32 : decode cX2_readDigits 32 = .ok (.iadd, 1) := by decide +kernel
theorem dX2_readDigits_33 : decode cX2_readDigits 33 = .ok (.putfield 19, 3) := by decide +kernel
theorem dX2_readDigits_36 : decode cX2_readDigits 36 = .ok (.aload_n 0, 1) := by decide +kernel
theorem dX2_readDigits_37 : decode cX2_readDigits 37 = .ok (.aload_n 0, 1) := by decide +kernel
theorem dX2_readDigits_38 : decode cX2_readDigits 38 = .ok (.getfield 19, 3) := by decide +kernel
theorem dX2_readDigits_41 : decode cX2_readDigits 41 = .ok (.invokevirtual 90, 3) := by decide +kernel
theorem dX2_readDigits_44 : decode cX2_readDigits 44 = .ok (.istore 4, 2) := by decide +kernel
theorem dX2_readDigits_46 : decode cX2_readDigits 46 = .ok (.iload_n 3, 1) := by decide +kernel
theorem dX2_readDigits_47 : decode cX2_readDigits 47 = .ok (.ifCond .le 38, 3) := by decide +kernel
theorem dX2_readDigits_50 : decode cX2_readDigits 50 = .ok (.iload 4, 2) := by decide +kernel
theorem dX2_readDigits_52 : decode cX2_readDigits 52 = .ok (.iconst (-1), 1) := by decide +kernel
theorem dX2_readDigits_53 : decode cX2_readDigits 53 = .ok (.if_icmp .eq 32, 3) := by decide +kernel
theorem dX2_readDigits_56 : decode cX2_readDigits 56 = .ok (.iload_n 3, 1) := by decide +kernel
theorem dX2_readDigits_57 : decode cX2_readDigits 57 = .ok (.bipush 10, 2) := by decide +kernel
theorem dX2_readDigits_59 : decode cX2_readDigits 59 = .ok (.imul, 1) := by decide +kernel
theorem dX2_readDigits_60 : decode cX2_readDigits 60 = .ok (.iload 4, 2) := by decide +kernel
theorem dX2_readDigits_62 : decode cX2_readDigits 62 = .ok (.iadd, 1) := by decide +kernel
theorem dX2_readDigits_63 : decode cX2_readDigits 63 = .ok (.iload_n 2, 1) := by decide +kernel
theorem dX2_readDigits_64 : decode cX2_readDigits 64 = .ok (.if_icmp .gt 21, 3) := by decide +kernel
theorem dX2_readDigits_67 : decode cX2_readDigits 67 = .ok (.iload_n 3, 1) := by decide +kernel
theorem dX2_readDigits_68 : decode cX2_readDigits 68 = .ok (.bipush 10, 2) := by decide +kernel
theorem dX2_readDigits_70 : decode cX2_readDigits 70 = .ok (.imul, 1) := by decide +kernel
theorem dX2_readDigits_71 : decode cX2_readDigits 71 = .ok (.iload 4, 2) := by decide +kernel
theorem dX2_readDigits_73 : decode cX2_readDigits 73 = .ok (.iadd, 1) := by decide +kernel
theorem dX2_readDigits_74 : decode cX2_readDigits 74 = .ok (.istore_n 3, 1) := by decide +kernel
theorem dX2_readDigits_75 : decode cX2_readDigits 75 = .ok (.aload_n 0, 1) := by decide +kernel
theorem dX2_readDigits_76 : decode cX2_readDigits 76 = .ok (.dup, 1) := by decide +kernel
theorem dX2_readDigits_77 : decode cX2_readDigits 77 = .ok (.getfield 19, 3) := by decide +kernel
theorem dX2_readDigits_80 : decode cX2_readDigits 80 = .ok (.iconst 1, 1) := by decide +kernel
theorem dX2_readDigits_81 : decode cX2_readDigits 81 = .ok (.iadd, 1) := by decide +kernel
theorem dX2_readDigits_82 : decode cX2_readDigits 82 = .ok (.putfield 19, 3) := by decide +kernel
theorem dX2_readDigits_85 : decode cX2_readDigits 85 = .ok (.iload_n 3, 1) := by decide +kernel
theorem dX2_readDigits_86 : decode cX2_readDigits 86 = .ok (.ireturn, 1) := by decide +kernel
theorem dX2_digitAt_0 : decode cX2_digitAt 0 = .ok (.iload_n 1, 1) := by decide +kernel
theorem dX2_digitAt_1 : decode cX2_digitAt 1 = .ok (.aload_n 0, 1) := by decide +kernel
theorem dX2_digitAt_2 : decode cX2_digitAt 2 = .ok (.getfield 15, 3) := by decide +kernel
theorem dX2_digitAt_5 : decode cX2_digitAt 5 = .ok (.if_icmp .lt 5, 3) := by decide +kernel
theorem dX2_digitAt_8 : decode cX2_digitAt 8 = .ok (.iconst (-1), 1) := by decide +kernel
theorem dX2_digitAt_9 : decode cX2_digitAt 9 = .ok (.ireturn, 1) := by decide +kernel
theorem dX2_digitAt_10 : decode cX2_digitAt 10 = .ok (.aload_n 0, 1) := by decide +kernel
theorem dX2_digitAt_11 : decode cX2_digitAt 11 = .ok (.getfield 9, 3) := by decide +kernel
theorem dX2_digitAt_14 : decode cX2_digitAt 14 = .ok (.iload_n 1, 1) := by decide +kernel
theorem dX2_digitAt_15 : decode cX2_digitAt 15 = .ok (.caload, 1) := by decide +kernel
theorem dX2_digitAt_16 : decode cX2_digitAt 16 = .ok (.bipush 48, 2) := by decide +kernel
theorem dX2_digitAt_18 : decode cX2_digitAt 18 = .ok (.isub, 1) := by decide +kernel
theorem dX2_digitAt_19 : decode cX2_digitAt 19 = .ok (.istore_n 2, 1) := by decide +kernel
theorem dX2_digitAt_20 : decode cX2_digitAt 20 = .ok (.iload_n 2, 1) := by decide +kernel
theorem dX2_digitAt_21 : decode cX2_digitAt 21 = .ok (.ifCond .lt 13, 3) := by decide +kernel
theorem dX2_digitAt_24 : decode cX2_digitAt 24 = .ok (.iload_n 2, 1) := by decide +kernel
theorem dX2_digitAt_25 : decode cX2_digitAt 25 = .ok (.bipush 9, 2) := by decide +kernel
theorem dX2_digitAt_27 : decode cX2_digitAt 27 = .ok (.if_icmp .gt 7, 3) := by decide +kernel
theorem dX2_digitAt_30 : decode cX2_digitAt 30 = .ok (.iload_n 2, 1) := by decide +kernel
theorem dX2_digitAt_31 : decode cX2_digitAt 31 = .ok (.goto 4, 3) := by decide +kernel
theorem dX2_digitAt_34 : decode cX2_digitAt 34 = .ok (.iconst (-1), 1) := by decide +kernel
theorem dX2_digitAt_35 : decode cX2_digitAt 35 = .ok (.ireturn, 1) := by decide +kernel
theorem dX2_kindAt_0 : decode cX2_kindAt 0 = .ok (.iload_n 1, 1) := by decide +kernel
theorem dX2_kindAt_1 : decode cX2_kindAt 1 = .ok (.aload_n 0, 1) := by decide +kernel
theorem dX2_kindAt_2 : decode cX2_kindAt 2 = .ok (.getfield 15, 3) := by decide +kernel
theorem dX2_kindAt_5 : decode cX2_kindAt 5 = .ok (.if_icmp .lt 5, 3) := by decide +kernel
theorem dX2_kindAt_8 : decode cX2_kindAt 8 = .ok (.iconst (-1), 1) := by decide +kernel
theorem dX2_kindAt_9 : decode cX2_kindAt 9 = .ok (.ireturn, 1) := by decide +kernel
theorem dX2_kindAt_10 : decode cX2_kindAt 10 = .ok (.aload_n 0, 1) := by decide +kernel
theorem dX2_kindAt_11 : decode cX2_kindAt 11 = .ok (.getfield 9, 3) := by decide +kernel
theorem dX2_kindAt_14 : decode cX2_kindAt 14 = .ok (.iload_n 1, 1) := by decide +kernel
theorem dX2_kindAt_15 : decode cX2_kindAt 15 = .ok (.caload, 1) := by decide +kernel
theorem dX2_kindAt_16 : decode cX2_kindAt 16 = .ok (.istore_n 2, 1) := by decide +kernel
theorem dX2_kindAt_17 : decode cX2_kindAt 17 = .ok (.iload_n 2, 1) := by decide +kernel
theorem dX2_kindAt_18 : decode cX2_kindAt 18 = .ok (.bipush 104, 2) := by decide +kernel
theorem dX2_kindAt_20 : decode cX2_kindAt 20 = .ok (.if_icmp .ne 5, 3) := by decide +kernel
theorem dX2_kindAt_23 : decode cX2_kindAt 23 = .ok (.iconst 0, 1) := by decide +kernel
theorem dX2_kindAt_24 : decode cX2_kindAt 24 = .ok (.ireturn, 1) := by decide +kernel
theorem dX2_kindAt_25 : decode cX2_kindAt 25 = .ok (.iload_n 2, 1) := by decide +kernel
theorem dX2_kindAt_26 : decode cX2_kindAt 26 = .ok (.bipush 100, 2) := by decide +kernel
theorem dX2_kindAt_28 : decode cX2_kindAt 28 = .ok (.if_icmp .ne 5, 3) := by decide +kernel
theorem dX2_kindAt_31 : decode cX2_kindAt 31 = .ok (.iconst 1, 1) := by decide +kernel
theorem dX2_kindAt_32 : decode cX2_kindAt 32 = .ok (.ireturn, 1) := by decide +kernel
theorem dX2_kindAt_33 : decode cX2_kindAt 33 = .ok (.iload_n 2, 1) := by decide +kernel
theorem dX2_kindAt_34 : decode cX2_kindAt 34 = .ok (.bipush 99, 2) := by decide +kernel
theorem dX2_kindAt_36 : decode cX2_kindAt 36 = .ok (.if_icmp .ne 5, 3) := by decide +kernel
theorem dX2_kindAt_39 : decode cX2_kindAt 39 = .ok (.iconst 2, 1) := by decide +kernel
theorem dX2_kindAt_40 : decode cX2_kindAt 40 = .ok (.ireturn, 1) := by decide +kernel
theorem dX2_kindAt_41 : decode cX2_kindAt 41 = .ok (.iload_n 2, 1) := by decide +kernel
theorem dX2_kindAt_42 : decode cX2_kindAt 42 = .ok (.bipush 108, 2) := by decide +kernel
theorem dX2_kindAt_44 : decode cX2_kindAt 44 = .ok (.if_icmp .ne 5, 3) := by decide +kernel
theorem dX2_kindAt_47 : decode cX2_kindAt 47 = .ok (.iconst 3, 1) := by decide +kernel
theorem dX2_kindAt_48 : decode cX2_kindAt 48 = .ok (.ireturn, 1) := by decide +kernel
theorem dX2_kindAt_49 : decode cX2_kindAt 49 = .ok (.iload_n 2, 1) := by decide +kernel
theorem dX2_kindAt_50 : decode cX2_kindAt 50 = .ok (.bipush 116, 2) := by decide +kernel
theorem dX2_kindAt_52 : decode cX2_kindAt 52 = .ok (.if_icmp .ne 7, 3) := by decide +kernel
theorem dX2_kindAt_55 : decode cX2_kindAt 55 = .ok (.iconst 4, 1) := by decide +kernel
theorem dX2_kindAt_56 : decode cX2_kindAt 56 = .ok (.goto 4, 3) := by decide +kernel
theorem dX2_kindAt_59 : decode cX2_kindAt 59 = .ok (.iconst (-1), 1) := by decide +kernel
theorem dX2_kindAt_60 : decode cX2_kindAt 60 = .ok (.ireturn, 1) := by decide +kernel
theorem dX3_init_0 : decode cX3_init 0 = .ok (.aload_n 0, 1) := by decide +kernel
theorem dX3_init_1 : decode cX3_init 1 = .ok (.invokespecial 3, 3) := by decide +kernel
theorem dX3_init_4 : decode cX3_init 4 = .ok (.aload_n 0, 1) := by decide +kernel
theorem dX3_init_5 : decode cX3_init 5 = .ok (.bipush 16, 2) := by decide +kernel
theorem dX3_init_7 : decode cX3_init 7 = .ok (.newarray .int, 2) := by decide +kernel
theorem dX3_init_9 : decode cX3_init 9 = .ok (.putfield 9, 3) := by decide +kernel
theorem dX3_init_12 : decode cX3_init 12 = .ok (.return_, 1) := by decide +kernel
theorem dX3_setUp_0 : decode cX3_setUp 0 = .ok (.aload_n 0, 1) := by decide +kernel
theorem dX3_setUp_1 : decode cX3_setUp 1 = .ok (.iload_n 1, 1) := by decide +kernel
theorem dX3_setUp_2 : decode cX3_setUp 2 = .ok (.putfield 15, 3) := by decide +kernel
theorem dX3_setUp_5 : decode cX3_setUp 5 = .ok (.aload_n 0, 1) := by decide +kernel
theorem dX3_setUp_6 : decode cX3_setUp 6 = .ok (.iload_n 2, 1) := by decide +kernel
theorem dX3_setUp_7 : decode cX3_setUp 7 = .ok (.putfield 19, 3) := by decide +kernel
theorem dX3_setUp_10 : decode cX3_setUp 10 = .ok (.aload_n 0, 1) := by decide +kernel
theorem dX3_setUp_11 : decode cX3_setUp 11 = .ok (.iload_n 3, 1) := by decide +kernel
theorem dX3_setUp_12 : decode cX3_setUp 12 = .ok (.putfield 22, 3) := by decide +kernel
theorem dX3_setUp_15 : decode cX3_setUp 15 = .ok (.aload_n 0, 1) := by decide +kernel
theorem dX3_setUp_16 : decode cX3_setUp 16 = .ok (.iload 4, 2) := by decide +kernel
theorem dX3_setUp_18 : decode cX3_setUp 18 = .ok (.putfield 25, 3) := by decide +kernel
theorem dX3_setUp_21 : decode cX3_setUp 21 = .ok (.aload_n 0, 1) := by decide +kernel
theorem dX3_setUp_22 : decode cX3_setUp 22 = .ok (.iconst 1, 1) := by decide +kernel
theorem dX3_setUp_23 : decode cX3_setUp 23 = .ok (.putfield 29, 3) := by decide +kernel
theorem dX3_setUp_26 : decode cX3_setUp 26 = .ok (.aload_n 0, 1) := by decide +kernel
theorem dX3_setUp_27 : decode cX3_setUp 27 = .ok (.iconst 0, 1) := by decide +kernel
theorem dX3_setUp_28 : decode cX3_setUp 28 = .ok (.putfield 32, 3) := by decide +kernel
theorem dX3_setUp_31 : decode cX3_setUp 31 = .ok (.aload_n 0, 1) := by decide +kernel
theorem dX3_setUp_32 : decode cX3_setUp 32 = .ok (.iconst 0, 1) := by decide +kernel
theorem dX3_setUp_33 : decode cX3_setUp 33 = .ok (.putfield 35, 3) := by decide +kernel
theorem dX3_setUp_36 : decode cX3_setUp 36 = .ok (.aload_n 0, 1) := by decide +kernel
theorem dX3_setUp_37 : decode cX3_setUp 37 = .ok (.iload_n 2, 1) := by decide +kernel
theorem dX3_setUp_38 : decode cX3_setUp 38 = .ok (.invokestatic 38, 3) := by decide +kernel
theorem dX3_setUp_41 : decode cX3_setUp 41 = .ok (.putfield 42, 3) := by decide +kernel
theorem dX3_setUp_44 : decode cX3_setUp 44 = .ok (.aload_n 0, 1) := by decide +kernel
theorem dX3_setUp_45 : decode cX3_setUp 45 = .ok (.iload_n 2, 1) := by decide +kernel
theorem dX3_setUp_46 : decode cX3_setUp 46 = .ok (.invokestatic 45, 3) := by decide +kernel
theorem dX3_setUp_49 : decode cX3_setUp 49 = .ok (.putfield 48, 3) := by decide +kernel
theorem dX3_setUp_52 : decode cX3_setUp 52 = .ok (.iconst 0, 1) := by decide +kernel
theorem dX3_setUp_53 : decode cX3_setUp 53 = .ok (.istore 5, 2) := by decide +kernel
theorem dX3_setUp_55 : decode cX3_setUp 55 = .ok (.iload 5, 2) := by decide +kernel
theorem dX3_setUp_57 : decode cX3_setUp 57 = .ok (.bipush 16, 2) := by decide +kernel
theorem dX3_setUp_59 : decode cX3_setUp 59 = .ok (.if_icmp .ge 17, 3) := by decide +kernel
theorem dX3_setUp_62 : decode cX3_setUp 62 = .ok (.aload_n 0, 1) := by decide +kernel
theorem dX3_setUp_63 : decode cX3_setUp 63 = .ok (.getfield 9, 3) := by decide +kernel
theorem dX3_setUp_66 : decode cX3_setUp 66 = .ok (.iload 5, 2) := by decide +kernel
theorem dX3_setUp_68 : decode cX3_setUp 68 = .ok (.iconst 0, 1) := by decide +kernel
theorem dX3_setUp_69 : decode cX3_setUp 69 = .ok (.iastore, 1) := by decide +kernel
theorem dX3_setUp_70 : decode cX3_setUp 70 = .ok (.iinc 5 1, 3) := by decide +kernel
theorem dX3_setUp_73 : decode cX3_setUp 73 = .ok (.goto (-18), 3) := by decide +kernel
theorem dX3_setUp_76 : decode cX3_setUp 76 = .ok (.return_, 1) := by decide +kernel
theorem dX3_copyFrom_0 : decode cX3_copyFrom 0 = .ok (.aload_n 0, 1) := by decide +kernel
theorem dX3_copyFrom_1 : decode cX3_copyFrom 1 = .ok (.aload_n 1, 1) := by decide +kernel
theorem dX3_copyFrom_2 : decode cX3_copyFrom 2 = .ok (.getfield 15, 3) := by decide +kernel
theorem dX3_copyFrom_5 : decode cX3_copyFrom 5 = .ok (.putfield 15, 3) := by decide +kernel
theorem dX3_copyFrom_8 : decode cX3_copyFrom 8 = .ok (.aload_n 0, 1) := by decide +kernel
theorem dX3_copyFrom_9 : decode cX3_copyFrom 9 = .ok (.aload_n 1, 1) := by decide +kernel
theorem dX3_copyFrom_10 : decode cX3_copyFrom 10 = .ok (.getfield 19, 3) := by decide +kernel
theorem dX3_copyFrom_13 : decode cX3_copyFrom 13 = .ok (.putfield 19, 3) := by decide +kernel
theorem dX3_copyFrom_16 : decode cX3_copyFrom 16 = .ok (.aload_n 0, 1) := by decide +kernel
theorem dX3_copyFrom_17 : decode cX3_copyFrom 17 = .ok (.aload_n 1, 1) := by decide +kernel
theorem dX3_copyFrom_18 : decode cX3_copyFrom 18 = .ok (.getfield 22, 3) := by decide +kernel
theorem dX3_copyFrom_21 : decode cX3_copyFrom 21 = .ok (.putfield 22, 3) := by decide +kernel
theorem dX3_copyFrom_24 : decode cX3_copyFrom 24 = .ok (.aload_n 0, 1) := by decide +kernel
theorem dX3_copyFrom_25 : decode cX3_copyFrom 25 = .ok (.aload_n 1, 1) := by decide +kernel
theorem dX3_copyFrom_26 : decode cX3_copyFrom 26 = .ok (.getfield 25, 3) := by decide +kernel
theorem dX3_copyFrom_29 : decode cX3_copyFrom 29 = .ok (.putfield 25, 3) := by decide +kernel
theorem dX3_copyFrom_32 : decode cX3_copyFrom 32 = .ok (.aload_n 0, 1) := by decide +kernel
theorem dX3_copyFrom_33 : decode cX3_copyFrom 33 = .ok (.aload_n 1, 1) := by decide +kernel
theorem dX3_copyFrom_34 : decode cX3_copyFrom 34 = .ok (.getfield 29, 3) := by decide +kernel
theorem dX3_copyFrom_37 : decode cX3_copyFrom 37 = .ok (.putfield 29, 3) := by decide +kernel
theorem dX3_copyFrom_40 : decode cX3_copyFrom 40 = .ok (.aload_n 0, 1) := by decide +kernel
theorem dX3_copyFrom_41 : decode cX3_copyFrom 41 = .ok (.aload_n 1, 1) := by decide +kernel
theorem dX3_copyFrom_42 : decode cX3_copyFrom 42 = .ok (.getfield 32, 3) := by decide +kernel
theorem dX3_copyFrom_45 : decode cX3_copyFrom 45 = .ok (.putfield 32, 3) := by decide +kernel
theorem dX3_copyFrom_48 : decode cX3_copyFrom 48 = .ok (.aload_n 0, 1) := by decide +kernel
theorem dX3_copyFrom_49 : decode cX3_copyFrom 49 = .ok (.aload_n 1, 1) := by decide +kernel
theorem dX3_copyFrom_50 : decode cX3_copyFrom 50 = .ok (.getfield 35, 3) := by decide +kernel
theorem dX3_copyFrom_53 : decode cX3_copyFrom 53 = .ok (.putfield 35, 3) := by decide +kernel
theorem dX3_copyFrom_56 : decode cX3_copyFrom 56 = .ok (.aload_n 0, 1) := by decide +kernel
theorem dX3_copyFrom_57 : decode cX3_copyFrom 57 = .ok (.aload_n 1, 1) := by decide +kernel
theorem dX3_copyFrom_58 : decode cX3_copyFrom 58 = .ok (.getfield 42, 3) := by decide +kernel
theorem dX3_copyFrom_61 : decode cX3_copyFrom 61 = .ok (.putfield 42, 3) := by decide +kernel
theorem dX3_copyFrom_64 : decode cX3_copyFrom 64 = .ok (.aload_n 0, 1) := by decide +kernel
theorem dX3_copyFrom_65 : decode cX3_copyFrom 65 = .ok (.aload_n 1, 1) := by decide +kernel
theorem dX3_copyFrom_66 : decode cX3_copyFrom 66 = .ok (.getfield 48, 3) := by decide +kernel
theorem dX3_copyFrom_69 : decode cX3_copyFrom 69 = .ok (.putfield 48, 3) := by decide +kernel
theorem dX3_copyFrom_72 : decode cX3_copyFrom 72 = .ok (.aload_n 1, 1) := by decide +kernel
theorem dX3_copyFrom_73 : decode cX3_copyFrom 73 = .ok (.getfield 9, 3) := by decide +kernel
theorem dX3_copyFrom_76 : decode cX3_copyFrom 76 = .ok (.iconst 0, 1) := by decide +kernel
theorem dX3_copyFrom_77 : decode cX3_copyFrom 77 = .ok (.aload_n 0, 1) := by decide +kernel
theorem dX3_copyFrom_78 : decode cX3_copyFrom 78 = .ok (.getfield 9, 3) := by decide +kernel
theorem dX3_copyFrom_81 : decode cX3_copyFrom 81 = .ok (.iconst 0, 1) := by decide +kernel
theorem dX3_copyFrom_82 : decode cX3_copyFrom 82 = .ok (.bipush 16, 2) := by decide +kernel
theorem dX3_copyFrom_84 : decode cX3_copyFrom 84 = .ok (.invokestatic 51, 3) := by decide +kernel
theorem dX3_copyFrom_87 : decode cX3_copyFrom 87 = .ok (.return_, 1) := by decide +kernel
theorem dX3_rent_0 : decode cX3_rent 0 = .ok (.iconst 2, 1) := by decide +kernel
theorem dX3_rent_1 : decode cX3_rent 1 = .ok (.bipush 12, 2) := by decide +kernel
theorem dX3_rent_3 : decode cX3_rent 3 = .ok (.aload_n 0, 1) := by decide +kernel
theorem dX3_rent_4 : decode cX3_rent 4 = .ok (.getfield 15, 3) := by decide +kernel
theorem dX3_rent_7 : decode cX3_rent 7 = .ok (.isub, 1) := by decide +kernel
theorem dX3_rent_8 : decode cX3_rent 8 = .ok (.iconst 2, 1) := by decide +kernel
theorem dX3_rent_9 : decode cX3_rent 9 = .ok (.idiv, 1) := by decide +kernel
theorem dX3_rent_10 : decode cX3_rent 10 = .ok (.iadd, 1) := by decide +kernel
theorem dX3_rent_11 : decode cX3_rent 11 = .ok (.ireturn, 1) := by decide +kernel
theorem dX3_playsUntilWin_0 : decode cX3_playsUntilWin 0 = .ok (.aload_n 0, 1) := by decide +kernel
theorem dX3_playsUntilWin_1 : decode cX3_playsUntilWin 1 = .ok (.getfield 42, 3) := by decide +kernel
theorem dX3_playsUntilWin_4 : decode cX3_playsUntilWin 4 = .ok (.ifCond .ne 7, 3) := by decide +kernel
theorem dX3_playsUntilWin_7 : decode cX3_playsUntilWin 7 = .ok (.iconst (-1), 1) := by decide +kernel
theorem dX3_playsUntilWin_8 : decode cX3_playsUntilWin 8 = .ok (.goto 17, 3) := by decide +kernel
theorem dX3_playsUntilWin_11 : decode cX3_playsUntilWin 11 = .ok (.aload_n 0, 1) := by decide +kernel
theorem dX3_playsUntilWin_12 : decode cX3_playsUntilWin 12 = .ok (.getfield 42, 3) := by decide +kernel
theorem dX3_playsUntilWin_15 : decode cX3_playsUntilWin 15 = .ok (.aload_n 0, 1) := by decide +kernel
theorem dX3_playsUntilWin_16 : decode cX3_playsUntilWin 16 = .ok (.getfield 35, 3) := by decide +kernel
theorem dX3_playsUntilWin_19 : decode cX3_playsUntilWin 19 = .ok (.aload_n 0, 1) := by decide +kernel
theorem dX3_playsUntilWin_20 : decode cX3_playsUntilWin 20 = .ok (.getfield 42, 3) := by decide +kernel
theorem dX3_playsUntilWin_23 : decode cX3_playsUntilWin 23 = .ok (.irem, 1) := by decide +kernel
theorem dX3_playsUntilWin_24 : decode cX3_playsUntilWin 24 = .ok (.isub, 1) := by decide +kernel
theorem dX3_playsUntilWin_25 : decode cX3_playsUntilWin 25 = .ok (.ireturn, 1) := by decide +kernel
theorem dX3_prizesOnShelf_0 : decode cX3_prizesOnShelf 0 = .ok (.iconst 0, 1) := by decide +kernel
theorem dX3_prizesOnShelf_1 : decode cX3_prizesOnShelf 1 = .ok (.istore_n 1, 1) := by decide +kernel
theorem dX3_prizesOnShelf_2 : decode cX3_prizesOnShelf 2 = .ok (.iconst 0, 1) := by decide +kernel
theorem dX3_prizesOnShelf_3 : decode cX3_prizesOnShelf 3 = .ok (.istore_n 2, 1) := by decide +kernel
theorem dX3_prizesOnShelf_4 : decode cX3_prizesOnShelf 4 = .ok (.iload_n 2, 1) := by decide +kernel
theorem dX3_prizesOnShelf_5 : decode cX3_prizesOnShelf 5 = .ok (.bipush 16, 2) := by decide +kernel
theorem dX3_prizesOnShelf_7 : decode cX3_prizesOnShelf 7 = .ok (.if_icmp .ge 18, 3) := by decide +kernel
theorem dX3_prizesOnShelf_10 : decode cX3_prizesOnShelf 10 = .ok (.iload_n 1, 1) := by decide +kernel
theorem dX3_prizesOnShelf_11 : decode cX3_prizesOnShelf 11 = .ok (.aload_n 0, 1) := by decide +kernel
theorem dX3_prizesOnShelf_12 : decode cX3_prizesOnShelf 12 = .ok (.getfield 9, 3) := by decide +kernel
theorem dX3_prizesOnShelf_15 : decode cX3_prizesOnShelf 15 = .ok (.iload_n 2, 1) := by decide +kernel
theorem dX3_prizesOnShelf_16 : decode cX3_prizesOnShelf 16 = .ok (.iaload, 1) := by decide +kernel
theorem dX3_prizesOnShelf_17 : decode cX3_prizesOnShelf 17 = .ok (.iadd, 1) := by decide +kernel
theorem dX3_prizesOnShelf_18 : decode cX3_prizesOnShelf 18 = .ok (.istore_n 1, 1) := by decide +kernel
theorem dX3_prizesOnShelf_19 : decode cX3_prizesOnShelf 19 = .ok (.iinc 2 1, 3) := by decide +kernel
theorem dX3_prizesOnShelf_22 : decode cX3_prizesOnShelf 22 = .ok (.goto (-18), 3) := by decide +kernel
theorem dX3_prizesOnShelf_25 : decode cX3_prizesOnShelf 25 = .ok (.iload_n 1, 1) := by decide +kernel
theorem dX3_prizesOnShelf_26 : decode cX3_prizesOnShelf 26 = .ok (.ireturn, 1) := by decide +kernel
theorem dX3_levelOnOffer_0 : decode cX3_levelOnOffer 0 = .ok (.bipush 15, 2) := by decide +kernel
theorem dX3_levelOnOffer_2 : decode cX3_levelOnOffer 2 = .ok (.istore_n 1, 1) := by decide +kernel
theorem dX3_levelOnOffer_3 : decode cX3_levelOnOffer 3 = .ok (.iload_n 1, 1) := by decide +kernel
theorem dX3_levelOnOffer_4 : decode cX3_levelOnOffer 4 = .ok (.ifCond .lt 32, 3) := by decide +kernel
theorem dX3_levelOnOffer_7 : decode cX3_levelOnOffer 7 = .ok (.aload_n 0, 1) := by decide +kernel
theorem dX3_levelOnOffer_8 : decode cX3_levelOnOffer 8 = .ok (.getfield 9, 3) := by decide +kernel
theorem dX3_levelOnOffer_11 : decode cX3_levelOnOffer 11 = .ok (.iload_n 1, 1) := by decide +kernel
theorem dX3_levelOnOffer_12 : decode cX3_levelOnOffer 12 = .ok (.iaload, 1) := by decide +kernel
theorem dX3_levelOnOffer_13 : decode cX3_levelOnOffer 13 = .ok (.ifCond .le 17, 3) := by decide +kernel
theorem dX3_levelOnOffer_16 : decode cX3_levelOnOffer 16 = .ok (.iload_n 1, 1) := by decide +kernel
theorem dX3_levelOnOffer_17 : decode cX3_levelOnOffer 17 = .ok (.iconst 4, 1) := by decide +kernel
theorem dX3_levelOnOffer_18 : decode cX3_levelOnOffer 18 = .ok (.idiv, 1) := by decide +kernel
theorem dX3_levelOnOffer_19 : decode cX3_levelOnOffer 19 = .ok (.aload_n 0, 1) := by decide +kernel
theorem dX3_levelOnOffer_20 : decode cX3_levelOnOffer 20 = .ok (.getfield 48, 3) := by decide +kernel
theorem dX3_levelOnOffer_23 : decode cX3_levelOnOffer 23 = .ok (.if_icmp .gt 7, 3) := by decide +kernel
theorem dX3_levelOnOffer_26 : decode cX3_levelOnOffer 26 = .ok (.iload_n 1, 1) := by decide +kernel
theorem dX3_levelOnOffer_27 : decode cX3_levelOnOffer 27 = .ok (.iconst 4, 1) := by decide +kernel
theorem dX3_levelOnOffer_28 : decode cX3_levelOnOffer 28 = .ok (.idiv, 1) := by decide +kernel
theorem dX3_levelOnOffer_29 : decode cX3_levelOnOffer 29 = .ok (.ireturn, 1) := by decide +kernel
theorem dX3_levelOnOffer_30 : decode cX3_levelOnOffer 30 = .ok (.iinc 1 (-1), 3) := by decide +kernel
theorem dX3_levelOnOffer_33 : decode cX3_levelOnOffer 33 = .ok (.goto (-30), 3) := by decide +kernel
theorem dX3_levelOnOffer_36 : decode cX3_levelOnOffer 36 = .ok (.iconst (-1), 1) := by decide +kernel
theorem dX3_levelOnOffer_37 : decode cX3_levelOnOffer 37 = .ok (.ireturn, 1) := by decide +kernel
theorem dX3_colourOnOffer_0 : decode cX3_colourOnOffer 0 = .ok (.aload_n 0, 1) := by decide +kernel
theorem dX3_colourOnOffer_1 : decode cX3_colourOnOffer 1 = .ok (.getfield 9, 3) := by decide +kernel
theorem dX3_colourOnOffer_4 : decode cX3_colourOnOffer 4 = .ok (.iload_n 1, 1) := by decide +kernel
theorem dX3_colourOnOffer_5 : decode cX3_colourOnOffer 5 = .ok (.iconst 4, 1) := by decide +kernel
theorem dX3_colourOnOffer_6 : decode cX3_colourOnOffer 6 = .ok (.imul, 1) := by decide +kernel
theorem dX3_colourOnOffer_7 : decode cX3_colourOnOffer 7 = .ok (.iload_n 2, 1) := by decide +kernel
theorem dX3_colourOnOffer_8 : decode cX3_colourOnOffer 8 = .ok (.iadd, 1) := by decide +kernel
theorem dX3_colourOnOffer_9 : decode cX3_colourOnOffer 9 = .ok (.iaload, 1) := by decide +kernel
theorem dX3_colourOnOffer_10 : decode cX3_colourOnOffer 10 = .ok (.ifCond .le 5, 3) := by decide +kernel
theorem dX3_colourOnOffer_13 : decode cX3_colourOnOffer 13 = .ok (.iload_n 2, 1) := by decide +kernel
theorem dX3_colourOnOffer_14 : decode cX3_colourOnOffer 14 = .ok (.ireturn, 1) := by decide +kernel
theorem dX3_colourOnOffer_15 : decode cX3_colourOnOffer 15 = .ok (.iconst 0, 1) := by decide +kernel
theorem dX3_colourOnOffer_16 : decode cX3_colourOnOffer 16 = .ok (.istore_n 3, 1) := by decide +kernel
theorem dX3_colourOnOffer_17 : decode cX3_colourOnOffer 17 = .ok (.iload_n 3, 1) := by decide +kernel
theorem dX3_colourOnOffer_18 : decode cX3_colourOnOffer 18 = .ok (.iconst 4, 1) := by decide +kernel
theorem dX3_colourOnOffer_19 : decode cX3_colourOnOffer 19 = .ok (.if_icmp .ge 24, 3) := by decide +kernel
theorem dX3_colourOnOffer_22 : decode cX3_colourOnOffer 22 = .ok (.aload_n 0, 1) := by decide +kernel
theorem dX3_colourOnOffer_23 : decode cX3_colourOnOffer 23 = .ok (.getfield 9, 3) := by decide +kernel
theorem dX3_colourOnOffer_26 : decode cX3_colourOnOffer 26 = .ok (.iload_n 1, 1) := by decide +kernel
theorem dX3_colourOnOffer_27 : decode cX3_colourOnOffer 27 = .ok (.iconst 4, 1) := by decide +kernel
theorem dX3_colourOnOffer_28 : decode cX3_colourOnOffer 28 = .ok (.imul, 1) := by decide +kernel
theorem dX3_colourOnOffer_29 : decode cX3_colourOnOffer 29 = .ok (.iload_n 3, 1) := by decide +kernel
theorem dX3_colourOnOffer_30 : decode cX3_colourOnOffer 30 = .ok (.iadd, 1) := by decide +kernel
theorem dX3_colourOnOffer_31 : decode cX3_colourOnOffer 31 = .ok (.iaload, 1) := by decide +kernel
theorem dX3_colourOnOffer_32 : decode cX3_colourOnOffer 32 = .ok (.ifCond .le 5, 3) := by decide +kernel
theorem dX3_colourOnOffer_35 : decode cX3_colourOnOffer 35 = .ok (.iload_n 3, 1) := by decide +kernel
theorem dX3_colourOnOffer_36 : decode cX3_colourOnOffer 36 = .ok (.ireturn, 1) := by decide +kernel
theorem dX3_colourOnOffer_37 : decode cX3_colourOnOffer 37 = .ok (.iinc 3 1, 3) := by decide +kernel
theorem dX3_colourOnOffer_40 : decode cX3_colourOnOffer 40 = .ok (.goto (-23), 3) := by decide +kernel
theorem dX3_colourOnOffer_43 : decode cX3_colourOnOffer 43 = .ok (.iconst (-1), 1) := by decide +kernel
theorem dX3_colourOnOffer_44 : decode cX3_colourOnOffer 44 = .ok (.ireturn, 1) := by decide +kernel
theorem dX4_init_0 : decode cX4_init 0 = .ok (.aload_n 0, 1) := by decide +kernel
theorem dX4_init_1 : decode cX4_init 1 = .ok (.invokespecial 1, 3) := by decide +kernel
theorem dX4_init_4 : decode cX4_init 4 = .ok (.aload_n 0, 1) := by decide +kernel
theorem dX4_init_5 : decode cX4_init 5 = .ok (.new 7, 3) := by decide +kernel
theorem dX4_init_8 : decode cX4_init 8 = .ok (.dup, 1) := by decide +kernel
theorem dX4_init_9 : decode cX4_init 9 = .ok (.invokespecial 9, 3) := by decide +kernel
theorem dX4_init_12 : decode cX4_init 12 = .ok (.putfield 10, 3) := by decide +kernel
theorem dX4_init_15 : decode cX4_init 15 = .ok (.aload_n 0, 1) := by decide +kernel
theorem dX4_init_16 : decode cX4_init 16 = .ok (.new 7, 3) := by decide +kernel
theorem dX4_init_19 : decode cX4_init 19 = .ok (.dup, 1) := by decide +kernel
theorem dX4_init_20 : decode cX4_init 20 = .ok (.invokespecial 9, 3) := by decide +kernel
theorem dX4_init_23 : decode cX4_init 23 = .ok (.putfield 16, 3) := by decide +kernel
theorem dX4_init_26 : decode cX4_init 26 = .ok (.aload_n 0, 1) := by decide +kernel
theorem dX4_init_27 : decode cX4_init 27 = .ok (.new 7, 3) := by decide +kernel
theorem dX4_init_30 : decode cX4_init 30 = .ok (.dup, 1) := by decide +kernel
theorem dX4_init_31 : decode cX4_init 31 = .ok (.invokespecial 9, 3) := by decide +kernel
theorem dX4_init_34 : decode cX4_init 34 = .ok (.putfield 19, 3) := by decide +kernel
theorem dX4_init_37 : decode cX4_init 37 = .ok (.aload_n 0, 1) := by decide +kernel
theorem dX4_init_38 : decode cX4_init 38 = .ok (.iconst 0, 1) := by decide +kernel
theorem dX4_init_39 : decode cX4_init 39 = .ok (.putfield 22, 3) := by decide +kernel
theorem dX4_init_42 : decode cX4_init 42 = .ok (.aload_n 0, 1) := by decide +kernel
theorem dX4_init_43 : decode cX4_init 43 = .ok (.iconst 4, 1) := by decide +kernel
theorem dX4_init_44 : decode cX4_init 44 = .ok (.anewarray 7, 3) := by decide +kernel
theorem dX4_init_47 : decode cX4_init 47 = .ok (.putfield 26, 3) := by decide +kernel
theorem dX4_init_50 : decode cX4_init 50 = .ok (.iconst 0, 1) := by decide +kernel
theorem dX4_init_51 : decode cX4_init 51 = .ok (.istore_n 1, 1) := by decide +kernel
theorem dX4_init_52 : decode cX4_init 52 = .ok (.iload_n 1, 1) := by decide +kernel
theorem dX4_init_53 : decode cX4_init 53 = .ok (.iconst 4, 1) := by decide +kernel
theorem dX4_init_54 : decode cX4_init 54 = .ok (.if_icmp .ge 22, 3) := by decide +kernel
theorem dX4_init_57 : decode cX4_init 57 = .ok (.aload_n 0, 1) := by decide +kernel
theorem dX4_init_58 : decode cX4_init 58 = .ok (.getfield 26, 3) := by decide +kernel
theorem dX4_init_61 : decode cX4_init 61 = .ok (.iload_n 1, 1) := by decide +kernel
theorem dX4_init_62 : decode cX4_init 62 = .ok (.new 7, 3) := by decide +kernel
theorem dX4_init_65 : decode cX4_init 65 = .ok (.dup, 1) := by decide +kernel
theorem dX4_init_66 : decode cX4_init 66 = .ok (.invokespecial 9, 3) := by decide +kernel
theorem dX4_init_69 : decode cX4_init 69 = .ok (.aastore, 1) := by decide +kernel
theorem dX4_init_70 : decode cX4_init 70 = .ok (.iinc 1 1, 3) := by decide +kernel
theorem dX4_init_73 : decode cX4_init 73 = .ok (.goto (-21), 3) := by decide +kernel
theorem dX4_init_76 : decode cX4_init 76 = .ok (.aload_n 0, 1) := by decide +kernel
theorem dX4_init_77 : decode cX4_init 77 = .ok (.iconst 0, 1) := by decide +kernel
theorem dX4_init_78 : decode cX4_init 78 = .ok (.putfield 30, 3) := by decide +kernel
theorem dX4_init_81 : decode cX4_init 81 = .ok (.aload_n 0, 1) := by decide +kernel
theorem dX4_init_82 : decode cX4_init 82 = .ok (.iconst 0, 1) := by decide +kernel
theorem dX4_init_83 : decode cX4_init 83 = .ok (.putfield 34, 3) := by decide +kernel
theorem dX4_init_86 : decode cX4_init 86 = .ok (.aload_n 0, 1) := by decide +kernel
theorem dX4_init_87 : decode cX4_init 87 = .ok (.new 37, 3) := by decide +kernel
theorem dX4_init_90 : decode cX4_init 90 = .ok (.dup, 1) := by decide +kernel
theorem dX4_init_91 : decode cX4_init 91 = .ok (.invokespecial 39, 3) := by decide +kernel
theorem dX4_init_94 : decode cX4_init 94 = .ok (.putfield 40, 3) := by decide +kernel
theorem dX4_init_97 : decode cX4_init 97 = .ok (.return_, 1) := by decide +kernel
theorem dX4_build_0 : decode cX4_build 0 = .ok (.aload_n 0, 1) := by decide +kernel
theorem dX4_build_1 : decode cX4_build 1 = .ok (.iload_n 1, 1) := by decide +kernel
theorem dX4_build_2 : decode cX4_build 2 = .ok (.invokevirtual 44, 3) := by decide +kernel
theorem dX4_build_5 : decode cX4_build 5 = .ok (.aload_n 0, 1) := by decide +kernel
theorem dX4_build_6 : decode cX4_build 6 = .ok (.iload_n 2, 1) := by decide +kernel
theorem dX4_build_7 : decode cX4_build 7 = .ok (.invokevirtual 48, 3) := by decide +kernel
theorem dX4_build_10 : decode cX4_build 10 = .ok (.aload_n 0, 1) := by decide +kernel
theorem dX4_build_11 : decode cX4_build 11 = .ok (.iload_n 3, 1) := by decide +kernel
theorem dX4_build_12 : decode cX4_build 12 = .ok (.invokevirtual 51, 3) := by decide +kernel
theorem dX4_build_15 : decode cX4_build 15 = .ok (.aload_n 0, 1) := by decide +kernel
theorem dX4_build_16 : decode cX4_build 16 = .ok (.getfield 10, 3) := by decide +kernel
theorem dX4_build_19 : decode cX4_build 19 = .ok (.iload_n 1, 1) := by decide +kernel
theorem dX4_build_20 : decode cX4_build 20 = .ok (.iload 4, 2) := by decide +kernel
theorem dX4_build_22 : decode cX4_build 22 = .ok (.invokevirtual 54, 3) := by decide +kernel
theorem dX4_build_25 : decode cX4_build 25 = .ok (.ifCond .ne 13, 3) := by decide +kernel
theorem dX4_build_28 : decode cX4_build 28 = .ok (.new 58, 3) := by decide +kernel
theorem dX4_build_31 : decode cX4_build 31 = .ok (.dup, 1) := by decide +kernel
theorem dX4_build_32 : decode cX4_build 32 = .ok (.ldc 60, 2) := by decide +kernel
theorem dX4_build_34 : decode cX4_build 34 = .ok (.invokespecial 62, 3) := by decide +kernel
theorem dX4_build_37 : decode cX4_build 37 = .ok (.athrow, 1) := by decide +kernel
theorem dX4_build_38 : decode cX4_build 38 = .ok (.aload_n 0, 1) := by decide +kernel
theorem dX4_build_39 : decode cX4_build 39 = .ok (.invokevirtual 65, 3) := by decide +kernel
theorem dX4_build_42 : decode cX4_build 42 = .ok (.aload_n 0, 1) := by decide +kernel
theorem dX4_build_43 : decode cX4_build 43 = .ok (.getfield 10, 3) := by decide +kernel
theorem dX4_build_46 : decode cX4_build 46 = .ok (.iload_n 1, 1) := by decide +kernel
theorem dX4_build_47 : decode cX4_build 47 = .ok (.iload_n 2, 1) := by decide +kernel
theorem dX4_build_48 : decode cX4_build 48 = .ok (.iload_n 3, 1) := by decide +kernel
theorem dX4_build_49 : decode cX4_build 49 = .ok (.iload 4, 2) := by decide +kernel
theorem dX4_build_51 : decode cX4_build 51 = .ok (.invokevirtual 68, 3) := by decide +kernel
theorem dX4_build_54 : decode cX4_build 54 = .ok (.ireturn, 1) := by decide +kernel
theorem dX4_pullDown_0 : decode cX4_pullDown 0 = .ok (.aload_n 0, 1) := by decide +kernel
theorem dX4_pullDown_1 : decode cX4_pullDown 1 = .ok (.iload_n 1, 1) := by decide +kernel
theorem dX4_pullDown_2 : decode cX4_pullDown 2 = .ok (.invokevirtual 72, 3) := by decide +kernel
theorem dX4_pullDown_5 : decode cX4_pullDown 5 = .ok (.aload_n 0, 1) := by decide +kernel
theorem dX4_pullDown_6 : decode cX4_pullDown 6 = .ok (.invokevirtual 65, 3) := by decide +kernel
theorem dX4_pullDown_9 : decode cX4_pullDown 9 = .ok (.aload_n 0, 1) := by decide +kernel
theorem dX4_pullDown_10 : decode cX4_pullDown 10 = .ok (.getfield 10, 3) := by decide +kernel
theorem dX4_pullDown_13 : decode cX4_pullDown 13 = .ok (.iload_n 1, 1) := by decide +kernel
theorem dX4_pullDown_14 : decode cX4_pullDown 14 = .ok (.invokevirtual 75, 3) := by decide +kernel
theorem dX4_pullDown_17 : decode cX4_pullDown 17 = .ok (.istore_n 2, 1) := by decide +kernel
theorem dX4_pullDown_18 : decode cX4_pullDown 18 = .ok (.aload_n 0, 1) := by decide +kernel
theorem dX4_pullDown_19 : decode cX4_pullDown 19 = .ok (.getfield 10, 3) := by decide +kernel
theorem dX4_pullDown_22 : decode cX4_pullDown 22 = .ok (.iload_n 1, 1) := by decide +kernel
theorem dX4_pullDown_23 : decode cX4_pullDown 23 = .ok (.invokevirtual 79, 3) := by decide +kernel
theorem dX4_pullDown_26 : decode cX4_pullDown 26 = .ok (.iload_n 2, 1) := by decide +kernel
theorem dX4_pullDown_27 : decode cX4_pullDown 27 = .ok (.ireturn, 1) := by decide +kernel
theorem dX4_setPrice_0 : decode cX4_setPrice 0 = .ok (.aload_n 0, 1) := by decide +kernel
theorem dX4_setPrice_1 : decode cX4_setPrice 1 = .ok (.iload_n 1, 1) := by decide +kernel
theorem dX4_setPrice_2 : decode cX4_setPrice 2 = .ok (.invokevirtual 82, 3) := by decide +kernel
theorem dX4_setPrice_5 : decode cX4_setPrice 5 = .ok (.astore_n 3, 1) := by decide +kernel
theorem dX4_setPrice_6 : decode cX4_setPrice 6 = .ok (.aload_n 0, 1) := by decide +kernel
theorem dX4_setPrice_7 : decode cX4_setPrice 7 = .ok (.iload_n 2, 1) := by decide +kernel
theorem dX4_setPrice_8 : decode cX4_setPrice 8 = .ok (.invokevirtual 51, 3) := by decide +kernel
theorem dX4_setPrice_11 : decode cX4_setPrice 11 = .ok (.aload_n 0, 1) := by decide +kernel
theorem dX4_setPrice_12 : decode cX4_setPrice 12 = .ok (.invokevirtual 65, 3) := by decide +kernel
theorem dX4_setPrice_15 : decode cX4_setPrice 15 = .ok (.aload_n 3, 1) := by decide +kernel
theorem dX4_setPrice_16 : decode cX4_setPrice 16 = .ok (.getfield 86, 3) := by decide +kernel
theorem dX4_setPrice_19 : decode cX4_setPrice 19 = .ok (.istore 4, 2) := by decide +kernel
theorem dX4_setPrice_21 : decode cX4_setPrice 21 = .ok (.aload_n 3, 1) := by decide +kernel
theorem dX4_setPrice_22 : decode cX4_setPrice 22 = .ok (.iload_n 2, 1) := by decide +kernel
theorem dX4_setPrice_23 : decode cX4_setPrice 23 = .ok (.putfield 86, 3) := by decide +kernel
theorem dX4_setPrice_26 : decode cX4_setPrice 26 = .ok (.iload 4, 2) := by decide +kernel
theorem dX4_setPrice_28 : decode cX4_setPrice 28 = .ok (.ireturn, 1) := by decide +kernel
theorem dX4_turnStall_0 : decode cX4_turnStall 0 = .ok (.aload_n 0, 1) := by decide +kernel
theorem dX4_turnStall_1 : decode cX4_turnStall 1 = .ok (.iload_n 1, 1) := by decide +kernel
theorem dX4_turnStall_2 : decode cX4_turnStall 2 = .ok (.invokevirtual 82, 3) := by decide +kernel
theorem dX4_turnStall_5 : decode cX4_turnStall 5 = .ok (.astore_n 2, 1) := by decide +kernel
theorem dX4_turnStall_6 : decode cX4_turnStall 6 = .ok (.aload_n 0, 1) := by decide +kernel
theorem dX4_turnStall_7 : decode cX4_turnStall 7 = .ok (.invokevirtual 65, 3) := by decide +kernel
theorem dX4_turnStall_10 : decode cX4_turnStall 10 = .ok (.aload_n 2, 1) := by decide +kernel
theorem dX4_turnStall_11 : decode cX4_turnStall 11 = .ok (.aload_n 2, 1) := by decide +kernel
theorem dX4_turnStall_12 : decode cX4_turnStall 12 = .ok (.getfield 91, 3) := by decide +kernel
theorem dX4_turnStall_15 : decode cX4_turnStall 15 = .ok (.ifCond .ne 7, 3) := by decide +kernel
theorem dX4_turnStall_18 : decode cX4_turnStall 18 = .ok (.iconst 1, 1) := by decide +kernel
theorem dX4_turnStall_19 : decode cX4_turnStall 19 = .ok (.goto 4, 3) := by decide +kernel
theorem dX4_turnStall_22 : decode cX4_turnStall 22 = .ok (.iconst 0, 1) := by decide +kernel
theorem dX4_turnStall_23 : decode cX4_turnStall 23 = .ok (.putfield 91, 3) := by decide +kernel
theorem dX4_turnStall_26 : decode cX4_turnStall 26 = .ok (.aload_n 2, 1) := by decide +kernel
theorem dX4_turnStall_27 : decode cX4_turnStall 27 = .ok (.getfield 91, 3) := by decide +kernel
theorem dX4_turnStall_30 : decode cX4_turnStall 30 = .ok (.ireturn, 1) := by decide +kernel
theorem dX4_restock_0 : decode cX4_restock 0 = .ok (.aload_n 0, 1) := by decide +kernel
theorem dX4_restock_1 : decode cX4_restock 1 = .ok (.iload_n 1, 1) := by decide +kernel
theorem dX4_restock_2 : decode cX4_restock 2 = .ok (.invokevirtual 82, 3) := by decide +kernel
theorem dX4_restock_5 : decode cX4_restock 5 = .ok (.astore 5, 2) := by decide +kernel
theorem dX4_restock_7 : decode cX4_restock 7 = .ok (.aload_n 0, 1) := by decide +kernel
theorem dX4_restock_8 : decode cX4_restock 8 = .ok (.iload_n 2, 1) := by decide +kernel
theorem dX4_restock_9 : decode cX4_restock 9 = .ok (.invokevirtual 94, 3) := by decide +kernel
theorem dX4_restock_12 : decode cX4_restock 12 = .ok (.aload_n 0, 1) := by decide +kernel
theorem dX4_restock_13 : decode cX4_restock 13 = .ok (.iload_n 3, 1) := by decide +kernel
theorem dX4_restock_14 : decode cX4_restock 14 = .ok (.invokevirtual 97, 3) := by decide +kernel
theorem dX4_restock_17 : decode cX4_restock 17 = .ok (.iload 4, 2) := by decide +kernel
theorem dX4_restock_19 : decode cX4_restock 19 = .ok (.iconst 1, 1) := by decide +kernel
theorem dX4_restock_20 : decode cX4_restock 20 = .ok (.if_icmp .lt 10, 3) := by decide +kernel
theorem dX4_restock_23 : decode cX4_restock 23 = .ok (.iload 4, 2) := by decide +kernel
theorem dX4_restock_25 : decode cX4_restock 25 = .ok (.bipush 40, 2) := by decide +kernel
theorem dX4_restock_27 : decode cX4_restock 27 = .ok (.if_icmp .le 13, 3) := by decide +kernel
theorem dX4_restock_30 : decode cX4_restock 30 = .ok (.new 100, 3) := by decide +kernel
theorem dX4_restock_33 : decode cX4_restock 33 = .ok (.dup, 1) := by decide +kernel
theorem dX4_restock_34 : decode cX4_restock 34 = .ok (.ldc 102, 2) := by decide +kernel
theorem dX4_restock_36 : decode cX4_restock 36 = .ok (.invokespecial 104, 3) := by decide +kernel
theorem dX4_restock_39 : decode cX4_restock 39 = .ok (.athrow, 1) := by decide +kernel
theorem dX4_restock_40 : decode cX4_restock 40 = .ok (.aload_n 0, 1) := by decide +kernel
theorem dX4_restock_41 : decode cX4_restock 41 = .ok (.getfield 10, 3) := by decide +kernel
theorem dX4_restock_44 : decode cX4_restock 44 = .ok (.iload_n 1, 1) := by decide +kernel
theorem dX4_restock_45 : decode cX4_restock 45 = .ok (.iload_n 2, 1) := by decide +kernel
theorem dX4_restock_46 : decode cX4_restock 46 = .ok (.iload 4, 2) := by decide +kernel
theorem dX4_restock_48 : decode cX4_restock 48 = .ok (.invokevirtual 105, 3) := by decide +kernel
theorem dX4_restock_51 : decode cX4_restock 51 = .ok (.ifCond .ne 13, 3) := by decide +kernel
theorem dX4_restock_54 : decode cX4_restock 54 = .ok (.new 58, 3) := by decide +kernel
theorem dX4_restock_57 : decode cX4_restock 57 = .ok (.dup, 1) := by decide +kernel
theorem dX4_restock_58 : decode cX4_restock 58 = .ok (.ldc 109, 2) := by decide +kernel
theorem dX4_restock_60 : decode cX4_restock 60 = .ok (.invokespecial 62, 3) := by decide +kernel
theorem dX4_restock_63 : decode cX4_restock 63 = .ok (.athrow, 1) := by decide +kernel
theorem dX4_restock_64 : decode cX4_restock 64 = .ok (.aload_n 0, 1) := by decide +kernel
theorem dX4_restock_65 : decode cX4_restock 65 = .ok (.invokevirtual 65, 3) := by decide +kernel
theorem dX4_restock_68 : decode cX4_restock 68 = .ok (.aload_n 0, 1) := by decide +kernel
theorem dX4_restock_69 : decode cX4_restock 69 = .ok (.getfield 10, 3) := by decide +kernel
theorem dX4_restock_72 : decode cX4_restock 72 = .ok (.iload_n 1, 1) := by decide +kernel
