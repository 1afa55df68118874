theorem dX5_passesRound_31 : decode cX5_passesRound 31 = .ok (.bipush 7, 2) := by decide +kernel
theorem dX5_passesRound_33 : decode cX5_passesRound 33 = .ok (.iload_n 2, 1) := by decide +kernel
theorem dX5_passesRound_34 : decode cX5_passesRound 34 = .ok (.imul, 1) := by decide +kernel
theorem dX5_passesRound_35 : decode cX5_passesRound 35 = .ok (.bipush 25, 2) := by decide +kernel
theorem dX5_passesRound_37 : decode cX5_passesRound 37 = .ok (.irem, 1) := by decide +kernel
theorem dX5_passesRound_38 : decode cX5_passesRound 38 = .ok (.iadd, 1) := by decide +kernel
theorem dX5_passesRound_39 : decode cX5_passesRound 39 = .ok (.iload_n 2, 1) := by decide +kernel
theorem dX5_passesRound_40 : decode cX5_passesRound 40 = .ok (.iconst 5, 1) := by decide +kernel
theorem dX5_passesRound_41 : decode cX5_passesRound 41 = .ok (.irem, 1) := by decide +kernel
theorem dX5_passesRound_42 : decode cX5_passesRound 42 = .ok (.iload_n 2, 1) := by decide +kernel
theorem dX5_passesRound_43 : decode cX5_passesRound 43 = .ok (.iconst 4, 1) := by decide +kernel
theorem dX5_passesRound_44 : decode cX5_passesRound 44 = .ok (.irem, 1) := by decide +kernel
theorem dX5_passesRound_45 : decode cX5_passesRound 45 = .ok (.invokevirtual 159, 3) := by decide +kernel
theorem dX5_passesRound_48 : decode cX5_passesRound 48 = .ok (.pop, 1) := by decide +kernel
theorem dX5_passesRound_49 : decode cX5_passesRound 49 = .ok (.iconst 0, 1) := by decide +kernel
theorem dX5_passesRound_50 : decode cX5_passesRound 50 = .ok (.istore_n 2, 1) := by decide +kernel
theorem dX5_passesRound_51 : decode cX5_passesRound 51 = .ok (.iload_n 2, 1) := by decide +kernel
theorem dX5_passesRound_52 : decode cX5_passesRound 52 = .ok (.bipush 7, 2) := by decide +kernel
theorem dX5_passesRound_54 : decode cX5_passesRound 54 = .ok (.if_icmp .ge 16, 3) := by decide +kernel
theorem dX5_passesRound_57 : decode cX5_passesRound 57 = .ok (.aload_n 0, 1) := by decide +kernel
theorem dX5_passesRound_58 : decode cX5_passesRound 58 = .ok (.getfield 25, 3) := by decide +kernel
theorem dX5_passesRound_61 : decode cX5_passesRound 61 = .ok (.iload_n 2, 1) := by decide +kernel
theorem dX5_passesRound_62 : decode cX5_passesRound 62 = .ok (.iconst 0, 1) := by decide +kernel
theorem dX5_passesRound_63 : decode cX5_passesRound 63 = .ok (.iastore, 1) := by decide +kernel
theorem dX5_passesRound_64 : decode cX5_passesRound 64 = .ok (.iinc 2 1, 3) := by decide +kernel
theorem dX5_passesRound_67 : decode cX5_passesRound 67 = .ok (.goto (-16), 3) := by decide +kernel
theorem dX5_passesRound_70 : decode cX5_passesRound 70 = .ok (.iconst 0, 1) := by decide +kernel
theorem dX5_passesRound_71 : decode cX5_passesRound 71 = .ok (.istore_n 2, 1) := by decide +kernel
theorem dX5_passesRound_72 : decode cX5_passesRound 72 = .ok (.iload_n 2, 1) := by decide +kernel
theorem dX5_passesRound_73 : decode cX5_passesRound 73 = .ok (.aload_n 0, 1) := by decide +kernel
theorem dX5_passesRound_74 : decode cX5_passesRound 74 = .ok (.getfield 7, 3) := by decide +kernel
theorem dX5_passesRound_77 : decode cX5_passesRound 77 = .ok (.bipush 9, 2) := by decide +kernel
theorem dX5_passesRound_79 : decode cX5_passesRound 79 = .ok (.iaload, 1) := by decide +kernel
theorem dX5_passesRound_80 : decode cX5_passesRound 80 = .ok (.if_icmp .ge 23, 3) := by decide +kernel
theorem dX5_passesRound_83 : decode cX5_passesRound 83 = .ok (.aload_n 0, 1) := by decide +kernel
theorem dX5_passesRound_84 : decode cX5_passesRound 84 = .ok (.iload_n 2, 1) := by decide +kernel
theorem dX5_passesRound_85 : decode cX5_passesRound 85 = .ok (.invokevirtual 103, 3) := by decide +kernel
theorem dX5_passesRound_88 : decode cX5_passesRound 88 = .ok (.ifCond .eq 9, 3) := by decide +kernel
theorem dX5_passesRound_91 : decode cX5_passesRound 91 = .ok (.aload_n 0, 1) := by decide +kernel
theorem dX5_passesRound_92 : decode cX5_passesRound 92 = .ok (.iload_n 2, 1) := by decide +kernel
theorem dX5_passesRound_93 : decode cX5_passesRound 93 = .ok (.iload_n 1, 1) := by decide +kernel
theorem dX5_passesRound_94 : decode cX5_passesRound 94 = .ok (.invokevirtual 162, 3) := by decide +kernel
theorem dX5_passesRound_97 : decode cX5_passesRound 97 = .ok (.iinc 2 1, 3) := by decide +kernel
theorem dX5_passesRound_100 : decode cX5_passesRound 100 = .ok (.goto (-28), 3) := by decide +kernel
theorem dX5_passesRound_103 : decode cX5_passesRound 103 = .ok (.aload_n 0, 1) := by decide +kernel
theorem dX5_passesRound_104 : decode cX5_passesRound 104 = .ok (.getfield 7, 3) := by decide +kernel
theorem dX5_passesRound_107 : decode cX5_passesRound 107 = .ok (.bipush 7, 2) := by decide +kernel
theorem dX5_passesRound_109 : decode cX5_passesRound 109 = .ok (.dup2, 1) := by decide +kernel
theorem dX5_passesRound_110 : decode cX5_passesRound 110 = .ok (.iaload, 1) := by decide +kernel
theorem dX5_passesRound_111 : decode cX5_passesRound 111 = .ok (.iconst 1, 1) := by decide +kernel
theorem dX5_passesRound_112 : decode cX5_passesRound 112 = .ok (.iadd, 1) := by decide +kernel
theorem dX5_passesRound_113 : decode cX5_passesRound 113 = .ok (.iastore, 1) := by decide +kernel
theorem dX5_passesRound_114 : decode cX5_passesRound 114 = .ok (.aload_n 0, 1) := by decide +kernel
theorem dX5_passesRound_115 : decode cX5_passesRound 115 = .ok (.getfield 7, 3) := by decide +kernel
theorem dX5_passesRound_118 : decode cX5_passesRound 118 = .ok (.bipush 7, 2) := by decide +kernel
theorem dX5_passesRound_120 : decode cX5_passesRound 120 = .ok (.iaload, 1) := by decide +kernel
theorem dX5_passesRound_121 : decode cX5_passesRound 121 = .ok (.bipush 40, 2) := by decide +kernel
theorem dX5_passesRound_123 : decode cX5_passesRound 123 = .ok (.if_icmp .ne 7, 3) := by decide +kernel
theorem dX5_passesRound_126 : decode cX5_passesRound 126 = .ok (.aload_n 0, 1) := by decide +kernel
theorem dX5_passesRound_127 : decode cX5_passesRound 127 = .ok (.invokevirtual 165, 3) := by decide +kernel
theorem dX5_passesRound_130 : decode cX5_passesRound 130 = .ok (.return_, 1) := by decide +kernel
theorem dX5_canPass_0 : decode cX5_canPass 0 = .ok (.aload_n 0, 1) := by decide +kernel
theorem dX5_canPass_1 : decode cX5_canPass 1 = .ok (.getfield 7, 3) := by decide +kernel
theorem dX5_canPass_4 : decode cX5_canPass 4 = .ok (.bipush 6, 2) := by decide +kernel
theorem dX5_canPass_6 : decode cX5_canPass 6 = .ok (.iaload, 1) := by decide +kernel
theorem dX5_canPass_7 : decode cX5_canPass 7 = .ok (.aload_n 0, 1) := by decide +kernel
theorem dX5_canPass_8 : decode cX5_canPass 8 = .ok (.getfield 7, 3) := by decide +kernel
theorem dX5_canPass_11 : decode cX5_canPass 11 = .ok (.bipush 7, 2) := by decide +kernel
theorem dX5_canPass_13 : decode cX5_canPass 13 = .ok (.iaload, 1) := by decide +kernel
theorem dX5_canPass_14 : decode cX5_canPass 14 = .ok (.iload_n 1, 1) := by decide +kernel
theorem dX5_canPass_15 : decode cX5_canPass 15 = .ok (.iadd, 1) := by decide +kernel
theorem dX5_canPass_16 : decode cX5_canPass 16 = .ok (.bipush 40, 2) := by decide +kernel
theorem dX5_canPass_18 : decode cX5_canPass 18 = .ok (.idiv, 1) := by decide +kernel
theorem dX5_canPass_19 : decode cX5_canPass 19 = .ok (.iadd, 1) := by decide +kernel
theorem dX5_canPass_20 : decode cX5_canPass 20 = .ok (.sipush 9999, 3) := by decide +kernel
theorem dX5_canPass_23 : decode cX5_canPass 23 = .ok (.if_icmp .gt 7, 3) := by decide +kernel
theorem dX5_canPass_26 : decode cX5_canPass 26 = .ok (.iconst 1, 1) := by decide +kernel
theorem dX5_canPass_27 : decode cX5_canPass 27 = .ok (.goto 4, 3) := by decide +kernel
theorem dX5_canPass_30 : decode cX5_canPass 30 = .ok (.iconst 0, 1) := by decide +kernel
theorem dX5_canPass_31 : decode cX5_canPass 31 = .ok (.ireturn, 1) := by decide +kernel
theorem dX5_passes_0 : decode cX5_passes 0 = .ok (.aload_n 0, 1) := by decide +kernel
theorem dX5_passes_1 : decode cX5_passes 1 = .ok (.getfield 7, 3) := by decide +kernel
theorem dX5_passes_4 : decode cX5_passes 4 = .ok (.iconst 5, 1) := by decide +kernel
theorem dX5_passes_5 : decode cX5_passes 5 = .ok (.iaload, 1) := by decide +kernel
theorem dX5_passes_6 : decode cX5_passes 6 = .ok (.istore_n 2, 1) := by decide +kernel
theorem dX5_passes_7 : decode cX5_passes 7 = .ok (.iconst 0, 1) := by decide +kernel
theorem dX5_passes_8 : decode cX5_passes 8 = .ok (.istore_n 3, 1) := by decide +kernel
theorem dX5_passes_9 : decode cX5_passes 9 = .ok (.iload_n 3, 1) := by decide +kernel
theorem dX5_passes_10 : decode cX5_passes 10 = .ok (.iload_n 1, 1) := by decide +kernel
theorem dX5_passes_11 : decode cX5_passes 11 = .ok (.if_icmp .ge 13, 3) := by decide +kernel
theorem dX5_passes_14 : decode cX5_passes 14 = .ok (.aload_n 0, 1) := by decide +kernel
theorem dX5_passes_15 : decode cX5_passes 15 = .ok (.invokevirtual 168, 3) := by decide +kernel
theorem dX5_passes_18 : decode cX5_passes 18 = .ok (.iinc 3 1, 3) := by decide +kernel
theorem dX5_passes_21 : decode cX5_passes 21 = .ok (.goto (-12), 3) := by decide +kernel
theorem dX5_passes_24 : decode cX5_passes 24 = .ok (.aload_n 0, 1) := by decide +kernel
theorem dX5_passes_25 : decode cX5_passes 25 = .ok (.getfield 7, 3) := by decide +kernel
theorem dX5_passes_28 : decode cX5_passes 28 = .ok (.iconst 5, 1) := by decide +kernel
theorem dX5_passes_29 : decode cX5_passes 29 = .ok (.iaload, 1) := by decide +kernel
theorem dX5_passes_30 : decode cX5_passes 30 = .ok (.iload_n 2, 1) := by decide +kernel
theorem dX5_passes_31 : decode cX5_passes 31 = .ok (.isub, 1) := by decide +kernel
theorem dX5_passes_32 : decode cX5_passes 32 = .ok (.ireturn, 1) := by decide +kernel
theorem dX5_build_0 : decode cX5_build 0 = .ok (.aload_n 0, 1) := by decide +kernel
theorem dX5_build_1 : decode cX5_build 1 = .ok (.aload_n 0, 1) := by decide +kernel
theorem dX5_build_2 : decode cX5_build 2 = .ok (.iload_n 1, 1) := by decide +kernel
theorem dX5_build_3 : decode cX5_build 3 = .ok (.iload_n 2, 1) := by decide +kernel
theorem dX5_build_4 : decode cX5_build 4 = .ok (.iload_n 3, 1) := by decide +kernel
theorem dX5_build_5 : decode cX5_build 5 = .ok (.iload 4, 2) := by decide +kernel
theorem dX5_build_7 : decode cX5_build 7 = .ok (.invokevirtual 171, 3) := by decide +kernel
theorem dX5_build_10 : decode cX5_build 10 = .ok (.putfield 34, 3) := by decide +kernel
theorem dX5_build_13 : decode cX5_build 13 = .ok (.aload_n 0, 1) := by decide +kernel
theorem dX5_build_14 : decode cX5_build 14 = .ok (.getfield 34, 3) := by decide +kernel
theorem dX5_build_17 : decode cX5_build 17 = .ok (.ifCond .le 5, 3) := by decide +kernel
theorem dX5_build_20 : decode cX5_build 20 = .ok (.iconst 0, 1) := by decide +kernel
theorem dX5_build_21 : decode cX5_build 21 = .ok (.ireturn, 1) := by decide +kernel
theorem dX5_build_22 : decode cX5_build 22 = .ok (.aload_n 0, 1) := by decide +kernel
theorem dX5_build_23 : decode cX5_build 23 = .ok (.aload_n 0, 1) := by decide +kernel
theorem dX5_build_24 : decode cX5_build 24 = .ok (.getfield 7, 3) := by decide +kernel
theorem dX5_build_27 : decode cX5_build 27 = .ok (.invokevirtual 174, 3) := by decide +kernel
theorem dX5_build_30 : decode cX5_build 30 = .ok (.aload_n 0, 1) := by decide +kernel
theorem dX5_build_31 : decode cX5_build 31 = .ok (.iload_n 1, 1) := by decide +kernel
theorem dX5_build_32 : decode cX5_build 32 = .ok (.iload_n 2, 1) := by decide +kernel
theorem dX5_build_33 : decode cX5_build 33 = .ok (.iload_n 3, 1) := by decide +kernel
theorem dX5_build_34 : decode cX5_build 34 = .ok (.iload 4, 2) := by decide +kernel
theorem dX5_build_36 : decode cX5_build 36 = .ok (.invokevirtual 178, 3) := by decide +kernel
theorem dX5_build_39 : decode cX5_build 39 = .ok (.ireturn, 1) := by decide +kernel
theorem dX5_pullDown_0 : decode cX5_pullDown 0 = .ok (.aload_n 0, 1) := by decide +kernel
theorem dX5_pullDown_1 : decode cX5_pullDown 1 = .ok (.aload_n 0, 1) := by decide +kernel
theorem dX5_pullDown_2 : decode cX5_pullDown 2 = .ok (.iload_n 1, 1) := by decide +kernel
theorem dX5_pullDown_3 : decode cX5_pullDown 3 = .ok (.invokevirtual 88, 3) := by decide +kernel
theorem dX5_pullDown_6 : decode cX5_pullDown 6 = .ok (.ifCond .eq 7, 3) := by decide +kernel
theorem dX5_pullDown_9 : decode cX5_pullDown 9 = .ok (.iconst 0, 1) := by decide +kernel
theorem dX5_pullDown_10 : decode cX5_pullDown 10 = .ok (.goto 4, 3) := by decide +kernel
theorem dX5_pullDown_13 : decode cX5_pullDown 13 = .ok (.iconst 1, 1) := by decide +kernel
theorem dX5_pullDown_14 : decode cX5_pullDown 14 = .ok (.putfield 34, 3) := by decide +kernel
theorem dX5_pullDown_17 : decode cX5_pullDown 17 = .ok (.aload_n 0, 1) := by decide +kernel
theorem dX5_pullDown_18 : decode cX5_pullDown 18 = .ok (.getfield 34, 3) := by decide +kernel
theorem dX5_pullDown_21 : decode cX5_pullDown 21 = .ok (.ifCond .le 5, 3) := by decide +kernel
theorem dX5_pullDown_24 : decode cX5_pullDown 24 = .ok (.iconst 0, 1) := by decide +kernel
theorem dX5_pullDown_25 : decode cX5_pullDown 25 = .ok (.ireturn, 1) := by decide +kernel
theorem dX5_pullDown_26 : decode cX5_pullDown 26 = .ok (.aload_n 0, 1) := by decide +kernel
theorem dX5_pullDown_27 : decode cX5_pullDown 27 = .ok (.aload_n 0, 1) := by decide +kernel
theorem dX5_pullDown_28 : decode cX5_pullDown 28 = .ok (.getfield 7, 3) := by decide +kernel
theorem dX5_pullDown_31 : decode cX5_pullDown 31 = .ok (.invokevirtual 174, 3) := by decide +kernel
theorem dX5_pullDown_34 : decode cX5_pullDown 34 = .ok (.aload_n 0, 1) := by decide +kernel
theorem dX5_pullDown_35 : decode cX5_pullDown 35 = .ok (.iload_n 1, 1) := by decide +kernel
theorem dX5_pullDown_36 : decode cX5_pullDown 36 = .ok (.iconst 4, 1) := by decide +kernel
theorem dX5_pullDown_37 : decode cX5_pullDown 37 = .ok (.invokevirtual 49, 3) := by decide +kernel
theorem dX5_pullDown_40 : decode cX5_pullDown 40 = .ok (.istore_n 2, 1) := by decide +kernel
theorem dX5_pullDown_41 : decode cX5_pullDown 41 = .ok (.aload_n 0, 1) := by decide +kernel
theorem dX5_pullDown_42 : decode cX5_pullDown 42 = .ok (.getfield 7, 3) := by decide +kernel
theorem dX5_pullDown_45 : decode cX5_pullDown 45 = .ok (.iconst 0, 1) := by decide +kernel
theorem dX5_pullDown_46 : decode cX5_pullDown 46 = .ok (.dup2, 1) := by decide +kernel
theorem dX5_pullDown_47 : decode cX5_pullDown 47 = .ok (.iaload, 1) := by decide +kernel
theorem dX5_pullDown_48 : decode cX5_pullDown 48 = .ok (.iload_n 2, 1) := by decide +kernel
theorem dX5_pullDown_49 : decode cX5_pullDown 49 = .ok (.iadd, 1) := by decide +kernel
theorem dX5_pullDown_50 : decode cX5_pullDown 50 = .ok (.iastore, 1) := by decide +kernel
theorem dX5_pullDown_51 : decode cX5_pullDown 51 = .ok (.aload_n 0, 1) := by decide +kernel
theorem dX5_pullDown_52 : decode cX5_pullDown 52 = .ok (.getfield 7, 3) := by decide +kernel
theorem dX5_pullDown_55 : decode cX5_pullDown 55 = .ok (.bipush 8, 2) := by decide +kernel
theorem dX5_pullDown_57 : decode cX5_pullDown 57 = .ok (.dup2, 1) := by decide +kernel
theorem dX5_pullDown_58 : decode cX5_pullDown 58 = .ok (.iaload, 1) := by decide +kernel
theorem dX5_pullDown_59 : decode cX5_pullDown 59 = .ok (.iconst 1, 1) := by decide +kernel
theorem dX5_pullDown_60 : decode cX5_pullDown 60 = .ok (.isub, 1) := by decide +kernel
theorem dX5_pullDown_61 : decode cX5_pullDown 61 = .ok (.iastore, 1) := by decide +kernel
theorem dX5_pullDown_62 : decode cX5_pullDown 62 = .ok (.bipush 24, 2) := by decide +kernel
theorem dX5_pullDown_64 : decode cX5_pullDown 64 = .ok (.bipush 23, 2) := by decide +kernel
theorem dX5_pullDown_66 : decode cX5_pullDown 66 = .ok (.iload_n 1, 1) := by decide +kernel
theorem dX5_pullDown_67 : decode cX5_pullDown 67 = .ok (.imul, 1) := by decide +kernel
theorem dX5_pullDown_68 : decode cX5_pullDown 68 = .ok (.iadd, 1) := by decide +kernel
theorem dX5_pullDown_69 : decode cX5_pullDown 69 = .ok (.istore_n 3, 1) := by decide +kernel
theorem dX5_pullDown_70 : decode cX5_pullDown 70 = .ok (.iload_n 3, 1) := by decide +kernel
theorem dX5_pullDown_71 : decode cX5_pullDown 71 = .ok (.bipush 24, 2) := by decide +kernel
theorem dX5_pullDown_73 : decode cX5_pullDown 73 = .ok (.bipush 23, 2) := by decide +kernel
theorem dX5_pullDown_75 : decode cX5_pullDown 75 = .ok (.aload_n 0, 1) := by decide +kernel
theorem dX5_pullDown_76 : decode cX5_pullDown 76 = .ok (.getfield 7, 3) := by decide +kernel
theorem dX5_pullDown_79 : decode cX5_pullDown 79 = .ok (.bipush 8, 2) := by decide +kernel
theorem dX5_pullDown_81 : decode cX5_pullDown 81 = .ok (.iaload, 1) := by decide +kernel
theorem dX5_pullDown_82 : decode cX5_pullDown 82 = .ok (.imul, 1) := by decide +kernel
theorem dX5_pullDown_83 : decode cX5_pullDown 83 = .ok (.iadd, 1) := by decide +kernel
theorem dX5_pullDown_84 : decode cX5_pullDown 84 = .ok (.if_icmp .ge 24, 3) := by decide +kernel
theorem dX5_pullDown_87 : decode cX5_pullDown 87 = .ok (.aload_n 0, 1) := by decide +kernel
theorem dX5_pullDown_88 : decode cX5_pullDown 88 = .ok (.getfield 7, 3) := by decide +kernel
theorem dX5_pullDown_91 : decode cX5_pullDown 91 = .ok (.iload_n 3, 1) := by decide +kernel
theorem dX5_pullDown_92 : decode cX5_pullDown 92 = .ok (.aload_n 0, 1) := by decide +kernel
theorem dX5_pullDown_93 : decode cX5_pullDown 93 = .ok (.getfield 7, 3) := by decide +kernel
theorem dX5_pullDown_96 : decode cX5_pullDown 96 = .ok (.iload_n 3, 1) := by decide +kernel
theorem dX5_pullDown_97 : decode cX5_pullDown 97 = .ok (.bipush 23, 2) := by decide +kernel
theorem dX5_pullDown_99 : decode cX5_pullDown 99 = .ok (.iadd, 1) := by decide +kernel
theorem dX5_pullDown_100 : decode cX5_pullDown 100 = .ok (.iaload, 1) := by decide +kernel
theorem dX5_pullDown_101 : decode cX5_pullDown 101 = .ok (.iastore, 1) := by decide +kernel
theorem dX5_pullDown_102 : decode cX5_pullDown 102 = .ok (.iinc 3 1, 3) := by decide +kernel
theorem dX5_pullDown_105 : decode cX5_pullDown 105 = .ok (.goto (-35), 3) := by decide +kernel
theorem dX5_pullDown_108 : decode cX5_pullDown 108 = .ok (.iload_n 2, 1) := by decide +kernel
theorem dX5_pullDown_109 : decode cX5_pullDown 109 = .ok (.ireturn, 1) := by decide +kernel
theorem dX5_setPrice_0 : decode cX5_setPrice 0 = .ok (.aload_n 0, 1) := by decide +kernel
theorem dX5_setPrice_1 : decode cX5_setPrice 1 = .ok (.aload_n 0, 1) := by decide +kernel
theorem dX5_setPrice_2 : decode cX5_setPrice 2 = .ok (.iload_n 1, 1) := by decide +kernel
theorem dX5_setPrice_3 : decode cX5_setPrice 3 = .ok (.invokevirtual 88, 3) := by decide +kernel
theorem dX5_setPrice_6 : decode cX5_setPrice 6 = .ok (.ifCond .ne 7, 3) := by decide +kernel
theorem dX5_setPrice_9 : decode cX5_setPrice 9 = .ok (.iconst 1, 1) := by decide +kernel
theorem dX5_setPrice_10 : decode cX5_setPrice 10 = .ok (.goto 15, 3) := by decide +kernel
theorem dX5_setPrice_13 : decode cX5_setPrice 13 = .ok (.iload_n 2, 1) := by decide +kernel
theorem dX5_setPrice_14 : decode cX5_setPrice 14 = .ok (.invokestatic 77, 3) := by decide +kernel
theorem dX5_setPrice_17 : decode cX5_setPrice 17 = .ok (.ifCond .eq 7, 3) := by decide +kernel
theorem dX5_setPrice_20 : decode cX5_setPrice 20 = .ok (.iconst 0, 1) := by decide +kernel
theorem dX5_setPrice_21 : decode cX5_setPrice 21 = .ok (.goto 4, 3) := by decide +kernel
theorem dX5_setPrice_24 : decode cX5_setPrice 24 = .ok (.iconst 2, 1) := by decide +kernel
theorem dX5_setPrice_25 : decode cX5_setPrice 25 = .ok (.putfield 34, 3) := by decide +kernel
theorem dX5_setPrice_28 : decode cX5_setPrice 28 = .ok (.aload_n 0, 1) := by decide +kernel
theorem dX5_setPrice_29 : decode cX5_setPrice 29 = .ok (.getfield 34, 3) := by decide +kernel
theorem dX5_setPrice_32 : decode cX5_setPrice 32 = .ok (.ifCond .le 5, 3) := by decide +kernel
theorem dX5_setPrice_35 : decode cX5_setPrice 35 = .ok (.iconst 0, 1) := by decide +kernel
theorem dX5_setPrice_36 : decode cX5_setPrice 36 = .ok (.ireturn, 1) := by decide +kernel
theorem dX5_setPrice_37 : decode cX5_setPrice 37 = .ok (.aload_n 0, 1) := by decide +kernel
theorem dX5_setPrice_38 : decode cX5_setPrice 38 = .ok (.aload_n 0, 1) := by decide +kernel
theorem dX5_setPrice_39 : decode cX5_setPrice 39 = .ok (.getfield 7, 3) := by decide +kernel
theorem dX5_setPrice_42 : decode cX5_setPrice 42 = .ok (.invokevirtual 174, 3) := by decide +kernel
theorem dX5_setPrice_45 : decode cX5_setPrice 45 = .ok (.aload_n 0, 1) := by decide +kernel
theorem dX5_setPrice_46 : decode cX5_setPrice 46 = .ok (.iload_n 1, 1) := by decide +kernel
theorem dX5_setPrice_47 : decode cX5_setPrice 47 = .ok (.iconst 2, 1) := by decide +kernel
theorem dX5_setPrice_48 : decode cX5_setPrice 48 = .ok (.invokevirtual 49, 3) := by decide +kernel
theorem dX5_setPrice_51 : decode cX5_setPrice 51 = .ok (.istore_n 3, 1) := by decide +kernel
theorem dX5_setPrice_52 : decode cX5_setPrice 52 = .ok (.aload_n 0, 1) := by decide +kernel
theorem dX5_setPrice_53 : decode cX5_setPrice 53 = .ok (.iload_n 1, 1) := by decide +kernel
theorem dX5_setPrice_54 : decode cX5_setPrice 54 = .ok (.iconst 2, 1) := by decide +kernel
theorem dX5_setPrice_55 : decode cX5_setPrice 55 = .ok (.iload_n 2, 1) := by decide +kernel
theorem dX5_setPrice_56 : decode cX5_setPrice 56 = .ok (.invokevirtual 80, 3) := by decide +kernel
theorem dX5_setPrice_59 : decode cX5_setPrice 59 = .ok (.iload_n 3, 1) := by decide +kernel
theorem dX5_setPrice_60 : decode cX5_setPrice 60 = .ok (.ireturn, 1) := by decide +kernel
theorem dX5_turnStall_0 : decode cX5_turnStall 0 = .ok (.aload_n 0, 1) := by decide +kernel
theorem dX5_turnStall_1 : decode cX5_turnStall 1 = .ok (.aload_n 0, 1) := by decide +kernel
theorem dX5_turnStall_2 : decode cX5_turnStall 2 = .ok (.iload_n 1, 1) := by decide +kernel
theorem dX5_turnStall_3 : decode cX5_turnStall 3 = .ok (.invokevirtual 88, 3) := by decide +kernel
theorem dX5_turnStall_6 : decode cX5_turnStall 6 = .ok (.ifCond .eq 7, 3) := by decide +kernel
theorem dX5_turnStall_9 : decode cX5_turnStall 9 = .ok (.iconst 0, 1) := by decide +kernel
theorem dX5_turnStall_10 : decode cX5_turnStall 10 = .ok (.goto 4, 3) := by decide +kernel
theorem dX5_turnStall_13 : decode cX5_turnStall 13 = .ok (.iconst 1, 1) := by decide +kernel
theorem dX5_turnStall_14 : decode cX5_turnStall 14 = .ok (.putfield 34, 3) := by decide +kernel
theorem dX5_turnStall_17 : decode cX5_turnStall 17 = .ok (.aload_n 0, 1) := by decide +kernel
theorem dX5_turnStall_18 : decode cX5_turnStall 18 = .ok (.getfield 34, 3) := by decide +kernel
theorem dX5_turnStall_21 : decode cX5_turnStall 21 = .ok (.ifCond .le 5, 3) := by decide +kernel
theorem dX5_turnStall_24 : decode cX5_turnStall 24 = .ok (.iconst 0, 1) := by decide +kernel
theorem dX5_turnStall_25 : decode cX5_turnStall 25 = .ok (.ireturn, 1) := by decide +kernel
theorem dX5_turnStall_26 : decode cX5_turnStall 26 = .ok (.aload_n 0, 1) := by decide +kernel
theorem dX5_turnStall_27 : decode cX5_turnStall 27 = .ok (.aload_n 0, 1) := by decide +kernel
theorem dX5_turnStall_28 : decode cX5_turnStall 28 = .ok (.getfield 7, 3) := by decide +kernel
theorem dX5_turnStall_31 : decode cX5_turnStall 31 = .ok (.invokevirtual 174, 3) := by decide +kernel
theorem dX5_turnStall_34 : decode cX5_turnStall 34 = .ok (.aload_n 0, 1) := by decide +kernel
theorem dX5_turnStall_35 : decode cX5_turnStall 35 = .ok (.iload_n 1, 1) := by decide +kernel
theorem dX5_turnStall_36 : decode cX5_turnStall 36 = .ok (.bipush 6, 2) := by decide +kernel
theorem dX5_turnStall_38 : decode cX5_turnStall 38 = .ok (.iconst 1, 1) := by decide +kernel
theorem dX5_turnStall_39 : decode cX5_turnStall 39 = .ok (.aload_n 0, 1) := by decide +kernel
theorem dX5_turnStall_40 : decode cX5_turnStall 40 = .ok (.iload_n 1, 1) := by decide +kernel
theorem dX5_turnStall_41 : decode cX5_turnStall 41 = .ok (.bipush 6, 2) := by decide +kernel
theorem dX5_turnStall_43 : decode cX5_turnStall 43 = .ok (.invokevirtual 49, 3) := by decide +kernel
theorem dX5_turnStall_46 : decode cX5_turnStall 46 = .ok (.isub, 1) := by decide +kernel
theorem dX5_turnStall_47 : decode cX5_turnStall 47 = .ok (.invokevirtual 80, 3) := by decide +kernel
theorem dX5_turnStall_50 : decode cX5_turnStall 50 = .ok (.aload_n 0, 1) := by decide +kernel
theorem dX5_turnStall_51 : decode cX5_turnStall 51 = .ok (.iload_n 1, 1) := by decide +kernel
theorem dX5_turnStall_52 : decode cX5_turnStall 52 = .ok (.bipush 6, 2) := by decide +kernel
theorem dX5_turnStall_54 : decode cX5_turnStall 54 = .ok (.invokevirtual 49, 3) := by decide +kernel
theorem dX5_turnStall_57 : decode cX5_turnStall 57 = .ok (.iconst 1, 1) := by decide +kernel
theorem dX5_turnStall_58 : decode cX5_turnStall 58 = .ok (.if_icmp .ne 7, 3) := by decide +kernel
theorem dX5_turnStall_61 : decode cX5_turnStall 61 = .ok (.iconst 1, 1) := by decide +kernel
theorem dX5_turnStall_62 : decode cX5_turnStall 62 = .ok (.goto 4, 3) := by decide +kernel
theorem dX5_turnStall_65 : decode cX5_turnStall 65 = .ok (.iconst 0, 1) := by decide +kernel
theorem dX5_turnStall_66 : decode cX5_turnStall 66 = .ok (.ireturn, 1) := by decide +kernel
theorem dX5_restock_0 : decode cX5_restock 0 = .ok (.aload_n 0, 1) := by decide +kernel
theorem dX5_restock_1 : decode cX5_restock 1 = .ok (.aload_n 0, 1) := by decide +kernel
theorem dX5_restock_2 : decode cX5_restock 2 = .ok (.iload_n 1, 1) := by decide +kernel
theorem dX5_restock_3 : decode cX5_restock 3 = .ok (.iload_n 2, 1) := by decide +kernel
theorem dX5_restock_4 : decode cX5_restock 4 = .ok (.iload_n 3, 1) := by decide +kernel
theorem dX5_restock_5 : decode cX5_restock 5 = .ok (.iload 4, 2) := by decide +kernel
theorem dX5_restock_7 : decode cX5_restock 7 = .ok (.invokevirtual 181, 3) := by decide +kernel
theorem dX5_restock_10 : decode cX5_restock 10 = .ok (.putfield 34, 3) := by decide +kernel
theorem dX5_restock_13 : decode cX5_restock 13 = .ok (.aload_n 0, 1) := by decide +kernel
theorem dX5_restock_14 : decode cX5_restock 14 = .ok (.getfield 34, 3) := by decide +kernel
theorem dX5_restock_17 : decode cX5_restock 17 = .ok (.ifCond .le 5, 3) := by decide +kernel
theorem dX5_restock_20 : decode cX5_restock 20 = .ok (.iconst 0, 1) := by decide +kernel
theorem dX5_restock_21 : decode cX5_restock 21 = .ok (.ireturn, 1) := by decide +kernel
theorem dX5_restock_22 : decode cX5_restock 22 = .ok (.aload_n 0, 1) := by decide +kernel
theorem dX5_restock_23 : decode cX5_restock 23 = .ok (.aload_n 0, 1) := by decide +kernel
theorem dX5_restock_24 : decode cX5_restock 24 = .ok (.getfield 7, 3) := by decide +kernel
theorem dX5_restock_27 : decode cX5_restock 27 = .ok (.invokevirtual 174, 3) := by decide +kernel
theorem dX5_restock_30 : decode cX5_restock 30 = .ok (.aload_n 0, 1) := by decide +kernel
theorem dX5_restock_31 : decode cX5_restock 31 = .ok (.iload_n 1, 1) := by decide +kernel
theorem dX5_restock_32 : decode cX5_restock 32 = .ok (.iload_n 2, 1) := by decide +kernel
theorem dX5_restock_33 : decode cX5_restock 33 = .ok (.iload_n 3, 1) := by decide +kernel
theorem dX5_restock_34 : decode cX5_restock 34 = .ok (.iload 4, 2) := by decide +kernel
theorem dX5_restock_36 : decode cX5_restock 36 = .ok (.invokevirtual 185, 3) := by decide +kernel
theorem dX5_restock_39 : decode cX5_restock 39 = .ok (.ireturn, 1) := by decide +kernel
theorem dX5_fund_0 : decode cX5_fund 0 = .ok (.aload_n 0, 1) := by decide +kernel
theorem dX5_fund_1 : decode cX5_fund 1 = .ok (.aload_n 0, 1) := by decide +kernel
theorem dX5_fund_2 : decode cX5_fund 2 = .ok (.iload_n 1, 1) := by decide +kernel
theorem dX5_fund_3 : decode cX5_fund 3 = .ok (.iload_n 2, 1) := by decide +kernel
theorem dX5_fund_4 : decode cX5_fund 4 = .ok (.invokevirtual 188, 3) := by decide +kernel
theorem dX5_fund_7 : decode cX5_fund 7 = .ok (.putfield 34, 3) := by decide +kernel
theorem dX5_fund_10 : decode cX5_fund 10 = .ok (.aload_n 0, 1) := by decide +kernel
theorem dX5_fund_11 : decode cX5_fund 11 = .ok (.getfield 34, 3) := by decide +kernel
theorem dX5_fund_14 : decode cX5_fund 14 = .ok (.ifCond .le 5, 3) := by decide +kernel
theorem dX5_fund_17 : decode cX5_fund 17 = .ok (.iconst 0, 1) := by decide +kernel
theorem dX5_fund_18 : decode cX5_fund 18 = .ok (.ireturn, 1) := by decide +kernel
theorem dX5_fund_19 : decode cX5_fund 19 = .ok (.aload_n 0, 1) := by decide +kernel
theorem dX5_fund_20 : decode cX5_fund 20 = .ok (.aload_n 0, 1) := by decide +kernel
theorem dX5_fund_21 : decode cX5_fund 21 = .ok (.getfield 7, 3) := by decide +kernel
theorem dX5_fund_24 : decode cX5_fund 24 = .ok (.invokevirtual 174, 3) := by decide +kernel
theorem dX5_fund_27 : decode cX5_fund 27 = .ok (.aload_n 0, 1) := by decide +kernel
theorem dX5_fund_28 : decode cX5_fund 28 = .ok (.iload_n 1, 1) := by decide +kernel
theorem dX5_fund_29 : decode cX5_fund 29 = .ok (.iload_n 2, 1) := by decide +kernel
theorem dX5_fund_30 : decode cX5_fund 30 = .ok (.invokevirtual 191, 3) := by decide +kernel
theorem dX5_fund_33 : decode cX5_fund 33 = .ok (.ireturn, 1) := by decide +kernel
theorem dX5_collect_0 : decode cX5_collect 0 = .ok (.aload_n 0, 1) := by decide +kernel
theorem dX5_collect_1 : decode cX5_collect 1 = .ok (.aload_n 0, 1) := by decide +kernel
theorem dX5_collect_2 : decode cX5_collect 2 = .ok (.iload_n 1, 1) := by decide +kernel
theorem dX5_collect_3 : decode cX5_collect 3 = .ok (.invokevirtual 88, 3) := by decide +kernel
theorem dX5_collect_6 : decode cX5_collect 6 = .ok (.ifCond .eq 7, 3) := by decide +kernel
theorem dX5_collect_9 : decode cX5_collect 9 = .ok (.iconst 0, 1) := by decide +kernel
theorem dX5_collect_10 : decode cX5_collect 10 = .ok (.goto 4, 3) := by decide +kernel
theorem dX5_collect_13 : decode cX5_collect 13 = .ok (.iconst 1, 1) := by decide +kernel
theorem dX5_collect_14 : decode cX5_collect 14 = .ok (.putfield 34, 3) := by decide +kernel
theorem dX5_collect_17 : decode cX5_collect 17 = .ok (.aload_n 0, 1) := by decide +kernel
theorem dX5_collect_18 : decode cX5_collect 18 = .ok (.getfield 34, 3) := by decide +kernel
theorem dX5_collect_21 : decode cX5_collect 21 = .ok (.ifCond .le 5, 3) := by decide +kernel
theorem dX5_collect_24 : decode cX5_collect 24 = .ok (.iconst 0, 1) := by decide +kernel
theorem dX5_collect_25 : decode cX5_collect 25 = .ok (.ireturn, 1) := by decide +kernel
theorem dX5_collect_26 : decode cX5_collect 26 = .ok (.aload_n 0, 1) := by decide +kernel
theorem dX5_collect_27 : decode cX5_collect 27 = .ok (.aload_n 0, 1) := by decide +kernel
theorem dX5_collect_28 : decode cX5_collect 28 = .ok (.getfield 7, 3) := by decide +kernel
theorem dX5_collect_31 : decode cX5_collect 31 = .ok (.invokevirtual 174, 3) := by decide +kernel
theorem dX5_collect_34 : decode cX5_collect 34 = .ok (.aload_n 0, 1) := by decide +kernel
theorem dX5_collect_35 : decode cX5_collect 35 = .ok (.iload_n 1, 1) := by decide +kernel
theorem dX5_collect_36 : decode cX5_collect 36 = .ok (.iconst 4, 1) := by decide +kernel
theorem dX5_collect_37 : decode cX5_collect 37 = .ok (.invokevirtual 49, 3) := by decide +kernel
theorem dX5_collect_40 : decode cX5_collect 40 = .ok (.istore_n 2, 1) := by decide +kernel
theorem dX5_collect_41 : decode cX5_collect 41 = .ok (.aload_n 0, 1) := by decide +kernel
theorem dX5_collect_42 : decode cX5_collect 42 = .ok (.getfield 7, 3) := by decide +kernel
theorem dX5_collect_45 : decode cX5_collect 45 = .ok (.iconst 0, 1) := by decide +kernel
theorem dX5_collect_46 : decode cX5_collect 46 = .ok (.dup2, 1) := by decide +kernel
theorem dX5_collect_47 : decode cX5_collect 47 = .ok (.iaload, 1) := by decide +kernel
theorem dX5_collect_48 : decode cX5_collect 48 = .ok (.iload_n 2, 1) := by decide +kernel
theorem dX5_collect_49 : decode cX5_collect 49 = .ok (.iadd, 1) := by decide +kernel
theorem dX5_collect_50 : decode cX5_collect 50 = .ok (.iastore, 1) := by decide +kernel
theorem dX5_collect_51 : decode cX5_collect 51 = .ok (.aload_n 0, 1) := by decide +kernel
theorem dX5_collect_52 : decode cX5_collect 52 = .ok (.iload_n 1, 1) := by decide +kernel
theorem dX5_collect_53 : decode cX5_collect 53 = .ok (.iconst 4, 1) := by decide +kernel
theorem dX5_collect_54 : decode cX5_collect 54 = .ok (.iconst 0, 1) := by decide +kernel
theorem dX5_collect_55 : decode cX5_collect 55 = .ok (.invokevirtual 80, 3) := by decide +kernel
theorem dX5_collect_58 : decode cX5_collect 58 = .ok (.iload_n 2, 1) := by decide +kernel
theorem dX5_collect_59 : decode cX5_collect 59 = .ok (.ireturn, 1) := by decide +kernel
theorem dX5_come_0 : decode cX5_come 0 = .ok (.aload_n 0, 1) := by decide +kernel
theorem dX5_come_1 : decode cX5_come 1 = .ok (.aload_n 0, 1) := by decide +kernel
theorem dX5_come_2 : decode cX5_come 2 = .ok (.iload_n 1, 1) := by decide +kernel
theorem dX5_come_3 : decode cX5_come 3 = .ok (.iload_n 2, 1) := by decide +kernel
theorem dX5_come_4 : decode cX5_come 4 = .ok (.iload_n 3, 1) := by decide +kernel
theorem dX5_come_5 : decode cX5_come 5 = .ok (.invokevirtual 194, 3) := by decide +kernel
theorem dX5_come_8 : decode cX5_come 8 = .ok (.putfield 34, 3) := by decide +kernel
theorem dX5_come_11 : decode cX5_come 11 = .ok (.aload_n 0, 1) := by decide +kernel
theorem dX5_come_12 : decode cX5_come 12 = .ok (.getfield 34, 3) := by decide +kernel
theorem dX5_come_15 : decode cX5_come 15 = .ok (.ifCond .le 5, 3) := by decide +kernel
theorem dX5_come_18 : decode cX5_come 18 = .ok (.iconst 0, 1) := by decide +kernel
theorem dX5_come_19 : decode cX5_come 19 = .ok (.ireturn, 1) := by decide +kernel
theorem dX5_come_20 : decode cX5_come 20 = .ok (.aload_n 0, 1) := by decide +kernel
theorem dX5_come_21 : decode cX5_come 21 = .ok (.aload_n 0, 1) := by decide +kernel
theorem dX5_come_22 : decode cX5_come 22 = .ok (.getfield 7, 3) := by decide +kernel
theorem dX5_come_25 : decode cX5_come 25 = .ok (.invokevirtual 174, 3) := by decide +kernel
theorem dX5_come_28 : decode cX5_come 28 = .ok (.aload_n 0, 1) := by decide +kernel
theorem dX5_come_29 : decode cX5_come 29 = .ok (.iload_n 1, 1) := by decide +kernel
theorem dX5_come_30 : decode cX5_come 30 = .ok (.iload_n 2, 1) := by decide +kernel
theorem dX5_come_31 : decode cX5_come 31 = .ok (.iload_n 3, 1) := by decide +kernel
theorem dX5_come_32 : decode cX5_come 32 = .ok (.invokevirtual 159, 3) := by decide +kernel
theorem dX5_come_35 : decode cX5_come 35 = .ok (.ireturn, 1) := by decide +kernel
theorem dX5_isHour_0 : decode cX5_isHour 0 = .ok (.iload_n 0, 1) := by decide +kernel
theorem dX5_isHour_1 : decode cX5_isHour 1 = .ok (.iconst 0, 1) := by decide +kernel
theorem dX5_isHour_2 : decode cX5_isHour 2 = .ok (.bipush 9, 2) := by decide +kernel
theorem dX5_isHour_4 : decode cX5_isHour 4 = .ok (.invokestatic 45, 3) := by decide +kernel
theorem dX5_isHour_7 : decode cX5_isHour 7 = .ok (.ireturn, 1) := by decide +kernel
theorem dX5_rains_0 : decode cX5_rains 0 = .ok (.aload_n 0, 1) := by decide +kernel
theorem dX5_rains_1 : decode cX5_rains 1 = .ok (.getfield 7, 3) := by decide +kernel
theorem dX5_rains_4 : decode cX5_rains 4 = .ok (.bipush 14, 2) := by decide +kernel
theorem dX5_rains_6 : decode cX5_rains 6 = .ok (.iload_n 1, 1) := by decide +kernel
theorem dX5_rains_7 : decode cX5_rains 7 = .ok (.iadd, 1) := by decide +kernel
theorem dX5_rains_8 : decode cX5_rains 8 = .ok (.iaload, 1) := by decide +kernel
theorem dX5_rains_9 : decode cX5_rains 9 = .ok (.istore_n 3, 1) := by decide +kernel
theorem dX5_rains_10 : decode cX5_rains 10 = .ok (.aload_n 0, 1) := by decide +kernel
theorem dX5_rains_11 : decode cX5_rains 11 = .ok (.getfield 7, 3) := by decide +kernel
theorem dX5_rains_14 : decode cX5_rains 14 = .ok (.bipush 14, 2) := by decide +kernel
theorem dX5_rains_16 : decode cX5_rains 16 = .ok (.iload_n 1, 1) := by decide +kernel
theorem dX5_rains_17 : decode cX5_rains 17 = .ok (.iadd, 1) := by decide +kernel
theorem dX5_rains_18 : decode cX5_rains 18 = .ok (.iload_n 2, 1) := by decide +kernel
theorem dX5_rains_19 : decode cX5_rains 19 = .ok (.iastore, 1) := by decide +kernel
theorem dX5_rains_20 : decode cX5_rains 20 = .ok (.iload_n 3, 1) := by decide +kernel
theorem dX5_rains_21 : decode cX5_rains 21 = .ok (.ireturn, 1) := by decide +kernel
theorem dX5_setRain_0 : decode cX5_setRain 0 = .ok (.aload_n 0, 1) := by decide +kernel
theorem dX5_setRain_1 : decode cX5_setRain 1 = .ok (.iload_n 1, 1) := by decide +kernel
theorem dX5_setRain_2 : decode cX5_setRain 2 = .ok (.invokestatic 197, 3) := by decide +kernel
theorem dX5_setRain_5 : decode cX5_setRain 5 = .ok (.ifCond .ne 7, 3) := by decide +kernel
theorem dX5_setRain_8 : decode cX5_setRain 8 = .ok (.iconst 1, 1) := by decide +kernel
theorem dX5_setRain_9 : decode cX5_setRain 9 = .ok (.goto 18, 3) := by decide +kernel
theorem dX5_setRain_12 : decode cX5_setRain 12 = .ok (.iload_n 2, 1) := by decide +kernel
theorem dX5_setRain_13 : decode cX5_setRain 13 = .ok (.iconst 0, 1) := by decide +kernel
theorem dX5_setRain_14 : decode cX5_setRain 14 = .ok (.bipush 9, 2) := by decide +kernel
theorem dX5_setRain_16 : decode cX5_setRain 16 = .ok (.invokestatic 45, 3) := by decide +kernel
theorem dX5_setRain_19 : decode cX5_setRain 19 = .ok (.ifCond .eq 7, 3) := by decide +kernel
theorem dX5_setRain_22 : decode cX5_setRain 22 = .ok (.iconst 0, 1) := by decide +kernel
theorem dX5_setRain_23 : decode cX5_setRain 23 = .ok (.goto 4, 3) := by decide +kernel
theorem dX5_setRain_26 : decode cX5_setRain 26 = .ok (.iconst 2, 1) := by decide +kernel
theorem dX5_setRain_27 : decode cX5_setRain 27 = .ok (.putfield 34, 3) := by decide +kernel
theorem dX5_setRain_30 : decode cX5_setRain 30 = .ok (.aload_n 0, 1) := by decide +kernel
theorem dX5_setRain_31 : decode cX5_setRain 31 = .ok (.getfield 34, 3) := by decide +kernel
theorem dX5_setRain_34 : decode cX5_setRain 34 = .ok (.ifCond .le 5, 3) := by decide +kernel
theorem dX5_setRain_37 : decode cX5_setRain 37 = .ok (.iconst 0, 1) := by decide +kernel
theorem dX5_setRain_38 : decode cX5_setRain 38 = .ok (.ireturn, 1) := by decide +kernel
theorem dX5_setRain_39 : decode cX5_setRain 39 = .ok (.aload_n 0, 1) := by decide +kernel
theorem dX5_setRain_40 : decode cX5_setRain 40 = .ok (.aload_n 0, 1) := by decide +kernel
theorem dX5_setRain_41 : decode cX5_setRain 41 = .ok (.getfield 7, 3) := by decide +kernel
theorem dX5_setRain_44 : decode cX5_setRain 44 = .ok (.invokevirtual 174, 3) := by decide +kernel
theorem dX5_setRain_47 : decode cX5_setRain 47 = .ok (.aload_n 0, 1) := by decide +kernel
theorem dX5_setRain_48 : decode cX5_setRain 48 = .ok (.iload_n 1, 1) := by decide +kernel
theorem dX5_setRain_49 : decode cX5_setRain 49 = .ok (.iload_n 2, 1) := by decide +kernel
theorem dX5_setRain_50 : decode cX5_setRain 50 = .ok (.invokevirtual 200, 3) := by decide +kernel
theorem dX5_setRain_53 : decode cX5_setRain 53 = .ok (.ireturn, 1) := by decide +kernel
theorem dX5_pass_0 : decode cX5_pass 0 = .ok (.aload_n 0, 1) := by decide +kernel
theorem dX5_pass_1 : decode cX5_pass 1 = .ok (.iload_n 1, 1) := by decide +kernel
theorem dX5_pass_2 : decode cX5_pass 2 = .ok (.iconst 1, 1) := by decide +kernel
theorem dX5_pass_3 : decode cX5_pass 3 = .ok (.bipush 40, 2) := by decide +kernel
theorem dX5_pass_5 : decode cX5_pass 5 = .ok (.invokestatic 45, 3) := by decide +kernel
theorem dX5_pass_8 : decode cX5_pass 8 = .ok (.ifCond .ne 7, 3) := by decide +kernel
theorem dX5_pass_11 : decode cX5_pass 11 = .ok (.iconst 1, 1) := by decide +kernel
theorem dX5_pass_12 : decode cX5_pass 12 = .ok (.goto 16, 3) := by decide +kernel
theorem dX5_pass_15 : decode cX5_pass 15 = .ok (.aload_n 0, 1) := by decide +kernel
theorem dX5_pass_16 : decode cX5_pass 16 = .ok (.iload_n 1, 1) := by decide +kernel
theorem dX5_pass_17 : decode cX5_pass 17 = .ok (.invokevirtual 203, 3) := by decide +kernel
theorem dX5_pass_20 : decode cX5_pass 20 = .ok (.ifCond .eq 7, 3) := by decide +kernel
theorem dX5_pass_23 : decode cX5_pass 23 = .ok (.iconst 0, 1) := by decide +kernel
theorem dX5_pass_24 : decode cX5_pass 24 = .ok (.goto 4, 3) := by decide +kernel
theorem dX5_pass_27 : decode cX5_pass 27 = .ok (.iconst 2, 1) := by decide +kernel
theorem dX5_pass_28 : decode cX5_pass 28 = .ok (.putfield 34, 3) := by decide +kernel
theorem dX5_pass_31 : decode cX5_pass 31 = .ok (.aload_n 0, 1) := by decide +kernel
theorem dX5_pass_32 : decode cX5_pass 32 = .ok (.getfield 34, 3) := by decide +kernel
theorem dX5_pass_35 : decode cX5_pass 35 = .ok (.ifCond .le 5, 3) := by decide +kernel
theorem dX5_pass_38 : decode cX5_pass 38 = .ok (.iconst 0, 1) := by decide +kernel
theorem dX5_pass_39 : decode cX5_pass 39 = .ok (.ireturn, 1) := by decide +kernel
theorem dX5_pass_40 : decode cX5_pass 40 = .ok (.aload_n 0, 1) := by decide +kernel
theorem dX5_pass_41 : decode cX5_pass 41 = .ok (.aload_n 0, 1) := by decide +kernel
theorem dX5_pass_42 : decode cX5_pass 42 = .ok (.getfield 7, 3) := by decide +kernel
theorem dX5_pass_45 : decode cX5_pass 45 = .ok (.invokevirtual 174, 3) := by decide +kernel
theorem dX5_pass_48 : decode cX5_pass 48 = .ok (.aload_n 0, 1) := by decide +kernel
theorem dX5_pass_49 : decode cX5_pass 49 = .ok (.iload_n 1, 1) := by decide +kernel
theorem dX5_pass_50 : decode cX5_pass 50 = .ok (.invokevirtual 206, 3) := by decide +kernel
theorem dX5_pass_53 : decode cX5_pass 53 = .ok (.ireturn, 1) := by decide +kernel
theorem dX5_type_0 : decode cX5_type 0 = .ok (.aload_n 0, 1) := by decide +kernel
theorem dX5_type_1 : decode cX5_type 1 = .ok (.aload_n 0, 1) := by decide +kernel
theorem dX5_type_2 : decode cX5_type 2 = .ok (.getfield 209, 3) := by decide +kernel
theorem dX5_type_5 : decode cX5_type 5 = .ok (.bipush 80, 2) := by decide +kernel
theorem dX5_type_7 : decode cX5_type 7 = .ok (.if_icmp .ne 7, 3) := by decide +kernel
theorem dX5_type_10 : decode cX5_type 10 = .ok (.iconst 1, 1) := by decide +kernel
theorem dX5_type_11 : decode cX5_type 11 = .ok (.goto 4, 3) := by decide +kernel
theorem dX5_type_14 : decode cX5_type 14 = .ok (.iconst 0, 1) := by decide +kernel
theorem dX5_type_15 : decode cX5_type 15 = .ok (.putfield 34, 3) := by decide +kernel
theorem dX5_type_18 : decode cX5_type 18 = .ok (.aload_n 0, 1) := by decide +kernel
theorem dX5_type_19 : decode cX5_type 19 = .ok (.getfield 34, 3) := by decide +kernel
theorem dX5_type_22 : decode cX5_type 22 = .ok (.ifCond .le 5, 3) := by decide +kernel
theorem dX5_type_25 : decode cX5_type 25 = .ok (.iconst 0, 1) := by decide +kernel
theorem dX5_type_26 : decode cX5_type 26 = .ok (.ireturn, 1) := by decide +kernel
theorem dX5_type_27 : decode cX5_type 27 = .ok (.aload_n 0, 1) := by decide +kernel
theorem dX5_type_28 : decode cX5_type 28 = .ok (.getfield 28, 3) := by decide +kernel
theorem dX5_type_31 : decode cX5_type 31 = .ok (.aload_n 0, 1) := by decide +kernel
theorem dX5_type_32 : decode cX5_type 32 = .ok (.getfield 209, 3) := by decide +kernel
theorem dX5_type_35 : decode cX5_type 35 = .ok (.iload_n 1, 1) := by decide +kernel
theorem dX5_type_36 : decode cX5_type 36 = .ok (.iastore, 1) := by decide +kernel
theorem dX5_type_37 : decode cX5_type 37 = .ok (.aload_n 0, 1) := by decide +kernel
theorem dX5_type_38 : decode cX5_type 38 = .ok (.dup, 1) := by decide +kernel
theorem dX5_type_39 : decode cX5_type 39 = .ok (.getfield 209, 3) := by decide +kernel
theorem dX5_type_42 : decode cX5_type 42 = .ok (.iconst 1, 1) := by decide +kernel
theorem dX5_type_43 : decode cX5_type 43 = .ok (.iadd, 1) := by decide +kernel
theorem dX5_type_44 : decode cX5_type 44 = .ok (.putfield 209, 3) := by decide +kernel
theorem dX5_type_47 : decode cX5_type 47 = .ok (.aload_n 0, 1) := by decide +kernel
theorem dX5_type_48 : decode cX5_type 48 = .ok (.getfield 209, 3) := by decide +kernel
theorem dX5_type_51 : decode cX5_type 51 = .ok (.ireturn, 1) := by decide +kernel
theorem dX5_clearText_0 : decode cX5_clearText 0 = .ok (.aload_n 0, 1) := by decide +kernel
theorem dX5_clearText_1 : decode cX5_clearText 1 = .ok (.iconst 0, 1) := by decide +kernel
theorem dX5_clearText_2 : decode cX5_clearText 2 = .ok (.putfield 34, 3) := by decide +kernel
theorem dX5_clearText_5 : decode cX5_clearText 5 = .ok (.aload_n 0, 1) := by decide +kernel
theorem dX5_clearText_6 : decode cX5_clearText 6 = .ok (.getfield 209, 3) := by decide +kernel
theorem dX5_clearText_9 : decode cX5_clearText 9 = .ok (.istore_n 1, 1) := by decide +kernel
theorem dX5_clearText_10 : decode cX5_clearText 10 = .ok (.aload_n 0, 1) := by decide +kernel
theorem dX5_clearText_11 : decode cX5_clearText 11 = .ok (.iconst 0, 1) := by decide +kernel
theorem dX5_clearText_12 : decode cX5_clearText 12 = .ok (.putfield 209, 3) := by decide +kernel
theorem dX5_clearText_15 : decode cX5_clearText 15 = .ok (.iload_n 1, 1) := by decide +kernel
theorem dX5_clearText_16 : decode cX5_clearText 16 = .ok (.ireturn, 1) := by decide +kernel
theorem dX5_takes_0 : decode cX5_takes 0 = .ok (.aload_n 0, 1) := by decide +kernel
theorem dX5_takes_1 : decode cX5_takes 1 = .ok (.getfield 212, 3) := by decide +kernel
theorem dX5_takes_4 : decode cX5_takes 4 = .ok (.aload_n 0, 1) := by decide +kernel
theorem dX5_takes_5 : decode cX5_takes 5 = .ok (.getfield 209, 3) := by decide +kernel
theorem dX5_takes_8 : decode cX5_takes 8 = .ok (.if_icmp .ge 20, 3) := by decide +kernel
theorem dX5_takes_11 : decode cX5_takes 11 = .ok (.aload_n 0, 1) := by decide +kernel
theorem dX5_takes_12 : decode cX5_takes 12 = .ok (.getfield 28, 3) := by decide +kernel
theorem dX5_takes_15 : decode cX5_takes 15 = .ok (.aload_n 0, 1) := by decide +kernel
theorem dX5_takes_16 : decode cX5_takes 16 = .ok (.getfield 212, 3) := by decide +kernel
theorem dX5_takes_19 : decode cX5_takes 19 = .ok (.iaload, 1) := by decide +kernel
theorem dX5_takes_20 : decode cX5_takes 20 = .ok (.iload_n 1, 1) := by decide +kernel
theorem dX5_takes_21 : decode cX5_takes 21 = .ok (.if_icmp .ne 7, 3) := by decide +kernel
theorem dX5_takes_24 : decode cX5_takes 24 = .ok (.iconst 1, 1) := by decide +kernel
theorem dX5_takes_25 : decode cX5_takes 25 = .ok (.goto 4, 3) := by decide +kernel
theorem dX5_takes_28 : decode cX5_takes 28 = .ok (.iconst 0, 1) := by decide +kernel
theorem dX5_takes_29 : decode cX5_takes 29 = .ok (.istore_n 2, 1) := by decide +kernel
theorem dX5_takes_30 : decode cX5_takes 30 = .ok (.aload_n 0, 1) := by decide +kernel
theorem dX5_takes_31 : decode cX5_takes 31 = .ok (.dup, 1) := by decide +kernel
theorem dX5_takes_32 : decode cX5_takes 32 = .ok (.getfield 212, 3) := by decide +kernel
theorem dX5_takes_35 : decode cX5_takes 35 = .ok (.iload_n 2, 1) := by decide +kernel
theorem dX5_takes_36 : decode cX5_takes 36 = .ok (.ifCond .eq 7, 3) := by decide +kernel
theorem dX5_takes_39 : decode cX5_takes 39 = .ok (.iconst 1, 1) := by decide +kernel
theorem dX5_takes_40 : decode cX5_takes 40 = .ok (.goto 4, 3) := by decide +kernel
theorem dX5_takes_43 : decode cX5_takes 43 = .ok (.iconst 0, 1) := by decide +kernel
theorem dX5_takes_44 : decode cX5_takes 44 = .ok (.iadd, 1) := by decide +kernel
theorem dX5_takes_45 : decode cX5_takes 45 = .ok (.putfield 212, 3) := by decide +kernel
theorem dX5_takes_48 : decode cX5_takes 48 = .ok (.iload_n 2, 1) := by decide +kernel
theorem dX5_takes_49 : decode cX5_takes 49 = .ok (.ireturn, 1) := by decide +kernel
theorem dX5_figure_0 : decode cX5_figure 0 = .ok (.aload_n 0, 1) := by decide +kernel
theorem dX5_figure_1 : decode cX5_figure 1 = .ok (.getfield 212, 3) := by decide +kernel
theorem dX5_figure_4 : decode cX5_figure 4 = .ok (.aload_n 0, 1) := by decide +kernel
theorem dX5_figure_5 : decode cX5_figure 5 = .ok (.getfield 209, 3) := by decide +kernel
theorem dX5_figure_8 : decode cX5_figure 8 = .ok (.if_icmp .ge 37, 3) := by decide +kernel
theorem dX5_figure_11 : decode cX5_figure 11 = .ok (.aload_n 0, 1) := by decide +kernel
theorem dX5_figure_12 : decode cX5_figure 12 = .ok (.getfield 28, 3) := by decide +kernel
theorem dX5_figure_15 : decode cX5_figure 15 = .ok (.aload_n 0, 1) := by decide +kernel
theorem dX5_figure_16 : decode cX5_figure 16 = .ok (.getfield 212, 3) := by decide +kernel
theorem dX5_figure_19 : decode cX5_figure 19 = .ok (.iaload, 1) := by decide +kernel
theorem dX5_figure_20 : decode cX5_figure 20 = .ok (.bipush 48, 2) := by decide +kernel
theorem dX5_figure_22 : decode cX5_figure 22 = .ok (.bipush 57, 2) := by decide +kernel
theorem dX5_figure_24 : decode cX5_figure 24 = .ok (.invokestatic 45, 3) := by decide +kernel
theorem dX5_figure_27 : decode cX5_figure 27 = .ok (.ifCond .eq 18, 3) := by decide +kernel
theorem dX5_figure_30 : decode cX5_figure 30 = .ok (.aload_n 0, 1) := by decide +kernel
theorem dX5_figure_31 : decode cX5_figure 31 = .ok (.getfield 28, 3) := by decide +kernel
theorem dX5_figure_34 : decode cX5_figure 34 = .ok (.aload_n 0, 1) := by decide +kernel
theorem dX5_figure_35 : decode cX5_figure 35 = .ok (.getfield 212, 3) := by decide +kernel
theorem dX5_figure_38 : decode cX5_figure 38 = .ok (.iaload, 1) := by decide +kernel
theorem dX5_figure_39 : decode cX5_figure 39 = .ok (.bipush 48, 2) := by decide +kernel
theorem dX5_figure_41 : decode cX5_figure 41 = .ok (.isub, 1) := by decide +kernel
theorem dX5_figure_42 : decode cX5_figure 42 = .ok (.goto 4, 3) := by decide +kernel
theorem dX5_figure_45 : decode cX5_figure 45 = .ok (.iconst (-1), 1) := by decide +kernel
theorem dX5_figure_46 : decode cX5_figure 46 = .ok (.ireturn, 1) := by decide +kernel
theorem dX5_isTold_0 : decode cX5_isTold 0 = .ok (.aload_n 0, 1) := by decide +kernel
theorem dX5_isTold_1 : decode cX5_isTold 1 = .ok (.getfield 31, 3) := by decide +kernel
theorem dX5_isTold_4 : decode cX5_isTold 4 = .ok (.iconst 5, 1) := by decide +kernel
theorem dX5_isTold_5 : decode cX5_isTold 5 = .ok (.aload_n 0, 1) := by decide +kernel
theorem dX5_isTold_6 : decode cX5_isTold 6 = .ok (.getfield 215, 3) := by decide +kernel
theorem dX5_isTold_9 : decode cX5_isTold 9 = .ok (.imul, 1) := by decide +kernel
theorem dX5_isTold_10 : decode cX5_isTold 10 = .ok (.iload_n 1, 1) := by decide +kernel
theorem dX5_isTold_11 : decode cX5_isTold 11 = .ok (.iadd, 1) := by decide +kernel
theorem dX5_isTold_12 : decode cX5_isTold 12 = .ok (.iload_n 2, 1) := by decide +kernel
theorem dX5_isTold_13 : decode cX5_isTold 13 = .ok (.iastore, 1) := by decide +kernel
theorem dX5_isTold_14 : decode cX5_isTold 14 = .ok (.iconst 1, 1) := by decide +kernel
theorem dX5_isTold_15 : decode cX5_isTold 15 = .ok (.ireturn, 1) := by decide +kernel
theorem dX5_isNumber_0 : decode cX5_isNumber 0 = .ok (.aload_n 0, 1) := by decide +kernel
theorem dX5_isNumber_1 : decode cX5_isNumber 1 = .ok (.invokevirtual 218, 3) := by decide +kernel
theorem dX5_isNumber_4 : decode cX5_isNumber 4 = .ok (.istore 4, 2) := by decide +kernel
theorem dX5_isNumber_6 : decode cX5_isNumber 6 = .ok (.iload 4, 2) := by decide +kernel
theorem dX5_isNumber_8 : decode cX5_isNumber 8 = .ok (.iload_n 2, 1) := by decide +kernel
theorem dX5_isNumber_9 : decode cX5_isNumber 9 = .ok (.if_icmp .lt 9, 3) := by decide +kernel
theorem dX5_isNumber_12 : decode cX5_isNumber 12 = .ok (.iload 4, 2) := by decide +kernel
theorem dX5_isNumber_14 : decode cX5_isNumber 14 = .ok (.iload_n 3, 1) := by decide +kernel
theorem dX5_isNumber_15 : decode cX5_isNumber 15 = .ok (.if_icmp .le 5, 3) := by decide +kernel
theorem dX5_isNumber_18 : decode cX5_isNumber 18 = .ok (.iconst 0, 1) := by decide +kernel
theorem dX5_isNumber_19 : decode cX5_isNumber 19 = .ok (.ireturn, 1) := by decide +kernel
theorem dX5_isNumber_20 : decode cX5_isNumber 20 = .ok (.aload_n 0, 1) := by decide +kernel
theorem dX5_isNumber_21 : decode cX5_isNumber 21 = .ok (.dup, 1) := by decide +kernel
theorem dX5_isNumber_22 : decode cX5_isNumber 22 = .ok (.getfield 212, 3) := by decide +kernel
theorem dX5_isNumber_25 : decode cX5_isNumber 25 = .ok (.iconst 1, 1) := by decide +kernel
theorem dX5_isNumber_26 : decode cX5_isNumber 26 = .ok (.iadd, 1) := by decide +kernel
theorem dX5_isNumber_27 : decode cX5_isNumber 27 = .ok (.putfield 212, 3) := by decide +kernel
theorem dX5_isNumber_30 : decode cX5_isNumber 30 = .ok (.iload 4, 2) := by decide +kernel
theorem dX5_isNumber_32 : decode cX5_isNumber 32 = .ok (.ifCond .le 50, 3) := by decide +kernel
theorem dX5_isNumber_35 : decode cX5_isNumber 35 = .ok (.aload_n 0, 1) := by decide +kernel
theorem dX5_isNumber_36 : decode cX5_isNumber 36 = .ok (.invokevirtual 218, 3) := by decide +kernel
theorem dX5_isNumber_39 : decode cX5_isNumber 39 = .ok (.iconst (-1), 1) := by decide +kernel
theorem dX5_isNumber_40 : decode cX5_isNumber 40 = .ok (.if_icmp .eq 42, 3) := by decide +kernel
theorem dX5_isNumber_43 : decode cX5_isNumber 43 = .ok (.bipush 10, 2) := by decide +kernel
theorem dX5_isNumber_45 : decode cX5_isNumber 45 = .ok (.iload 4, 2) := by decide +kernel
theorem dX5_isNumber_47 : decode cX5_isNumber 47 = .ok (.imul, 1) := by decide +kernel
theorem dX5_isNumber_48 : decode cX5_isNumber 48 = .ok (.aload_n 0, 1) := by decide +kernel
theorem dX5_isNumber_49 : decode cX5_isNumber 49 = .ok (.invokevirtual 218, 3) := by decide +kernel
theorem dX5_isNumber_52 : decode cX5_isNumber 52 = .ok (.iadd, 1) := by decide +kernel
theorem dX5_isNumber_53 : decode cX5_isNumber 53 = .ok (.iload_n 3, 1) := by decide +kernel
theorem dX5_isNumber_54 : decode cX5_isNumber 54 = .ok (.if_icmp .gt 28, 3) := by decide +kernel
theorem dX5_isNumber_57 : decode cX5_isNumber 57 = .ok (.bipush 10, 2) := by decide +kernel
theorem dX5_isNumber_59 : decode cX5_isNumber 59 = .ok (.iload 4, 2) := by decide +kernel
theorem dX5_isNumber_61 : decode cX5_isNumber 61 = .ok (.imul, 1) := by decide +kernel
theorem dX5_isNumber_62 : decode cX5_isNumber 62 = .ok (.aload_n 0, 1) := by decide +kernel
theorem dX5_isNumber_63 : decode cX5_isNumber 63 = .ok (.invokevirtual 218, 3) := by decide +kernel
theorem dX5_isNumber_66 : decode cX5_isNumber 66 = .ok (.iadd, 1) := by decide +kernel
theorem dX5_isNumber_67 : decode cX5_isNumber 67 = .ok (.istore 4, 2) := by decide +kernel
theorem dX5_isNumber_69 : decode cX5_isNumber 69 = .ok (.aload_n 0, 1) := by decide +kernel
theorem dX5_isNumber_70 : decode cX5_isNumber 70 = .ok (.dup, 1) := by decide +kernel
theorem dX5_isNumber_71 : decode cX5_isNumber 71 = .ok (.getfield 212, 3) := by decide +kernel
theorem dX5_isNumber_74 : decode cX5_isNumber 74 = .ok (.iconst 1, 1) := by decide +kernel
theorem dX5_isNumber_75 : decode cX5_isNumber 75 = .ok (.iadd, 1) := by decide +kernel
theorem dX5_isNumber_76 : decode cX5_isNumber 76 = .ok (.putfield 212, 3) := by decide +kernel
theorem dX5_isNumber_79 : decode cX5_isNumber 79 = .ok (.goto (-49), 3) := by decide +kernel
theorem dX5_isNumber_82 : decode cX5_isNumber 82 = .ok (.aload_n 0, 1) := by decide +kernel
theorem dX5_isNumber_83 : decode cX5_isNumber 83 = .ok (.iload_n 1, 1) := by decide +kernel
theorem dX5_isNumber_84 : decode cX5_isNumber 84 = .ok (.iload 4, 2) := by decide +kernel
theorem dX5_isNumber_86 : decode cX5_isNumber 86 = .ok (.invokevirtual 221, 3) := by decide +kernel
theorem dX5_isNumber_89 : decode cX5_isNumber 89 = .ok (.ireturn, 1) := by decide +kernel
theorem dX5_isLetter_0 : decode cX5_isLetter 0 = .ok (.aload_n 0, 1) := by decide +kernel
theorem dX5_isLetter_1 : decode cX5_isLetter 1 = .ok (.getfield 212, 3) := by decide +kernel
theorem dX5_isLetter_4 : decode cX5_isLetter 4 = .ok (.aload_n 0, 1) := by decide +kernel
theorem dX5_isLetter_5 : decode cX5_isLetter 5 = .ok (.getfield 209, 3) := by decide +kernel
theorem dX5_isLetter_8 : decode cX5_isLetter 8 = .ok (.if_icmp .ge 15, 3) := by decide +kernel
theorem dX5_isLetter_11 : decode cX5_isLetter 11 = .ok (.aload_n 0, 1) := by decide +kernel
theorem dX5_isLetter_12 : decode cX5_isLetter 12 = .ok (.getfield 28, 3) := by decide +kernel
theorem dX5_isLetter_15 : decode cX5_isLetter 15 = .ok (.aload_n 0, 1) := by decide +kernel
theorem dX5_isLetter_16 : decode cX5_isLetter 16 = .ok (.getfield 212, 3) := by decide +kernel
theorem dX5_isLetter_19 : decode cX5_isLetter 19 = .ok (.iaload, 1) := by decide +kernel
theorem dX5_isLetter_20 : decode cX5_isLetter 20 = .ok (.goto 4, 3) := by decide +kernel
theorem dX5_isLetter_23 : decode cX5_isLetter 23 = .ok (.iconst 0, 1) := by decide +kernel
theorem dX5_isLetter_24 : decode cX5_isLetter 24 = .ok (.istore_n 2, 1) := by decide +kernel
theorem dX5_isLetter_25 : decode cX5_isLetter 25 = .ok (.iload_n 2, 1) := by decide +kernel
theorem dX5_isLetter_26 : decode cX5_isLetter 26 = .ok (.bipush 104, 2) := by decide +kernel
theorem dX5_isLetter_28 : decode cX5_isLetter 28 = .ok (.if_icmp .ne 7, 3) := by decide +kernel
theorem dX5_isLetter_31 : decode cX5_isLetter 31 = .ok (.iconst 0, 1) := by decide +kernel
theorem dX5_isLetter_32 : decode cX5_isLetter 32 = .ok (.goto 44, 3) := by decide +kernel
theorem dX5_isLetter_35 : decode cX5_isLetter 35 = .ok (.iload_n 2, 1) := by decide +kernel
theorem dX5_isLetter_36 : decode cX5_isLetter 36 = .ok (.bipush 100, 2) := by decide +kernel
theorem dX5_isLetter_38 : decode cX5_isLetter 38 = .ok (.if_icmp .ne 7, 3) := by decide +kernel
theorem dX5_isLetter_41 : decode cX5_isLetter 41 = .ok (.iconst 1, 1) := by decide +kernel
theorem dX5_isLetter_42 : decode cX5_isLetter 42 = .ok (.goto 34, 3) := by decide +kernel
theorem dX5_isLetter_45 : decode cX5_isLetter 45 = .ok (.iload_n 2, 1) := by decide +kernel
theorem dX5_isLetter_46 : decode cX5_isLetter 46 = .ok (.bipush 99, 2) := by decide +kernel
theorem dX5_isLetter_48 : decode cX5_isLetter 48 = .ok (.if_icmp .ne 7, 3) := by decide +kernel
theorem dX5_isLetter_51 : decode cX5_isLetter 51 = .ok (.iconst 2, 1) := by decide +kernel
theorem dX5_isLetter_52 : decode cX5_isLetter 52 = .ok (.goto 24, 3) := by decide +kernel
theorem dX5_isLetter_55 : decode cX5_isLetter 55 = .ok (.iload_n 2, 1) := by decide +kernel
theorem dX5_isLetter_56 : decode cX5_isLetter 56 = .ok (.bipush 108, 2) := by decide +kernel
theorem dX5_isLetter_58 : decode cX5_isLetter 58 = .ok (.if_icmp .ne 7, 3) := by decide +kernel
theorem dX5_isLetter_61 : decode cX5_isLetter 61 = .ok (.iconst 3, 1) := by decide +kernel
theorem dX5_isLetter_62 : decode cX5_isLetter 62 = .ok (.goto 14, 3) := by decide +kernel
theorem dX5_isLetter_65 : decode cX5_isLetter 65 = .ok (.iload_n 2, 1) := by decide +kernel
theorem dX5_isLetter_66 : decode cX5_isLetter 66 = .ok (.bipush 116, 2) := by decide +kernel
theorem dX5_isLetter_68 : decode cX5_isLetter 68 = .ok (.if_icmp .ne 7, 3) := by decide +kernel
theorem dX5_isLetter_71 : decode cX5_isLetter 71 = .ok (.iconst 4, 1) := by decide +kernel
theorem dX5_isLetter_72 : decode cX5_isLetter 72 = .ok (.goto 4, 3) := by decide +kernel
theorem dX5_isLetter_75 : decode cX5_isLetter 75 = .ok (.iconst (-1), 1) := by decide +kernel
theorem dX5_isLetter_76 : decode cX5_isLetter 76 = .ok (.istore_n 3, 1) := by decide +kernel
theorem dX5_isLetter_77 : decode cX5_isLetter 77 = .ok (.aload_n 0, 1) := by decide +kernel
theorem dX5_isLetter_78 : decode cX5_isLetter 78 = .ok (.dup, 1) := by decide +kernel
theorem dX5_isLetter_79 : decode cX5_isLetter 79 = .ok (.getfield 212, 3) := by decide +kernel
theorem dX5_isLetter_82 : decode cX5_isLetter 82 = .ok (.iload_n 3, 1) := by decide +kernel
theorem dX5_isLetter_83 : decode cX5_isLetter 83 = .ok (.iconst (-1), 1) := by decide +kernel
theorem dX5_isLetter_84 : decode cX5_isLetter 84 = .ok (.if_icmp .ne 7, 3) := by decide +kernel
theorem dX5_isLetter_87 : decode cX5_isLetter 87 = .ok (.iconst 0, 1) := by decide +kernel
theorem dX5_isLetter_88 : decode cX5_isLetter 88 = .ok (.goto 4, 3) := by decide +kernel
theorem dX5_isLetter_91 : decode cX5_isLetter 91 = .ok (.iconst 1, 1) := by decide +kernel
theorem dX5_isLetter_92 : decode cX5_isLetter 92 = .ok (.iadd, 1) := by decide +kernel
theorem dX5_isLetter_93 : decode cX5_isLetter 93 = .ok (.putfield 212, 3) := by decide +kernel
theorem dX5_isLetter_96 : decode cX5_isLetter 96 = .ok (.iload_n 3, 1) := by decide +kernel
theorem dX5_isLetter_97 : decode cX5_isLetter 97 = .ok (.iconst (-1), 1) := by decide +kernel
theorem dX5_isLetter_98 : decode cX5_isLetter 98 = .ok (.if_icmp .eq 16, 3) := by decide +kernel
theorem dX5_isLetter_101 : decode cX5_isLetter 101 = .ok (.aload_n 0, 1) := by decide +kernel
theorem dX5_isLetter_102 : decode cX5_isLetter 102 = .ok (.iload_n 1, 1) := by decide +kernel
theorem dX5_isLetter_103 : decode cX5_isLetter 103 = .ok (.iload_n 3, 1) := by decide +kernel
theorem dX5_isLetter_104 : decode cX5_isLetter 104 = .ok (.invokevirtual 221, 3) := by decide +kernel
theorem dX5_isLetter_107 : decode cX5_isLetter 107 = .ok (.ifCond .eq 7, 3) := by decide +kernel
theorem dX5_isLetter_110 : decode cX5_isLetter 110 = .ok (.iconst 1, 1) := by decide +kernel
theorem dX5_isLetter_111 : decode cX5_isLetter 111 = .ok (.goto 4, 3) := by decide +kernel
theorem dX5_isLetter_114 : decode cX5_isLetter 114 = .ok (.iconst 0, 1) := by decide +kernel
theorem dX5_isLetter_115 : decode cX5_isLetter 115 = .ok (.ireturn, 1) := by decide +kernel
theorem dX5_isOrder_0 : decode cX5_isOrder 0 = .ok (.aload_n 0, 1) := by decide +kernel
theorem dX5_isOrder_1 : decode cX5_isOrder 1 = .ok (.getfield 212, 3) := by decide +kernel
theorem dX5_isOrder_4 : decode cX5_isOrder 4 = .ok (.aload_n 0, 1) := by decide +kernel
theorem dX5_isOrder_5 : decode cX5_isOrder 5 = .ok (.getfield 209, 3) := by decide +kernel
theorem dX5_isOrder_8 : decode cX5_isOrder 8 = .ok (.if_icmp .ne 5, 3) := by decide +kernel
theorem dX5_isOrder_11 : decode cX5_isOrder 11 = .ok (.iconst 0, 1) := by decide +kernel
theorem dX5_isOrder_12 : decode cX5_isOrder 12 = .ok (.ireturn, 1) := by decide +kernel
theorem dX5_isOrder_13 : decode cX5_isOrder 13 = .ok (.aload_n 0, 1) := by decide +kernel
theorem dX5_isOrder_14 : decode cX5_isOrder 14 = .ok (.getfield 28, 3) := by decide +kernel
theorem dX5_isOrder_17 : decode cX5_isOrder 17 = .ok (.aload_n 0, 1) := by decide +kernel
theorem dX5_isOrder_18 : decode cX5_isOrder 18 = .ok (.getfield 212, 3) := by decide +kernel
theorem dX5_isOrder_21 : decode cX5_isOrder 21 = .ok (.iaload, 1) := by decide +kernel
theorem dX5_isOrder_22 : decode cX5_isOrder 22 = .ok (.istore_n 1, 1) := by decide +kernel
theorem dX5_isOrder_23 : decode cX5_isOrder 23 = .ok (.aload_n 0, 1) := by decide +kernel
theorem dX5_isOrder_24 : decode cX5_isOrder 24 = .ok (.getfield 31, 3) := by decide +kernel
theorem dX5_isOrder_27 : decode cX5_isOrder 27 = .ok (.iconst 5, 1) := by decide +kernel
theorem dX5_isOrder_28 : decode cX5_isOrder 28 = .ok (.aload_n 0, 1) := by decide +kernel
theorem dX5_isOrder_29 : decode cX5_isOrder 29 = .ok (.getfield 215, 3) := by decide +kernel
theorem dX5_isOrder_32 : decode cX5_isOrder 32 = .ok (.imul, 1) := by decide +kernel
theorem dX5_isOrder_33 : decode cX5_isOrder 33 = .ok (.iload_n 1, 1) := by decide +kernel
theorem dX5_isOrder_34 : decode cX5_isOrder 34 = .ok (.iastore, 1) := by decide +kernel
theorem dX5_isOrder_35 : decode cX5_isOrder 35 = .ok (.aload_n 0, 1) := by decide +kernel
theorem dX5_isOrder_36 : decode cX5_isOrder 36 = .ok (.dup, 1) := by decide +kernel
theorem dX5_isOrder_37 : decode cX5_isOrder 37 = .ok (.getfield 212, 3) := by decide +kernel
theorem dX5_isOrder_40 : decode cX5_isOrder 40 = .ok (.iconst 1, 1) := by decide +kernel
theorem dX5_isOrder_41 : decode cX5_isOrder 41 = .ok (.iadd, 1) := by decide +kernel
theorem dX5_isOrder_42 : decode cX5_isOrder 42 = .ok (.putfield 212, 3) := by decide +kernel
theorem dX5_isOrder_45 : decode cX5_isOrder 45 = .ok (.iload_n 1, 1) := by decide +kernel
theorem dX5_isOrder_46 : decode cX5_isOrder 46 = .ok (.lookupswitch 298 #[(98, 58), (99, 217), (102, 181), (112, 289), (114, 116), (119, 252)], 58) := by decide +kernel
theorem dX5_isOrder_104 : decode cX5_isOrder 104 = .ok (.aload_n 0, 1) := by decide +kernel
theorem dX5_isOrder_105 : decode cX5_isOrder 105 = .ok (.iconst 1, 1) := by decide +kernel
theorem dX5_isOrder_106 : decode cX5_isOrder 106 = .ok (.iconst 0, 1) := by decide +kernel
theorem dX5_isOrder_107 : decode cX5_isOrder 107 = .ok (.bipush 11, 2) := by decide +kernel
theorem dX5_isOrder_109 : decode cX5_isOrder 109 = .ok (.invokevirtual 224, 3) := by decide +kernel
theorem dX5_isOrder_112 : decode cX5_isOrder 112 = .ok (.ifCond .eq 48, 3) := by decide +kernel
theorem dX5_isOrder_115 : decode cX5_isOrder 115 = .ok (.aload_n 0, 1) := by decide +kernel
theorem dX5_isOrder_116 : decode cX5_isOrder 116 = .ok (.iconst 2, 1) := by decide +kernel
theorem dX5_isOrder_117 : decode cX5_isOrder 117 = .ok (.invokevirtual 227, 3) := by decide +kernel
theorem dX5_isOrder_120 : decode cX5_isOrder 120 = .ok (.ifCond .eq 40, 3) := by decide +kernel
theorem dX5_isOrder_123 : decode cX5_isOrder 123 = .ok (.aload_n 0, 1) := by decide +kernel
theorem dX5_isOrder_124 : decode cX5_isOrder 124 = .ok (.iconst 3, 1) := by decide +kernel
theorem dX5_isOrder_125 : decode cX5_isOrder 125 = .ok (.iconst 1, 1) := by decide +kernel
theorem dX5_isOrder_126 : decode cX5_isOrder 126 = .ok (.bipush 9, 2) := by decide +kernel
theorem dX5_isOrder_128 : decode cX5_isOrder 128 = .ok (.invokevirtual 224, 3) := by decide +kernel
theorem dX5_isOrder_131 : decode cX5_isOrder 131 = .ok (.ifCond .eq 29, 3) := by decide +kernel
theorem dX5_isOrder_134 : decode cX5_isOrder 134 = .ok (.aload_n 0, 1) := by decide +kernel
theorem dX5_isOrder_135 : decode cX5_isOrder 135 = .ok (.iconst 4, 1) := by decide +kernel
theorem dX5_isOrder_136 : decode cX5_isOrder 136 = .ok (.aload_n 0, 1) := by decide +kernel
theorem dX5_isOrder_137 : decode cX5_isOrder 137 = .ok (.bipush 94, 2) := by decide +kernel
theorem dX5_isOrder_139 : decode cX5_isOrder 139 = .ok (.invokevirtual 230, 3) := by decide +kernel
theorem dX5_isOrder_142 : decode cX5_isOrder 142 = .ok (.ifCond .eq 7, 3) := by decide +kernel
theorem dX5_isOrder_145 : decode cX5_isOrder 145 = .ok (.iconst 1, 1) := by decide +kernel
theorem dX5_isOrder_146 : decode cX5_isOrder 146 = .ok (.goto 4, 3) := by decide +kernel
theorem dX5_isOrder_149 : decode cX5_isOrder 149 = .ok (.iconst 0, 1) := by decide +kernel
theorem dX5_isOrder_150 : decode cX5_isOrder 150 = .ok (.invokevirtual 221, 3) := by decide +kernel
theorem dX5_isOrder_153 : decode cX5_isOrder 153 = .ok (.ifCond .eq 7, 3) := by decide +kernel
theorem dX5_isOrder_156 : decode cX5_isOrder 156 = .ok (.iconst 1, 1) := by decide +kernel
theorem dX5_isOrder_157 : decode cX5_isOrder 157 = .ok (.goto 4, 3) := by decide +kernel
theorem dX5_isOrder_160 : decode cX5_isOrder 160 = .ok (.iconst 0, 1) := by decide +kernel
theorem dX5_isOrder_161 : decode cX5_isOrder 161 = .ok (.ireturn, 1) := by decide +kernel
theorem dX5_isOrder_162 : decode cX5_isOrder 162 = .ok (.aload_n 0, 1) := by decide +kernel
theorem dX5_isOrder_163 : decode cX5_isOrder 163 = .ok (.iconst 1, 1) := by decide +kernel
theorem dX5_isOrder_164 : decode cX5_isOrder 164 = .ok (.iconst 0, 1) := by decide +kernel
theorem dX5_isOrder_165 : decode cX5_isOrder 165 = .ok (.iconst 5, 1) := by decide +kernel
theorem dX5_isOrder_166 : decode cX5_isOrder 166 = .ok (.invokevirtual 224, 3) := by decide +kernel
theorem dX5_isOrder_169 : decode cX5_isOrder 169 = .ok (.ifCond .eq 56, 3) := by decide +kernel
theorem dX5_isOrder_172 : decode cX5_isOrder 172 = .ok (.aload_n 0, 1) := by decide +kernel
theorem dX5_isOrder_173 : decode cX5_isOrder 173 = .ok (.bipush 58, 2) := by decide +kernel
theorem dX5_isOrder_175 : decode cX5_isOrder 175 = .ok (.invokevirtual 230, 3) := by decide +kernel
theorem dX5_isOrder_178 : decode cX5_isOrder 178 = .ok (.ifCond .eq 47, 3) := by decide +kernel
theorem dX5_isOrder_181 : decode cX5_isOrder 181 = .ok (.aload_n 0, 1) := by decide +kernel
theorem dX5_isOrder_182 : decode cX5_isOrder 182 = .ok (.iconst 2, 1) := by decide +kernel
theorem dX5_isOrder_183 : decode cX5_isOrder 183 = .ok (.iconst 0, 1) := by decide +kernel
theorem dX5_isOrder_184 : decode cX5_isOrder 184 = .ok (.iconst 3, 1) := by decide +kernel
theorem dX5_isOrder_185 : decode cX5_isOrder 185 = .ok (.invokevirtual 224, 3) := by decide +kernel
theorem dX5_isOrder_188 : decode cX5_isOrder 188 = .ok (.ifCond .eq 37, 3) := by decide +kernel
theorem dX5_isOrder_191 : decode cX5_isOrder 191 = .ok (.aload_n 0, 1) := by decide +kernel
theorem dX5_isOrder_192 : decode cX5_isOrder 192 = .ok (.iconst 3, 1) := by decide +kernel
theorem dX5_isOrder_193 : decode cX5_isOrder 193 = .ok (.iconst 0, 1) := by decide +kernel
theorem dX5_isOrder_194 : decode cX5_isOrder 194 = .ok (.iconst 3, 1) := by decide +kernel
theorem dX5_isOrder_195 : decode cX5_isOrder 195 = .ok (.invokevirtual 224, 3) := by decide +kernel
theorem dX5_isOrder_198 : decode cX5_isOrder 198 = .ok (.ifCond .eq 27, 3) := by decide +kernel
theorem dX5_isOrder_201 : decode cX5_isOrder 201 = .ok (.aload_n 0, 1) := by decide +kernel
theorem dX5_isOrder_202 : decode cX5_isOrder 202 = .ok (.bipush 42, 2) := by decide +kernel
theorem dX5_isOrder_204 : decode cX5_isOrder 204 = .ok (.invokevirtual 230, 3) := by decide +kernel
theorem dX5_isOrder_207 : decode cX5_isOrder 207 = .ok (.ifCond .eq 18, 3) := by decide +kernel
theorem dX5_isOrder_210 : decode cX5_isOrder 210 = .ok (.aload_n 0, 1) := by decide +kernel
theorem dX5_isOrder_211 : decode cX5_isOrder 211 = .ok (.iconst 4, 1) := by decide +kernel
theorem dX5_isOrder_212 : decode cX5_isOrder 212 = .ok (.iconst 1, 1) := by decide +kernel
theorem dX5_isOrder_213 : decode cX5_isOrder 213 = .ok (.bipush 40, 2) := by decide +kernel
theorem dX5_isOrder_215 : decode cX5_isOrder 215 = .ok (.invokevirtual 224, 3) := by decide +kernel
theorem dX5_isOrder_218 : decode cX5_isOrder 218 = .ok (.ifCond .eq 7, 3) := by decide +kernel
theorem dX5_isOrder_221 : decode cX5_isOrder 221 = .ok (.iconst 1, 1) := by decide +kernel
theorem dX5_isOrder_222 : decode cX5_isOrder 222 = .ok (.goto 4, 3) := by decide +kernel
theorem dX5_isOrder_225 : decode cX5_isOrder 225 = .ok (.iconst 0, 1) := by decide +kernel
theorem dX5_isOrder_226 : decode cX5_isOrder 226 = .ok (.ireturn, 1) := by decide +kernel
theorem dX5_isOrder_227 : decode cX5_isOrder 227 = .ok (.aload_n 0, 1) := by decide +kernel
theorem dX5_isOrder_228 : decode cX5_isOrder 228 = .ok (.iconst 1, 1) := by decide +kernel
theorem dX5_isOrder_229 : decode cX5_isOrder 229 = .ok (.iconst 0, 1) := by decide +kernel
theorem dX5_isOrder_230 : decode cX5_isOrder 230 = .ok (.iconst 5, 1) := by decide +kernel
theorem dX5_isOrder_231 : decode cX5_isOrder 231 = .ok (.invokevirtual 224, 3) := by decide +kernel
theorem dX5_isOrder_234 : decode cX5_isOrder 234 = .ok (.ifCond .eq 27, 3) := by decide +kernel
theorem dX5_isOrder_237 : decode cX5_isOrder 237 = .ok (.aload_n 0, 1) := by decide +kernel
theorem dX5_isOrder_238 : decode cX5_isOrder 238 = .ok (.bipush 43, 2) := by decide +kernel
theorem dX5_isOrder_240 : decode cX5_isOrder 240 = .ok (.invokevirtual 230, 3) := by decide +kernel
theorem dX5_isOrder_243 : decode cX5_isOrder 243 = .ok (.ifCond .eq 18, 3) := by decide +kernel
theorem dX5_isOrder_246 : decode cX5_isOrder 246 = .ok (.aload_n 0, 1) := by decide +kernel
theorem dX5_isOrder_247 : decode cX5_isOrder 247 = .ok (.iconst 2, 1) := by decide +kernel
theorem dX5_isOrder_248 : decode cX5_isOrder 248 = .ok (.iconst 1, 1) := by decide +kernel
theorem dX5_isOrder_249 : decode cX5_isOrder 249 = .ok (.bipush 99, 2) := by decide +kernel
theorem dX5_isOrder_251 : decode cX5_isOrder 251 = .ok (.invokevirtual 224, 3) := by decide +kernel
theorem dX5_isOrder_254 : decode cX5_isOrder 254 = .ok (.ifCond .eq 7, 3) := by decide +kernel
theorem dX5_isOrder_257 : decode cX5_isOrder 257 = .ok (.iconst 1, 1) := by decide +kernel
theorem dX5_isOrder_258 : decode cX5_isOrder 258 = .ok (.goto 4, 3) := by decide +kernel
theorem dX5_isOrder_261 : decode cX5_isOrder 261 = .ok (.iconst 0, 1) := by decide +kernel
theorem dX5_isOrder_262 : decode cX5_isOrder 262 = .ok (.ireturn, 1) := by decide +kernel
theorem dX5_isOrder_263 : decode cX5_isOrder 263 = .ok (.aload_n 0, 1) := by decide +kernel
theorem dX5_isOrder_264 : decode cX5_isOrder 264 = .ok (.iconst 1, 1) := by decide +kernel
theorem dX5_isOrder_265 : decode cX5_isOrder 265 = .ok (.iconst 0, 1) := by decide +kernel
theorem dX5_isOrder_266 : decode cX5_isOrder 266 = .ok (.bipush 99, 2) := by decide +kernel
theorem dX5_isOrder_268 : decode cX5_isOrder 268 = .ok (.invokevirtual 224, 3) := by decide +kernel
theorem dX5_isOrder_271 : decode cX5_isOrder 271 = .ok (.ifCond .eq 25, 3) := by decide +kernel
theorem dX5_isOrder_274 : decode cX5_isOrder 274 = .ok (.aload_n 0, 1) := by decide +kernel
theorem dX5_isOrder_275 : decode cX5_isOrder 275 = .ok (.iconst 2, 1) := by decide +kernel
theorem dX5_isOrder_276 : decode cX5_isOrder 276 = .ok (.invokevirtual 227, 3) := by decide +kernel
theorem dX5_isOrder_279 : decode cX5_isOrder 279 = .ok (.ifCond .eq 17, 3) := by decide +kernel
theorem dX5_isOrder_282 : decode cX5_isOrder 282 = .ok (.aload_n 0, 1) := by decide +kernel
theorem dX5_isOrder_283 : decode cX5_isOrder 283 = .ok (.iconst 3, 1) := by decide +kernel
theorem dX5_isOrder_284 : decode cX5_isOrder 284 = .ok (.iconst 0, 1) := by decide +kernel
theorem dX5_isOrder_285 : decode cX5_isOrder 285 = .ok (.iconst 3, 1) := by decide +kernel
theorem dX5_isOrder_286 : decode cX5_isOrder 286 = .ok (.invokevirtual 224, 3) := by decide +kernel
theorem dX5_isOrder_289 : decode cX5_isOrder 289 = .ok (.ifCond .eq 7, 3) := by decide +kernel
theorem dX5_isOrder_292 : decode cX5_isOrder 292 = .ok (.iconst 1, 1) := by decide +kernel
theorem dX5_isOrder_293 : decode cX5_isOrder 293 = .ok (.goto 4, 3) := by decide +kernel
theorem dX5_isOrder_296 : decode cX5_isOrder 296 = .ok (.iconst 0, 1) := by decide +kernel
theorem dX5_isOrder_297 : decode cX5_isOrder 297 = .ok (.ireturn, 1) := by decide +kernel
theorem dX5_isOrder_298 : decode cX5_isOrder 298 = .ok (.aload_n 0, 1) := by decide +kernel
theorem dX5_isOrder_299 : decode cX5_isOrder 299 = .ok (.iconst 1, 1) := by decide +kernel
theorem dX5_isOrder_300 : decode cX5_isOrder 300 = .ok (.iconst 0, 1) := by decide +kernel
theorem dX5_isOrder_301 : decode cX5_isOrder 301 = .ok (.bipush 9, 2) := by decide +kernel
theorem dX5_isOrder_303 : decode cX5_isOrder 303 = .ok (.invokevirtual 224, 3) := by decide +kernel
theorem dX5_isOrder_306 : decode cX5_isOrder 306 = .ok (.ifCond .eq 27, 3) := by decide +kernel
theorem dX5_isOrder_309 : decode cX5_isOrder 309 = .ok (.aload_n 0, 1) := by decide +kernel
theorem dX5_isOrder_310 : decode cX5_isOrder 310 = .ok (.bipush 61, 2) := by decide +kernel
theorem dX5_isOrder_312 : decode cX5_isOrder 312 = .ok (.invokevirtual 230, 3) := by decide +kernel
theorem dX5_isOrder_315 : decode cX5_isOrder 315 = .ok (.ifCond .eq 18, 3) := by decide +kernel
theorem dX5_isOrder_318 : decode cX5_isOrder 318 = .ok (.aload_n 0, 1) := by decide +kernel
theorem dX5_isOrder_319 : decode cX5_isOrder 319 = .ok (.iconst 2, 1) := by decide +kernel
theorem dX5_isOrder_320 : decode cX5_isOrder 320 = .ok (.iconst 0, 1) := by decide +kernel
theorem dX5_isOrder_321 : decode cX5_isOrder 321 = .ok (.bipush 9, 2) := by decide +kernel
theorem dX5_isOrder_323 : decode cX5_isOrder 323 = .ok (.invokevirtual 224, 3) := by decide +kernel
theorem dX5_isOrder_326 : decode cX5_isOrder 326 = .ok (.ifCond .eq 7, 3) := by decide +kernel
theorem dX5_isOrder_329 : decode cX5_isOrder 329 = .ok (.iconst 1, 1) := by decide +kernel
theorem dX5_isOrder_330 : decode cX5_isOrder 330 = .ok (.goto 4, 3) := by decide +kernel
theorem dX5_isOrder_333 : decode cX5_isOrder 333 = .ok (.iconst 0, 1) := by decide +kernel
theorem dX5_isOrder_334 : decode cX5_isOrder 334 = .ok (.ireturn, 1) := by decide +kernel
theorem dX5_isOrder_335 : decode cX5_isOrder 335 = .ok (.aload_n 0, 1) := by decide +kernel
theorem dX5_isOrder_336 : decode cX5_isOrder 336 = .ok (.iconst 1, 1) := by decide +kernel
theorem dX5_isOrder_337 : decode cX5_isOrder 337 = .ok (.iconst 1, 1) := by decide +kernel
theorem dX5_isOrder_338 : decode cX5_isOrder 338 = .ok (.bipush 40, 2) := by decide +kernel
theorem dX5_isOrder_340 : decode cX5_isOrder 340 = .ok (.invokevirtual 224, 3) := by decide +kernel
theorem dX5_isOrder_343 : decode cX5_isOrder 343 = .ok (.ireturn, 1) := by decide +kernel
theorem dX5_isOrder_344 : decode cX5_isOrder 344 = .ok (.aload_n 0, 1) := by decide +kernel
theorem dX5_isOrder_345 : decode cX5_isOrder 345 = .ok (.dup, 1) := by decide +kernel
theorem dX5_isOrder_346 : decode cX5_isOrder 346 = .ok (.getfield 212, 3) := by decide +kernel
theorem dX5_isOrder_349 : decode cX5_isOrder 349 = .ok (.iconst 1, 1) := by decide +kernel
theorem dX5_isOrder_350 : decode cX5_isOrder 350 = .ok (.isub, 1) := by decide +kernel
theorem dX5_isOrder_351 : decode cX5_isOrder 351 = .ok (.putfield 212, 3) := by decide +kernel
theorem dX5_isOrder_354 : decode cX5_isOrder 354 = .ok (.iconst 0, 1) := by decide +kernel
theorem dX5_isOrder_355 : decode cX5_isOrder 355 = .ok (.ireturn, 1) := by decide +kernel
theorem dX5_isWhole_0 : decode cX5_isWhole 0 = .ok (.aload_n 0, 1) := by decide +kernel
theorem dX5_isWhole_1 : decode cX5_isWhole 1 = .ok (.iconst 0, 1) := by decide +kernel
theorem dX5_isWhole_2 : decode cX5_isWhole 2 = .ok (.putfield 212, 3) := by decide +kernel
theorem dX5_isWhole_5 : decode cX5_isWhole 5 = .ok (.aload_n 0, 1) := by decide +kernel
theorem dX5_isWhole_6 : decode cX5_isWhole 6 = .ok (.iconst 0, 1) := by decide +kernel
theorem dX5_isWhole_7 : decode cX5_isWhole 7 = .ok (.putfield 215, 3) := by decide +kernel
theorem dX5_isWhole_10 : decode cX5_isWhole 10 = .ok (.iconst 1, 1) := by decide +kernel
theorem dX5_isWhole_11 : decode cX5_isWhole 11 = .ok (.istore_n 1, 1) := by decide +kernel
theorem dX5_isWhole_12 : decode cX5_isWhole 12 = .ok (.iload_n 1, 1) := by decide +kernel
theorem dX5_isWhole_13 : decode cX5_isWhole 13 = .ok (.ifCond .eq 32, 3) := by decide +kernel
theorem dX5_isWhole_16 : decode cX5_isWhole 16 = .ok (.aload_n 0, 1) := by decide +kernel
theorem dX5_isWhole_17 : decode cX5_isWhole 17 = .ok (.invokevirtual 233, 3) := by decide +kernel
theorem dX5_isWhole_20 : decode cX5_isWhole 20 = .ok (.ifCond .ne 5, 3) := by decide +kernel
theorem dX5_isWhole_23 : decode cX5_isWhole 23 = .ok (.iconst 0, 1) := by decide +kernel
theorem dX5_isWhole_24 : decode cX5_isWhole 24 = .ok (.ireturn, 1) := by decide +kernel
theorem dX5_isWhole_25 : decode cX5_isWhole 25 = .ok (.aload_n 0, 1) := by decide +kernel
theorem dX5_isWhole_26 : decode cX5_isWhole 26 = .ok (.dup, 1) := by decide +kernel
theorem dX5_isWhole_27 : decode cX5_isWhole 27 = .ok (.getfield 215, 3) := by decide +kernel
theorem dX5_isWhole_30 : decode cX5_isWhole 30 = .ok (.iconst 1, 1) := by decide +kernel
theorem dX5_isWhole_31 : decode cX5_isWhole 31 = .ok (.iadd, 1) := by decide +kernel
theorem dX5_isWhole_32 : decode cX5_isWhole 32 = .ok (.putfield 215, 3) := by decide +kernel
theorem dX5_isWhole_35 : decode cX5_isWhole 35 = .ok (.aload_n 0, 1) := by decide +kernel
theorem dX5_isWhole_36 : decode cX5_isWhole 36 = .ok (.bipush 59, 2) := by decide +kernel
theorem dX5_isWhole_38 : decode cX5_isWhole 38 = .ok (.invokevirtual 230, 3) := by decide +kernel
theorem dX5_isWhole_41 : decode cX5_isWhole 41 = .ok (.istore_n 1, 1) := by decide +kernel
theorem dX5_isWhole_42 : decode cX5_isWhole 42 = .ok (.goto (-30), 3) := by decide +kernel
theorem dX5_isWhole_45 : decode cX5_isWhole 45 = .ok (.aload_n 0, 1) := by decide +kernel
theorem dX5_isWhole_46 : decode cX5_isWhole 46 = .ok (.getfield 212, 3) := by decide +kernel
theorem dX5_isWhole_49 : decode cX5_isWhole 49 = .ok (.aload_n 0, 1) := by decide +kernel
theorem dX5_isWhole_50 : decode cX5_isWhole 50 = .ok (.getfield 209, 3) := by decide +kernel
theorem dX5_isWhole_53 : decode cX5_isWhole 53 = .ok (.if_icmp .ne 7, 3) := by decide +kernel
theorem dX5_isWhole_56 : decode cX5_isWhole 56 = .ok (.iconst 1, 1) := by decide +kernel
theorem dX5_isWhole_57 : decode cX5_isWhole 57 = .ok (.goto 4, 3) := by decide +kernel
theorem dX5_isWhole_60 : decode cX5_isWhole 60 = .ok (.iconst 0, 1) := by decide +kernel
theorem dX5_isWhole_61 : decode cX5_isWhole 61 = .ok (.ireturn, 1) := by decide +kernel
theorem dX5_textError_0 : decode cX5_textError 0 = .ok (.aload_n 0, 1) := by decide +kernel
theorem dX5_textError_1 : decode cX5_textError 1 = .ok (.iconst 0, 1) := by decide +kernel
theorem dX5_textError_2 : decode cX5_textError 2 = .ok (.putfield 34, 3) := by decide +kernel
theorem dX5_textError_5 : decode cX5_textError 5 = .ok (.aload_n 0, 1) := by decide +kernel
theorem dX5_textError_6 : decode cX5_textError 6 = .ok (.invokevirtual 236, 3) := by decide +kernel
theorem dX5_textError_9 : decode cX5_textError 9 = .ok (.ifCond .eq 7, 3) := by decide +kernel
theorem dX5_textError_12 : decode cX5_textError 12 = .ok (.iconst (-1), 1) := by decide +kernel
theorem dX5_textError_13 : decode cX5_textError 13 = .ok (.goto 7, 3) := by decide +kernel
theorem dX5_textError_16 : decode cX5_textError 16 = .ok (.aload_n 0, 1) := by decide +kernel
theorem dX5_textError_17 : decode cX5_textError 17 = .ok (.getfield 212, 3) := by decide +kernel
theorem dX5_textError_20 : decode cX5_textError 20 = .ok (.ireturn, 1) := by decide +kernel
theorem dX5_isDone_0 : decode cX5_isDone 0 = .ok (.aload_n 0, 1) := by decide +kernel
theorem dX5_isDone_1 : decode cX5_isDone 1 = .ok (.getfield 31, 3) := by decide +kernel
theorem dX5_isDone_4 : decode cX5_isDone 4 = .ok (.iconst 5, 1) := by decide +kernel
theorem dX5_isDone_5 : decode cX5_isDone 5 = .ok (.iload_n 1, 1) := by decide +kernel
theorem dX5_isDone_6 : decode cX5_isDone 6 = .ok (.imul, 1) := by decide +kernel
theorem dX5_isDone_7 : decode cX5_isDone 7 = .ok (.iconst 1, 1) := by decide +kernel
theorem dX5_isDone_8 : decode cX5_isDone 8 = .ok (.iadd, 1) := by decide +kernel
theorem dX5_isDone_9 : decode cX5_isDone 9 = .ok (.iaload, 1) := by decide +kernel
theorem dX5_isDone_10 : decode cX5_isDone 10 = .ok (.istore_n 2, 1) := by decide +kernel
theorem dX5_isDone_11 : decode cX5_isDone 11 = .ok (.aload_n 0, 1) := by decide +kernel
theorem dX5_isDone_12 : decode cX5_isDone 12 = .ok (.getfield 31, 3) := by decide +kernel
theorem dX5_isDone_15 : decode cX5_isDone 15 = .ok (.iconst 5, 1) := by decide +kernel
theorem dX5_isDone_16 : decode cX5_isDone 16 = .ok (.iload_n 1, 1) := by decide +kernel
theorem dX5_isDone_17 : decode cX5_isDone 17 = .ok (.imul, 1) := by decide +kernel
theorem dX5_isDone_18 : decode cX5_isDone 18 = .ok (.iconst 2, 1) := by decide +kernel
theorem dX5_isDone_19 : decode cX5_isDone 19 = .ok (.iadd, 1) := by decide +kernel
theorem dX5_isDone_20 : decode cX5_isDone 20 = .ok (.iaload, 1) := by decide +kernel
theorem dX5_isDone_21 : decode cX5_isDone 21 = .ok (.istore_n 3, 1) := by decide +kernel
theorem dX5_isDone_22 : decode cX5_isDone 22 = .ok (.aload_n 0, 1) := by decide +kernel
theorem dX5_isDone_23 : decode cX5_isDone 23 = .ok (.getfield 31, 3) := by decide +kernel
theorem dX5_isDone_26 : decode cX5_isDone 26 = .ok (.iconst 5, 1) := by decide +kernel
theorem dX5_isDone_27 : decode cX5_isDone 27 = .ok (.iload_n 1, 1) := by decide +kernel
theorem dX5_isDone_28 : decode cX5_isDone 28 = .ok (.imul, 1) := by decide +kernel
theorem dX5_isDone_29 : decode cX5_isDone 29 = .ok (.iconst 3, 1) := by decide +kernel
theorem dX5_isDone_30 : decode cX5_isDone 30 = .ok (.iadd, 1) := by decide +kernel
theorem dX5_isDone_31 : decode cX5_isDone 31 = .ok (.iaload, 1) := by decide +kernel
theorem dX5_isDone_32 : decode cX5_isDone 32 = .ok (.istore 4, 2) := by decide +kernel
theorem dX5_isDone_34 : decode cX5_isDone 34 = .ok (.aload_n 0, 1) := by decide +kernel
theorem dX5_isDone_35 : decode cX5_isDone 35 = .ok (.getfield 31, 3) := by decide +kernel
theorem dX5_isDone_38 : decode cX5_isDone 38 = .ok (.iconst 5, 1) := by decide +kernel
theorem dX5_isDone_39 : decode cX5_isDone 39 = .ok (.iload_n 1, 1) := by decide +kernel
theorem dX5_isDone_40 : decode cX5_isDone 40 = .ok (.imul, 1) := by decide +kernel
theorem dX5_isDone_41 : decode cX5_isDone 41 = .ok (.iconst 4, 1) := by decide +kernel
theorem dX5_isDone_42 : decode cX5_isDone 42 = .ok (.iadd, 1) := by decide +kernel
theorem dX5_isDone_43 : decode cX5_isDone 43 = .ok (.iaload, 1) := by decide +kernel
theorem dX5_isDone_44 : decode cX5_isDone 44 = .ok (.istore 5, 2) := by decide +kernel
theorem dX5_isDone_46 : decode cX5_isDone 46 = .ok (.aload_n 0, 1) := by decide +kernel
theorem dX5_isDone_47 : decode cX5_isDone 47 = .ok (.getfield 31, 3) := by decide +kernel
theorem dX5_isDone_50 : decode cX5_isDone 50 = .ok (.iconst 5, 1) := by decide +kernel
theorem dX5_isDone_51 : decode cX5_isDone 51 = .ok (.iload_n 1, 1) := by decide +kernel
theorem dX5_isDone_52 : decode cX5_isDone 52 = .ok (.imul, 1) := by decide +kernel
theorem dX5_isDone_53 : decode cX5_isDone 53 = .ok (.iaload, 1) := by decide +kernel
theorem dX5_isDone_54 : decode cX5_isDone 54 = .ok (.lookupswitch 199 #[(98, 50), (99, 156), (102, 132), (114, 100), (119, 184)], 50) := by decide +kernel
theorem dX5_isDone_104 : decode cX5_isDone 104 = .ok (.aload_n 0, 1) := by decide +kernel
theorem dX5_isDone_105 : decode cX5_isDone 105 = .ok (.iload_n 2, 1) := by decide +kernel
theorem dX5_isDone_106 : decode cX5_isDone 106 = .ok (.iload_n 3, 1) := by decide +kernel
theorem dX5_isDone_107 : decode cX5_isDone 107 = .ok (.iload 4, 2) := by decide +kernel
theorem dX5_isDone_109 : decode cX5_isDone 109 = .ok (.iload 5, 2) := by decide +kernel
theorem dX5_isDone_111 : decode cX5_isDone 111 = .ok (.iconst 1, 1) := by decide +kernel
theorem dX5_isDone_112 : decode cX5_isDone 112 = .ok (.if_icmp .ne 7, 3) := by decide +kernel
theorem dX5_isDone_115 : decode cX5_isDone 115 = .ok (.iconst 1, 1) := by decide +kernel
theorem dX5_isDone_116 : decode cX5_isDone 116 = .ok (.goto 4, 3) := by decide +kernel
theorem dX5_isDone_119 : decode cX5_isDone 119 = .ok (.iconst 0, 1) := by decide +kernel
theorem dX5_isDone_120 : decode cX5_isDone 120 = .ok (.invokevirtual 171, 3) := by decide +kernel
theorem dX5_isDone_123 : decode cX5_isDone 123 = .ok (.ifCond .ne 29, 3) := by decide +kernel
theorem dX5_isDone_126 : decode cX5_isDone 126 = .ok (.aload_n 0, 1) := by decide +kernel
theorem dX5_isDone_127 : decode cX5_isDone 127 = .ok (.iload_n 2, 1) := by decide +kernel
theorem dX5_isDone_128 : decode cX5_isDone 128 = .ok (.iload_n 3, 1) := by decide +kernel
theorem dX5_isDone_129 : decode cX5_isDone 129 = .ok (.iload 4, 2) := by decide +kernel
theorem dX5_isDone_131 : decode cX5_isDone 131 = .ok (.iload 5, 2) := by decide +kernel
theorem dX5_isDone_133 : decode cX5_isDone 133 = .ok (.iconst 1, 1) := by decide +kernel
theorem dX5_isDone_134 : decode cX5_isDone 134 = .ok (.if_icmp .ne 7, 3) := by decide +kernel
theorem dX5_isDone_137 : decode cX5_isDone 137 = .ok (.iconst 1, 1) := by decide +kernel
theorem dX5_isDone_138 : decode cX5_isDone 138 = .ok (.goto 4, 3) := by decide +kernel
theorem dX5_isDone_141 : decode cX5_isDone 141 = .ok (.iconst 0, 1) := by decide +kernel
theorem dX5_isDone_142 : decode cX5_isDone 142 = .ok (.invokevirtual 178, 3) := by decide +kernel
theorem dX5_isDone_145 : decode cX5_isDone 145 = .ok (.ifCond .lt 7, 3) := by decide +kernel
theorem dX5_isDone_148 : decode cX5_isDone 148 = .ok (.iconst 1, 1) := by decide +kernel
theorem dX5_isDone_149 : decode cX5_isDone 149 = .ok (.goto 4, 3) := by decide +kernel
theorem dX5_isDone_152 : decode cX5_isDone 152 = .ok (.iconst 0, 1) := by decide +kernel
theorem dX5_isDone_153 : decode cX5_isDone 153 = .ok (.ireturn, 1) := by decide +kernel
theorem dX5_isDone_154 : decode cX5_isDone 154 = .ok (.aload_n 0, 1) := by decide +kernel
theorem dX5_isDone_155 : decode cX5_isDone 155 = .ok (.iload_n 2, 1) := by decide +kernel
theorem dX5_isDone_156 : decode cX5_isDone 156 = .ok (.iload_n 3, 1) := by decide +kernel
theorem dX5_isDone_157 : decode cX5_isDone 157 = .ok (.iload 4, 2) := by decide +kernel
theorem dX5_isDone_159 : decode cX5_isDone 159 = .ok (.iload 5, 2) := by decide +kernel
theorem dX5_isDone_161 : decode cX5_isDone 161 = .ok (.invokevirtual 181, 3) := by decide +kernel
theorem dX5_isDone_164 : decode cX5_isDone 164 = .ok (.ifCond .ne 20, 3) := by decide +kernel
theorem dX5_isDone_167 : decode cX5_isDone 167 = .ok (.aload_n 0, 1) := by decide +kernel
theorem dX5_isDone_168 : decode cX5_isDone 168 = .ok (.iload_n 2, 1) := by decide +kernel
theorem dX5_isDone_169 : decode cX5_isDone 169 = .ok (.iload_n 3, 1) := by decide +kernel
theorem dX5_isDone_170 : decode cX5_isDone 170 = .ok (.iload 4, 2) := by decide +kernel
theorem dX5_isDone_172 : decode cX5_isDone 172 = .ok (.iload 5, 2) := by decide +kernel
theorem dX5_isDone_174 : decode cX5_isDone 174 = .ok (.invokevirtual 185, 3) := by decide +kernel
theorem dX5_isDone_177 : decode cX5_isDone 177 = .ok (.ifCond .lt 7, 3) := by decide +kernel
theorem dX5_isDone_180 : decode cX5_isDone 180 = .ok (.iconst 1, 1) := by decide +kernel
theorem dX5_isDone_181 : decode cX5_isDone 181 = .ok (.goto 4, 3) := by decide +kernel
theorem dX5_isDone_184 : decode cX5_isDone 184 = .ok (.iconst 0, 1) := by decide +kernel
theorem dX5_isDone_185 : decode cX5_isDone 185 = .ok (.ireturn, 1) := by decide +kernel
theorem dX5_isDone_186 : decode cX5_isDone 186 = .ok (.aload_n 0, 1) := by decide +kernel
theorem dX5_isDone_187 : decode cX5_isDone 187 = .ok (.iload_n 2, 1) := by decide +kernel
theorem dX5_isDone_188 : decode cX5_isDone 188 = .ok (.iload_n 3, 1) := by decide +kernel
theorem dX5_isDone_189 : decode cX5_isDone 189 = .ok (.invokevirtual 188, 3) := by decide +kernel
theorem dX5_isDone_192 : decode cX5_isDone 192 = .ok (.ifCond .ne 16, 3) := by decide +kernel
theorem dX5_isDone_195 : decode cX5_isDone 195 = .ok (.aload_n 0, 1) := by decide +kernel
theorem dX5_isDone_196 : decode cX5_isDone 196 = .ok (.iload_n 2, 1) := by decide +kernel
theorem dX5_isDone_197 : decode cX5_isDone 197 = .ok (.iload_n 3, 1) := by decide +kernel
theorem dX5_isDone_198 : decode cX5_isDone 198 = .ok (.invokevirtual 191, 3) := by decide +kernel
theorem dX5_isDone_201 : decode cX5_isDone 201 = .ok (.ifCond .lt 7, 3) := by decide +kernel
theorem dX5_isDone_204 : decode cX5_isDone 204 = .ok (.iconst 1, 1) := by decide +kernel
theorem dX5_isDone_205 : decode cX5_isDone 205 = .ok (.goto 4, 3) := by decide +kernel
theorem dX5_isDone_208 : decode cX5_isDone 208 = .ok (.iconst 0, 1) := by decide +kernel
theorem dX5_isDone_209 : decode cX5_isDone 209 = .ok (.ireturn, 1) := by decide +kernel
theorem dX5_isDone_210 : decode cX5_isDone 210 = .ok (.aload_n 0, 1) := by decide +kernel
theorem dX5_isDone_211 : decode cX5_isDone 211 = .ok (.iload_n 2, 1) := by decide +kernel
theorem dX5_isDone_212 : decode cX5_isDone 212 = .ok (.iload_n 3, 1) := by decide +kernel
theorem dX5_isDone_213 : decode cX5_isDone 213 = .ok (.iload 4, 2) := by decide +kernel
theorem dX5_isDone_215 : decode cX5_isDone 215 = .ok (.invokevirtual 194, 3) := by decide +kernel
theorem dX5_isDone_218 : decode cX5_isDone 218 = .ok (.ifCond .ne 18, 3) := by decide +kernel
theorem dX5_isDone_221 : decode cX5_isDone 221 = .ok (.aload_n 0, 1) := by decide +kernel
theorem dX5_isDone_222 : decode cX5_isDone 222 = .ok (.iload_n 2, 1) := by decide +kernel
theorem dX5_isDone_223 : decode cX5_isDone 223 = .ok (.iload_n 3, 1) := by decide +kernel
theorem dX5_isDone_224 : decode cX5_isDone 224 = .ok (.iload 4, 2) := by decide +kernel
theorem dX5_isDone_226 : decode cX5_isDone 226 = .ok (.invokevirtual 159, 3) := by decide +kernel
theorem dX5_isDone_229 : decode cX5_isDone 229 = .ok (.ifCond .lt 7, 3) := by decide +kernel
theorem dX5_isDone_232 : decode cX5_isDone 232 = .ok (.iconst 1, 1) := by decide +kernel
theorem dX5_isDone_233 : decode cX5_isDone 233 = .ok (.goto 4, 3) := by decide +kernel
theorem dX5_isDone_236 : decode cX5_isDone 236 = .ok (.iconst 0, 1) := by decide +kernel
theorem dX5_isDone_237 : decode cX5_isDone 237 = .ok (.ireturn, 1) := by decide +kernel
theorem dX5_isDone_238 : decode cX5_isDone 238 = .ok (.aload_n 0, 1) := by decide +kernel
theorem dX5_isDone_239 : decode cX5_isDone 239 = .ok (.iload_n 2, 1) := by decide +kernel
theorem dX5_isDone_240 : decode cX5_isDone 240 = .ok (.iload_n 3, 1) := by decide +kernel
theorem dX5_isDone_241 : decode cX5_isDone 241 = .ok (.invokevirtual 200, 3) := by decide +kernel
theorem dX5_isDone_244 : decode cX5_isDone 244 = .ok (.ifCond .lt 7, 3) := by decide +kernel
theorem dX5_isDone_247 : decode cX5_isDone 247 = .ok (.iconst 1, 1) := by decide +kernel
theorem dX5_isDone_248 : decode cX5_isDone 248 = .ok (.goto 4, 3) := by decide +kernel
theorem dX5_isDone_251 : decode cX5_isDone 251 = .ok (.iconst 0, 1) := by decide +kernel
theorem dX5_isDone_252 : decode cX5_isDone 252 = .ok (.ireturn, 1) := by decide +kernel
theorem dX5_isDone_253 : decode cX5_isDone 253 = .ok (.aload_n 0, 1) := by decide +kernel
theorem dX5_isDone_254 : decode cX5_isDone 254 = .ok (.iload_n 2, 1) := by decide +kernel
theorem dX5_isDone_255 : decode cX5_isDone 255 = .ok (.invokevirtual 203, 3) := by decide +kernel
theorem dX5_isDone_258 : decode cX5_isDone 258 = .ok (.ifCond .eq 15, 3) := by decide +kernel
theorem dX5_isDone_261 : decode cX5_isDone 261 = .ok (.aload_n 0, 1) := by decide +kernel
theorem dX5_isDone_262 : decode cX5_isDone 262 = .ok (.iload_n 2, 1) := by decide +kernel
theorem dX5_isDone_263 : decode cX5_isDone 263 = .ok (.invokevirtual 206, 3) := by decide +kernel
theorem dX5_isDone_266 : decode cX5_isDone 266 = .ok (.ifCond .lt 7, 3) := by decide +kernel
theorem dX5_isDone_269 : decode cX5_isDone 269 = .ok (.iconst 1, 1) := by decide +kernel
theorem dX5_isDone_270 : decode cX5_isDone 270 = .ok (.goto 4, 3) := by decide +kernel
theorem dX5_isDone_273 : decode cX5_isDone 273 = .ok (.iconst 0, 1) := by decide +kernel
theorem dX5_isDone_274 : decode cX5_isDone 274 = .ok (.ireturn, 1) := by decide +kernel
theorem dX5_carries_0 : decode cX5_carries 0 = .ok (.aload_n 0, 1) := by decide +kernel
theorem dX5_carries_1 : decode cX5_carries 1 = .ok (.getfield 7, 3) := by decide +kernel
theorem dX5_carries_4 : decode cX5_carries 4 = .ok (.iconst 0, 1) := by decide +kernel
theorem dX5_carries_5 : decode cX5_carries 5 = .ok (.aload_n 0, 1) := by decide +kernel
theorem dX5_carries_6 : decode cX5_carries 6 = .ok (.getfield 22, 3) := by decide +kernel
theorem dX5_carries_9 : decode cX5_carries 9 = .ok (.iconst 0, 1) := by decide +kernel
theorem dX5_carries_10 : decode cX5_carries 10 = .ok (.invokestatic 41, 3) := by decide +kernel
theorem dX5_carries_13 : decode cX5_carries 13 = .ok (.iconst 0, 1) := by decide +kernel
theorem dX5_carries_14 : decode cX5_carries 14 = .ok (.istore_n 1, 1) := by decide +kernel
theorem dX5_carries_15 : decode cX5_carries 15 = .ok (.iload_n 1, 1) := by decide +kernel
theorem dX5_carries_16 : decode cX5_carries 16 = .ok (.aload_n 0, 1) := by decide +kernel
theorem dX5_carries_17 : decode cX5_carries 17 = .ok (.getfield 215, 3) := by decide +kernel
theorem dX5_carries_20 : decode cX5_carries 20 = .ok (.if_icmp .ge 17, 3) := by decide +kernel
theorem dX5_carries_23 : decode cX5_carries 23 = .ok (.aload_n 0, 1) := by decide +kernel
theorem dX5_carries_24 : decode cX5_carries 24 = .ok (.iload_n 1, 1) := by decide +kernel
theorem dX5_carries_25 : decode cX5_carries 25 = .ok (.invokevirtual 239, 3) := by decide +kernel
theorem dX5_carries_28 : decode cX5_carries 28 = .ok (.ifCond .eq 9, 3) := by decide +kernel
theorem dX5_carries_31 : decode cX5_carries 31 = .ok (.iinc 1 1, 3) := by decide +kernel
theorem dX5_carries_34 : decode cX5_carries 34 = .ok (.goto (-19), 3) := by decide +kernel
theorem dX5_carries_37 : decode cX5_carries 37 = .ok (.iload_n 1, 1) := by decide +kernel
theorem dX5_carries_38 : decode cX5_carries 38 = .ok (.aload_n 0, 1) := by decide +kernel
theorem dX5_carries_39 : decode cX5_carries 39 = .ok (.getfield 215, 3) := by decide +kernel
theorem dX5_carries_42 : decode cX5_carries 42 = .ok (.if_icmp .ne 7, 3) := by decide +kernel
theorem dX5_carries_45 : decode cX5_carries 45 = .ok (.iconst (-1), 1) := by decide +kernel
theorem dX5_carries_46 : decode cX5_carries 46 = .ok (.goto 4, 3) := by decide +kernel
theorem dX5_carries_49 : decode cX5_carries 49 = .ok (.iload_n 1, 1) := by decide +kernel
theorem dX5_carries_50 : decode cX5_carries 50 = .ok (.ireturn, 1) := by decide +kernel
theorem dX5_impossibleOrder_0 : decode cX5_impossibleOrder 0 = .ok (.aload_n 0, 1) := by decide +kernel
theorem dX5_impossibleOrder_1 : decode cX5_impossibleOrder 1 = .ok (.aload_n 0, 1) := by decide +kernel
theorem dX5_impossibleOrder_2 : decode cX5_impossibleOrder 2 = .ok (.invokevirtual 236, 3) := by decide +kernel
theorem dX5_impossibleOrder_5 : decode cX5_impossibleOrder 5 = .ok (.ifCond .eq 7, 3) := by decide +kernel
theorem dX5_impossibleOrder_8 : decode cX5_impossibleOrder 8 = .ok (.iconst 0, 1) := by decide +kernel
theorem dX5_impossibleOrder_9 : decode cX5_impossibleOrder 9 = .ok (.goto 4, 3) := by decide +kernel
theorem dX5_impossibleOrder_12 : decode cX5_impossibleOrder 12 = .ok (.iconst 1, 1) := by decide +kernel
theorem dX5_impossibleOrder_13 : decode cX5_impossibleOrder 13 = .ok (.putfield 34, 3) := by decide +kernel
theorem dX5_impossibleOrder_16 : decode cX5_impossibleOrder 16 = .ok (.aload_n 0, 1) := by decide +kernel
theorem dX5_impossibleOrder_17 : decode cX5_impossibleOrder 17 = .ok (.getfield 34, 3) := by decide +kernel
theorem dX5_impossibleOrder_20 : decode cX5_impossibleOrder 20 = .ok (.ifCond .le 5, 3) := by decide +kernel
theorem dX5_impossibleOrder_23 : decode cX5_impossibleOrder 23 = .ok (.iconst 0, 1) := by decide +kernel
theorem dX5_impossibleOrder_24 : decode cX5_impossibleOrder 24 = .ok (.ireturn, 1) := by decide +kernel
theorem dX5_impossibleOrder_25 : decode cX5_impossibleOrder 25 = .ok (.aload_n 0, 1) := by decide +kernel
theorem dX5_impossibleOrder_26 : decode cX5_impossibleOrder 26 = .ok (.invokevirtual 242, 3) := by decide +kernel
theorem dX5_impossibleOrder_29 : decode cX5_impossibleOrder 29 = .ok (.istore_n 1, 1) := by decide +kernel
theorem dX5_impossibleOrder_30 : decode cX5_impossibleOrder 30 = .ok (.aload_n 0, 1) := by decide +kernel
theorem dX5_impossibleOrder_31 : decode cX5_impossibleOrder 31 = .ok (.getfield 22, 3) := by decide +kernel
theorem dX5_impossibleOrder_34 : decode cX5_impossibleOrder 34 = .ok (.iconst 0, 1) := by decide +kernel
theorem dX5_impossibleOrder_35 : decode cX5_impossibleOrder 35 = .ok (.aload_n 0, 1) := by decide +kernel
theorem dX5_impossibleOrder_36 : decode cX5_impossibleOrder 36 = .ok (.getfield 7, 3) := by decide +kernel
theorem dX5_impossibleOrder_39 : decode cX5_impossibleOrder 39 = .ok (.iconst 0, 1) := by decide +kernel
theorem dX5_impossibleOrder_40 : decode cX5_impossibleOrder 40 = .ok (.invokestatic 41, 3) := by decide +kernel
theorem dX5_impossibleOrder_43 : decode cX5_impossibleOrder 43 = .ok (.iload_n 1, 1) := by decide +kernel
theorem dX5_impossibleOrder_44 : decode cX5_impossibleOrder 44 = .ok (.ireturn, 1) := by decide +kernel
theorem dX5_carryOut_0 : decode cX5_carryOut 0 = .ok (.aload_n 0, 1) := by decide +kernel
theorem dX5_carryOut_1 : decode cX5_carryOut 1 = .ok (.aload_n 0, 1) := by decide +kernel
theorem dX5_carryOut_2 : decode cX5_carryOut 2 = .ok (.invokevirtual 236, 3) := by decide +kernel
theorem dX5_carryOut_5 : decode cX5_carryOut 5 = .ok (.ifCond .eq 7, 3) := by decide +kernel
theorem dX5_carryOut_8 : decode cX5_carryOut 8 = .ok (.iconst 0, 1) := by decide +kernel
theorem dX5_carryOut_9 : decode cX5_carryOut 9 = .ok (.goto 4, 3) := by decide +kernel
theorem dX5_carryOut_12 : decode cX5_carryOut 12 = .ok (.iconst 1, 1) := by decide +kernel
theorem dX5_carryOut_13 : decode cX5_carryOut 13 = .ok (.putfield 34, 3) := by decide +kernel
theorem dX5_carryOut_16 : decode cX5_carryOut 16 = .ok (.aload_n 0, 1) := by decide +kernel
theorem dX5_carryOut_17 : decode cX5_carryOut 17 = .ok (.getfield 34, 3) := by decide +kernel
theorem dX5_carryOut_20 : decode cX5_carryOut 20 = .ok (.ifCond .le 5, 3) := by decide +kernel
theorem dX5_carryOut_23 : decode cX5_carryOut 23 = .ok (.iconst 0, 1) := by decide +kernel
theorem dX5_carryOut_24 : decode cX5_carryOut 24 = .ok (.ireturn, 1) := by decide +kernel
theorem dX5_carryOut_25 : decode cX5_carryOut 25 = .ok (.aload_n 0, 1) := by decide +kernel
theorem dX5_carryOut_26 : decode cX5_carryOut 26 = .ok (.invokevirtual 242, 3) := by decide +kernel
theorem dX5_carryOut_29 : decode cX5_carryOut 29 = .ok (.iconst (-1), 1) := by decide +kernel
theorem dX5_carryOut_30 : decode cX5_carryOut 30 = .ok (.if_icmp .eq 22, 3) := by decide +kernel
theorem dX5_carryOut_33 : decode cX5_carryOut 33 = .ok (.aload_n 0, 1) := by decide +kernel
theorem dX5_carryOut_34 : decode cX5_carryOut 34 = .ok (.getfield 22, 3) := by decide +kernel
theorem dX5_carryOut_37 : decode cX5_carryOut 37 = .ok (.iconst 0, 1) := by decide +kernel
theorem dX5_carryOut_38 : decode cX5_carryOut 38 = .ok (.aload_n 0, 1) := by decide +kernel
theorem dX5_carryOut_39 : decode cX5_carryOut 39 = .ok (.getfield 7, 3) := by decide +kernel
theorem dX5_carryOut_42 : decode cX5_carryOut 42 = .ok (.iconst 0, 1) := by decide +kernel
theorem dX5_carryOut_43 : decode cX5_carryOut 43 = .ok (.invokestatic 41, 3) := by decide +kernel
theorem dX5_carryOut_46 : decode cX5_carryOut 46 = .ok (.aload_n 0, 1) := by decide +kernel
