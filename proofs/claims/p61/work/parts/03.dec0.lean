theorem dX0_init_0 : decode cX0_init 0 = .ok (.aload_n 0, 1) := by decide +kernel
theorem dX0_init_1 : decode cX0_init 1 = .ok (.invokespecial 3, 3) := by decide +kernel
theorem dX0_init_4 : decode cX0_init 4 = .ok (.aload_n 0, 1) := by decide +kernel
theorem dX0_init_5 : decode cX0_init 5 = .ok (.sipush 200, 3) := by decide +kernel
theorem dX0_init_8 : decode cX0_init 8 = .ok (.newarray .int, 2) := by decide +kernel
theorem dX0_init_10 : decode cX0_init 10 = .ok (.putfield 9, 3) := by decide +kernel
theorem dX0_init_13 : decode cX0_init 13 = .ok (.aload_n 0, 1) := by decide +kernel
theorem dX0_init_14 : decode cX0_init 14 = .ok (.sipush 200, 3) := by decide +kernel
theorem dX0_init_17 : decode cX0_init 17 = .ok (.newarray .int, 2) := by decide +kernel
theorem dX0_init_19 : decode cX0_init 19 = .ok (.putfield 15, 3) := by decide +kernel
theorem dX0_init_22 : decode cX0_init 22 = .ok (.aload_n 0, 1) := by decide +kernel
theorem dX0_init_23 : decode cX0_init 23 = .ok (.sipush 200, 3) := by decide +kernel
theorem dX0_init_26 : decode cX0_init 26 = .ok (.newarray .int, 2) := by decide +kernel
theorem dX0_init_28 : decode cX0_init 28 = .ok (.putfield 18, 3) := by decide +kernel
theorem dX0_init_31 : decode cX0_init 31 = .ok (.aload_n 0, 1) := by decide +kernel
theorem dX0_init_32 : decode cX0_init 32 = .ok (.sipush 200, 3) := by decide +kernel
theorem dX0_init_35 : decode cX0_init 35 = .ok (.newarray .int, 2) := by decide +kernel
theorem dX0_init_37 : decode cX0_init 37 = .ok (.putfield 21, 3) := by decide +kernel
theorem dX0_init_40 : decode cX0_init 40 = .ok (.aload_n 0, 1) := by decide +kernel
theorem dX0_init_41 : decode cX0_init 41 = .ok (.sipush 200, 3) := by decide +kernel
theorem dX0_init_44 : decode cX0_init 44 = .ok (.newarray .int, 2) := by decide +kernel
theorem dX0_init_46 : decode cX0_init 46 = .ok (.putfield 24, 3) := by decide +kernel
theorem dX0_init_49 : decode cX0_init 49 = .ok (.aload_n 0, 1) := by decide +kernel
theorem dX0_init_50 : decode cX0_init 50 = .ok (.sipush 200, 3) := by decide +kernel
theorem dX0_init_53 : decode cX0_init 53 = .ok (.newarray .int, 2) := by decide +kernel
theorem dX0_init_55 : decode cX0_init 55 = .ok (.putfield 27, 3) := by decide +kernel
theorem dX0_init_58 : decode cX0_init 58 = .ok (.aload_n 0, 1) := by decide +kernel
theorem dX0_init_59 : decode cX0_init 59 = .ok (.sipush 200, 3) := by decide +kernel
theorem dX0_init_62 : decode cX0_init 62 = .ok (.newarray .int, 2) := by decide +kernel
theorem dX0_init_64 : decode cX0_init 64 = .ok (.putfield 30, 3) := by decide +kernel
theorem dX0_init_67 : decode cX0_init 67 = .ok (.aload_n 0, 1) := by decide +kernel
theorem dX0_init_68 : decode cX0_init 68 = .ok (.sipush 200, 3) := by decide +kernel
theorem dX0_init_71 : decode cX0_init 71 = .ok (.newarray .int, 2) := by decide +kernel
theorem dX0_init_73 : decode cX0_init 73 = .ok (.putfield 33, 3) := by decide +kernel
theorem dX0_init_76 : decode cX0_init 76 = .ok (.return_, 1) := by decide +kernel
theorem dX0_copyFrom_0 : decode cX0_copyFrom 0 = .ok (.aload_n 0, 1) := by decide +kernel
theorem dX0_copyFrom_1 : decode cX0_copyFrom 1 = .ok (.aload_n 1, 1) := by decide +kernel
theorem dX0_copyFrom_2 : decode cX0_copyFrom 2 = .ok (.getfield 36, 3) := by decide +kernel
theorem dX0_copyFrom_5 : decode cX0_copyFrom 5 = .ok (.putfield 36, 3) := by decide +kernel
theorem dX0_copyFrom_8 : decode cX0_copyFrom 8 = .ok (.aload_n 0, 1) := by decide +kernel
theorem dX0_copyFrom_9 : decode cX0_copyFrom 9 = .ok (.aload_n 1, 1) := by decide +kernel
theorem dX0_copyFrom_10 : decode cX0_copyFrom 10 = .ok (.getfield 40, 3) := by decide +kernel
theorem dX0_copyFrom_13 : decode cX0_copyFrom 13 = .ok (.putfield 40, 3) := by decide +kernel
theorem dX0_copyFrom_16 : decode cX0_copyFrom 16 = .ok (.aload_n 1, 1) := by decide +kernel
theorem dX0_copyFrom_17 : decode cX0_copyFrom 17 = .ok (.getfield 9, 3) := by decide +kernel
theorem dX0_copyFrom_20 : decode cX0_copyFrom 20 = .ok (.iconst 0, 1) := by decide +kernel
theorem dX0_copyFrom_21 : decode cX0_copyFrom 21 = .ok (.aload_n 0, 1) := by decide +kernel
theorem dX0_copyFrom_22 : decode cX0_copyFrom 22 = .ok (.getfield 9, 3) := by decide +kernel
theorem dX0_copyFrom_25 : decode cX0_copyFrom 25 = .ok (.iconst 0, 1) := by decide +kernel
theorem dX0_copyFrom_26 : decode cX0_copyFrom 26 = .ok (.aload_n 1, 1) := by decide +kernel
theorem dX0_copyFrom_27 : decode cX0_copyFrom 27 = .ok (.getfield 36, 3) := by decide +kernel
theorem dX0_copyFrom_30 : decode cX0_copyFrom 30 = .ok (.invokestatic 43, 3) := by decide +kernel
theorem dX0_copyFrom_33 : decode cX0_copyFrom 33 = .ok (.aload_n 1, 1) := by decide +kernel
theorem dX0_copyFrom_34 : decode cX0_copyFrom 34 = .ok (.getfield 15, 3) := by decide +kernel
theorem dX0_copyFrom_37 : decode cX0_copyFrom 37 = .ok (.iconst 0, 1) := by decide +kernel
theorem dX0_copyFrom_38 : decode cX0_copyFrom 38 = .ok (.aload_n 0, 1) := by decide +kernel
theorem dX0_copyFrom_39 : decode cX0_copyFrom 39 = .ok (.getfield 15, 3) := by decide +kernel
theorem dX0_copyFrom_42 : decode cX0_copyFrom 42 = .ok (.iconst 0, 1) := by decide +kernel
theorem dX0_copyFrom_43 : decode cX0_copyFrom 43 = .ok (.aload_n 1, 1) := by decide +kernel
theorem dX0_copyFrom_44 : decode cX0_copyFrom 44 = .ok (.getfield 36, 3) := by decide +kernel
theorem dX0_copyFrom_47 : decode cX0_copyFrom 47 = .ok (.invokestatic 43, 3) := by decide +kernel
theorem dX0_copyFrom_50 : decode cX0_copyFrom 50 = .ok (.aload_n 1, 1) := by decide +kernel
theorem dX0_copyFrom_51 : decode cX0_copyFrom 51 = .ok (.getfield 18, 3) := by decide +kernel
theorem dX0_copyFrom_54 : decode cX0_copyFrom 54 = .ok (.iconst 0, 1) := by decide +kernel
theorem dX0_copyFrom_55 : decode cX0_copyFrom 55 = .ok (.aload_n 0, 1) := by decide +kernel
theorem dX0_copyFrom_56 : decode cX0_copyFrom 56 = .ok (.getfield 18, 3) := by decide +kernel
theorem dX0_copyFrom_59 : decode cX0_copyFrom 59 = .ok (.iconst 0, 1) := by decide +kernel
theorem dX0_copyFrom_60 : decode cX0_copyFrom 60 = .ok (.aload_n 1, 1) := by decide +kernel
theorem dX0_copyFrom_61 : decode cX0_copyFrom 61 = .ok (.getfield 36, 3) := by decide +kernel
theorem dX0_copyFrom_64 : decode cX0_copyFrom 64 = .ok (.invokestatic 43, 3) := by decide +kernel
theorem dX0_copyFrom_67 : decode cX0_copyFrom 67 = .ok (.aload_n 1, 1) := by decide +kernel
theorem dX0_copyFrom_68 : decode cX0_copyFrom 68 = .ok (.getfield 21, 3) := by decide +kernel
theorem dX0_copyFrom_71 : decode cX0_copyFrom 71 = .ok (.iconst 0, 1) := by decide +kernel
theorem dX0_copyFrom_72 : decode cX0_copyFrom 72 = .ok (.aload_n 0, 1) := by decide +kernel
theorem dX0_copyFrom_73 : decode cX0_copyFrom 73 = .ok (.getfield 21, 3) := by decide +kernel
theorem dX0_copyFrom_76 : decode cX0_copyFrom 76 = .ok (.iconst 0, 1) := by decide +kernel
theorem dX0_copyFrom_77 : decode cX0_copyFrom 77 = .ok (.aload_n 1, 1) := by decide +kernel
theorem dX0_copyFrom_78 : decode cX0_copyFrom 78 = .ok (.getfield 36, 3) := by decide +kernel
theorem dX0_copyFrom_81 : decode cX0_copyFrom 81 = .ok (.invokestatic 43, 3) := by decide +kernel
theorem dX0_copyFrom_84 : decode cX0_copyFrom 84 = .ok (.aload_n 1, 1) := by decide +kernel
theorem dX0_copyFrom_85 : decode cX0_copyFrom 85 = .ok (.getfield 24, 3) := by decide +kernel
theorem dX0_copyFrom_88 : decode cX0_copyFrom 88 = .ok (.iconst 0, 1) := by decide +kernel
theorem dX0_copyFrom_89 : decode cX0_copyFrom 89 = .ok (.aload_n 0, 1) := by decide +kernel
theorem dX0_copyFrom_90 : decode cX0_copyFrom 90 = .ok (.getfield 24, 3) := by decide +kernel
theorem dX0_copyFrom_93 : decode cX0_copyFrom 93 = .ok (.iconst 0, 1) := by decide +kernel
theorem dX0_copyFrom_94 : decode cX0_copyFrom 94 = .ok (.aload_n 1, 1) := by decide +kernel
theorem dX0_copyFrom_95 : decode cX0_copyFrom 95 = .ok (.getfield 36, 3) := by decide +kernel
theorem dX0_copyFrom_98 : decode cX0_copyFrom 98 = .ok (.invokestatic 43, 3) := by decide +kernel
theorem dX0_copyFrom_101 : decode cX0_copyFrom 101 = .ok (.aload_n 1, 1) := by decide +kernel
theorem dX0_copyFrom_102 : decode cX0_copyFrom 102 = .ok (.getfield 27, 3) := by decide +kernel
theorem dX0_copyFrom_105 : decode cX0_copyFrom 105 = .ok (.iconst 0, 1) := by decide +kernel
theorem dX0_copyFrom_106 : decode cX0_copyFrom 106 = .ok (.aload_n 0, 1) := by decide +kernel
theorem dX0_copyFrom_107 : decode cX0_copyFrom 107 = .ok (.getfield 27, 3) := by decide +kernel
theorem dX0_copyFrom_110 : decode cX0_copyFrom 110 = .ok (.iconst 0, 1) := by decide +kernel
theorem dX0_copyFrom_111 : decode cX0_copyFrom 111 = .ok (.aload_n 1, 1) := by decide +kernel
theorem dX0_copyFrom_112 : decode cX0_copyFrom 112 = .ok (.getfield 36, 3) := by decide +kernel
theorem dX0_copyFrom_115 : decode cX0_copyFrom 115 = .ok (.invokestatic 43, 3) := by decide +kernel
theorem dX0_copyFrom_118 : decode cX0_copyFrom 118 = .ok (.aload_n 1, 1) := by decide +kernel
theorem dX0_copyFrom_119 : decode cX0_copyFrom 119 = .ok (.getfield 30, 3) := by decide +kernel
theorem dX0_copyFrom_122 : decode cX0_copyFrom 122 = .ok (.iconst 0, 1) := by decide +kernel
theorem dX0_copyFrom_123 : decode cX0_copyFrom 123 = .ok (.aload_n 0, 1) := by decide +kernel
theorem dX0_copyFrom_124 : decode cX0_copyFrom 124 = .ok (.getfield 30, 3) := by decide +kernel
theorem dX0_copyFrom_127 : decode cX0_copyFrom 127 = .ok (.iconst 0, 1) := by decide +kernel
theorem dX0_copyFrom_128 : decode cX0_copyFrom 128 = .ok (.aload_n 1, 1) := by decide +kernel
theorem dX0_copyFrom_129 : decode cX0_copyFrom 129 = .ok (.getfield 36, 3) := by decide +kernel
theorem dX0_copyFrom_132 : decode cX0_copyFrom 132 = .ok (.invokestatic 43, 3) := by decide +kernel
theorem dX0_copyFrom_135 : decode cX0_copyFrom 135 = .ok (.aload_n 1, 1) := by decide +kernel
theorem dX0_copyFrom_136 : decode cX0_copyFrom 136 = .ok (.getfield 33, 3) := by decide +kernel
theorem dX0_copyFrom_139 : decode cX0_copyFrom 139 = .ok (.iconst 0, 1) := by decide +kernel
theorem dX0_copyFrom_140 : decode cX0_copyFrom 140 = .ok (.aload_n 0, 1) := by decide +kernel
theorem dX0_copyFrom_141 : decode cX0_copyFrom 141 = .ok (.getfield 33, 3) := by decide +kernel
theorem dX0_copyFrom_144 : decode cX0_copyFrom 144 = .ok (.iconst 0, 1) := by decide +kernel
theorem dX0_copyFrom_145 : decode cX0_copyFrom 145 = .ok (.aload_n 1, 1) := by decide +kernel
theorem dX0_copyFrom_146 : decode cX0_copyFrom 146 = .ok (.getfield 36, 3) := by decide +kernel
theorem dX0_copyFrom_149 : decode cX0_copyFrom 149 = .ok (.invokestatic 43, 3) := by decide +kernel
theorem dX0_copyFrom_152 : decode cX0_copyFrom 152 = .ok (.return_, 1) := by decide +kernel
theorem dX0_haveRoom_0 : decode cX0_haveRoom 0 = .ok (.aload_n 0, 1) := by decide +kernel
theorem dX0_haveRoom_1 : decode cX0_haveRoom 1 = .ok (.getfield 36, 3) := by decide +kernel
theorem dX0_haveRoom_4 : decode cX0_haveRoom 4 = .ok (.sipush 200, 3) := by decide +kernel
theorem dX0_haveRoom_7 : decode cX0_haveRoom 7 = .ok (.if_icmp .ge 16, 3) := by decide +kernel
theorem dX0_haveRoom_10 : decode cX0_haveRoom 10 = .ok (.aload_n 0, 1) := by decide +kernel
theorem dX0_haveRoom_11 : decode cX0_haveRoom 11 = .ok (.invokevirtual 49, 3) := by decide +kernel
theorem dX0_haveRoom_14 : decode cX0_haveRoom 14 = .ok (.bipush 40, 2) := by decide +kernel
theorem dX0_haveRoom_16 : decode cX0_haveRoom 16 = .ok (.if_icmp .ge 7, 3) := by decide +kernel
theorem dX0_haveRoom_19 : decode cX0_haveRoom 19 = .ok (.iconst 1, 1) := by decide +kernel
theorem dX0_haveRoom_20 : decode cX0_haveRoom 20 = .ok (.goto 4, 3) := by decide +kernel
theorem dX0_haveRoom_23 : decode cX0_haveRoom 23 = .ok (.iconst 0, 1) := by decide +kernel
theorem dX0_haveRoom_24 : decode cX0_haveRoom 24 = .ok (.ireturn, 1) := by decide +kernel
theorem dX0_add_0 : decode cX0_add 0 = .ok (.aload_n 0, 1) := by decide +kernel
theorem dX0_add_1 : decode cX0_add 1 = .ok (.getfield 36, 3) := by decide +kernel
theorem dX0_add_4 : decode cX0_add 4 = .ok (.istore 4, 2) := by decide +kernel
theorem dX0_add_6 : decode cX0_add 6 = .ok (.iload 4, 2) := by decide +kernel
theorem dX0_add_8 : decode cX0_add 8 = .ok (.sipush 200, 3) := by decide +kernel
theorem dX0_add_11 : decode cX0_add 11 = .ok (.if_icmp .ge 78, 3) := by decide +kernel
theorem dX0_add_14 : decode cX0_add 14 = .ok (.aload_n 0, 1) := by decide +kernel
theorem dX0_add_15 : decode cX0_add 15 = .ok (.getfield 9, 3) := by decide +kernel
theorem dX0_add_18 : decode cX0_add 18 = .ok (.iload 4, 2) := by decide +kernel
theorem dX0_add_20 : decode cX0_add 20 = .ok (.iload_n 1, 1) := by decide +kernel
theorem dX0_add_21 : decode cX0_add 21 = .ok (.iastore, 1) := by decide +kernel
theorem dX0_add_22 : decode cX0_add 22 = .ok (.aload_n 0, 1) := by decide +kernel
theorem dX0_add_23 : decode cX0_add 23 = .ok (.getfield 15, 3) := by decide +kernel
theorem dX0_add_26 : decode cX0_add 26 = .ok (.iload 4, 2) := by decide +kernel
theorem dX0_add_28 : decode cX0_add 28 = .ok (.bipush 60, 2) := by decide +kernel
theorem dX0_add_30 : decode cX0_add 30 = .ok (.iastore, 1) := by decide +kernel
theorem dX0_add_31 : decode cX0_add 31 = .ok (.aload_n 0, 1) := by decide +kernel
theorem dX0_add_32 : decode cX0_add 32 = .ok (.getfield 18, 3) := by decide +kernel
theorem dX0_add_35 : decode cX0_add 35 = .ok (.iload 4, 2) := by decide +kernel
theorem dX0_add_37 : decode cX0_add 37 = .ok (.iload_n 2, 1) := by decide +kernel
theorem dX0_add_38 : decode cX0_add 38 = .ok (.iastore, 1) := by decide +kernel
theorem dX0_add_39 : decode cX0_add 39 = .ok (.aload_n 0, 1) := by decide +kernel
theorem dX0_add_40 : decode cX0_add 40 = .ok (.getfield 21, 3) := by decide +kernel
theorem dX0_add_43 : decode cX0_add 43 = .ok (.iload 4, 2) := by decide +kernel
theorem dX0_add_45 : decode cX0_add 45 = .ok (.iload_n 3, 1) := by decide +kernel
theorem dX0_add_46 : decode cX0_add 46 = .ok (.iastore, 1) := by decide +kernel
theorem dX0_add_47 : decode cX0_add 47 = .ok (.aload_n 0, 1) := by decide +kernel
theorem dX0_add_48 : decode cX0_add 48 = .ok (.getfield 24, 3) := by decide +kernel
theorem dX0_add_51 : decode cX0_add 51 = .ok (.iload 4, 2) := by decide +kernel
theorem dX0_add_53 : decode cX0_add 53 = .ok (.iconst 0, 1) := by decide +kernel
theorem dX0_add_54 : decode cX0_add 54 = .ok (.iastore, 1) := by decide +kernel
theorem dX0_add_55 : decode cX0_add 55 = .ok (.aload_n 0, 1) := by decide +kernel
theorem dX0_add_56 : decode cX0_add 56 = .ok (.getfield 27, 3) := by decide +kernel
theorem dX0_add_59 : decode cX0_add 59 = .ok (.iload 4, 2) := by decide +kernel
theorem dX0_add_61 : decode cX0_add 61 = .ok (.iconst 1, 1) := by decide +kernel
theorem dX0_add_62 : decode cX0_add 62 = .ok (.iastore, 1) := by decide +kernel
theorem dX0_add_63 : decode cX0_add 63 = .ok (.aload_n 0, 1) := by decide +kernel
theorem dX0_add_64 : decode cX0_add 64 = .ok (.getfield 30, 3) := by decide +kernel
theorem dX0_add_67 : decode cX0_add 67 = .ok (.iload 4, 2) := by decide +kernel
theorem dX0_add_69 : decode cX0_add 69 = .ok (.iconst 0, 1) := by decide +kernel
theorem dX0_add_70 : decode cX0_add 70 = .ok (.iastore, 1) := by decide +kernel
theorem dX0_add_71 : decode cX0_add 71 = .ok (.aload_n 0, 1) := by decide +kernel
theorem dX0_add_72 : decode cX0_add 72 = .ok (.getfield 33, 3) := by decide +kernel
theorem dX0_add_75 : decode cX0_add 75 = .ok (.iload 4, 2) := by decide +kernel
theorem dX0_add_77 : decode cX0_add 77 = .ok (.iconst 0, 1) := by decide +kernel
theorem dX0_add_78 : decode cX0_add 78 = .ok (.iastore, 1) := by decide +kernel
theorem dX0_add_79 : decode cX0_add 79 = .ok (.aload_n 0, 1) := by decide +kernel
theorem dX0_add_80 : decode cX0_add 80 = .ok (.dup, 1) := by decide +kernel
theorem dX0_add_81 : decode cX0_add 81 = .ok (.getfield 36, 3) := by decide +kernel
theorem dX0_add_84 : decode cX0_add 84 = .ok (.iconst 1, 1) := by decide +kernel
theorem dX0_add_85 : decode cX0_add 85 = .ok (.iadd, 1) := by decide +kernel
theorem dX0_add_86 : decode cX0_add 86 = .ok (.putfield 36, 3) := by decide +kernel
theorem dX0_add_89 : decode cX0_add 89 = .ok (.iload 4, 2) := by decide +kernel
theorem dX0_add_91 : decode cX0_add 91 = .ok (.ireturn, 1) := by decide +kernel
theorem dX0_goHome_0 : decode cX0_goHome 0 = .ok (.aload_n 0, 1) := by decide +kernel
theorem dX0_goHome_1 : decode cX0_goHome 1 = .ok (.getfield 24, 3) := by decide +kernel
theorem dX0_goHome_4 : decode cX0_goHome 4 = .ok (.iload_n 1, 1) := by decide +kernel
theorem dX0_goHome_5 : decode cX0_goHome 5 = .ok (.iconst (-1), 1) := by decide +kernel
theorem dX0_goHome_6 : decode cX0_goHome 6 = .ok (.iastore, 1) := by decide +kernel
theorem dX0_goHome_7 : decode cX0_goHome 7 = .ok (.aload_n 0, 1) := by decide +kernel
theorem dX0_goHome_8 : decode cX0_goHome 8 = .ok (.getfield 27, 3) := by decide +kernel
theorem dX0_goHome_11 : decode cX0_goHome 11 = .ok (.iload_n 1, 1) := by decide +kernel
theorem dX0_goHome_12 : decode cX0_goHome 12 = .ok (.iconst (-1), 1) := by decide +kernel
theorem dX0_goHome_13 : decode cX0_goHome 13 = .ok (.iastore, 1) := by decide +kernel
theorem dX0_goHome_14 : decode cX0_goHome 14 = .ok (.return_, 1) := by decide +kernel
theorem dX0_allGoHome_0 : decode cX0_allGoHome 0 = .ok (.aload_n 0, 1) := by decide +kernel
theorem dX0_allGoHome_1 : decode cX0_allGoHome 1 = .ok (.getfield 40, 3) := by decide +kernel
theorem dX0_allGoHome_4 : decode cX0_allGoHome 4 = .ok (.istore_n 1, 1) := by decide +kernel
theorem dX0_allGoHome_5 : decode cX0_allGoHome 5 = .ok (.iload_n 1, 1) := by decide +kernel
theorem dX0_allGoHome_6 : decode cX0_allGoHome 6 = .ok (.aload_n 0, 1) := by decide +kernel
theorem dX0_allGoHome_7 : decode cX0_allGoHome 7 = .ok (.getfield 36, 3) := by decide +kernel
theorem dX0_allGoHome_10 : decode cX0_allGoHome 10 = .ok (.if_icmp .ge 14, 3) := by decide +kernel
theorem dX0_allGoHome_13 : decode cX0_allGoHome 13 = .ok (.aload_n 0, 1) := by decide +kernel
theorem dX0_allGoHome_14 : decode cX0_allGoHome 14 = .ok (.iload_n 1, 1) := by decide +kernel
theorem dX0_allGoHome_15 : decode cX0_allGoHome 15 = .ok (.invokevirtual 53, 3) := by decide +kernel
theorem dX0_allGoHome_18 : decode cX0_allGoHome 18 = .ok (.iinc 1 1, 3) := by decide +kernel
theorem dX0_allGoHome_21 : decode cX0_allGoHome 21 = .ok (.goto (-16), 3) := by decide +kernel
theorem dX0_allGoHome_24 : decode cX0_allGoHome 24 = .ok (.aload_n 0, 1) := by decide +kernel
theorem dX0_allGoHome_25 : decode cX0_allGoHome 25 = .ok (.aload_n 0, 1) := by decide +kernel
theorem dX0_allGoHome_26 : decode cX0_allGoHome 26 = .ok (.getfield 36, 3) := by decide +kernel
theorem dX0_allGoHome_29 : decode cX0_allGoHome 29 = .ok (.putfield 40, 3) := by decide +kernel
theorem dX0_allGoHome_32 : decode cX0_allGoHome 32 = .ok (.return_, 1) := by decide +kernel
theorem dX0_moveOn_0 : decode cX0_moveOn 0 = .ok (.aload_n 0, 1) := by decide +kernel
theorem dX0_moveOn_1 : decode cX0_moveOn 1 = .ok (.getfield 30, 3) := by decide +kernel
theorem dX0_moveOn_4 : decode cX0_moveOn 4 = .ok (.iload_n 1, 1) := by decide +kernel
theorem dX0_moveOn_5 : decode cX0_moveOn 5 = .ok (.iconst 0, 1) := by decide +kernel
theorem dX0_moveOn_6 : decode cX0_moveOn 6 = .ok (.iastore, 1) := by decide +kernel
theorem dX0_moveOn_7 : decode cX0_moveOn 7 = .ok (.aload_n 0, 1) := by decide +kernel
theorem dX0_moveOn_8 : decode cX0_moveOn 8 = .ok (.getfield 24, 3) := by decide +kernel
theorem dX0_moveOn_11 : decode cX0_moveOn 11 = .ok (.iload_n 1, 1) := by decide +kernel
theorem dX0_moveOn_12 : decode cX0_moveOn 12 = .ok (.iaload, 1) := by decide +kernel
theorem dX0_moveOn_13 : decode cX0_moveOn 13 = .ok (.bipush 11, 2) := by decide +kernel
theorem dX0_moveOn_15 : decode cX0_moveOn 15 = .ok (.if_icmp .ne 10, 3) := by decide +kernel
theorem dX0_moveOn_18 : decode cX0_moveOn 18 = .ok (.aload_n 0, 1) := by decide +kernel
theorem dX0_moveOn_19 : decode cX0_moveOn 19 = .ok (.getfield 27, 3) := by decide +kernel
theorem dX0_moveOn_22 : decode cX0_moveOn 22 = .ok (.iload_n 1, 1) := by decide +kernel
theorem dX0_moveOn_23 : decode cX0_moveOn 23 = .ok (.iconst (-1), 1) := by decide +kernel
theorem dX0_moveOn_24 : decode cX0_moveOn 24 = .ok (.iastore, 1) := by decide +kernel
theorem dX0_moveOn_25 : decode cX0_moveOn 25 = .ok (.aload_n 0, 1) := by decide +kernel
theorem dX0_moveOn_26 : decode cX0_moveOn 26 = .ok (.getfield 24, 3) := by decide +kernel
theorem dX0_moveOn_29 : decode cX0_moveOn 29 = .ok (.iload_n 1, 1) := by decide +kernel
theorem dX0_moveOn_30 : decode cX0_moveOn 30 = .ok (.iaload, 1) := by decide +kernel
theorem dX0_moveOn_31 : decode cX0_moveOn 31 = .ok (.aload_n 0, 1) := by decide +kernel
theorem dX0_moveOn_32 : decode cX0_moveOn 32 = .ok (.getfield 27, 3) := by decide +kernel
theorem dX0_moveOn_35 : decode cX0_moveOn 35 = .ok (.iload_n 1, 1) := by decide +kernel
theorem dX0_moveOn_36 : decode cX0_moveOn 36 = .ok (.iaload, 1) := by decide +kernel
theorem dX0_moveOn_37 : decode cX0_moveOn 37 = .ok (.iadd, 1) := by decide +kernel
theorem dX0_moveOn_38 : decode cX0_moveOn 38 = .ok (.istore_n 2, 1) := by decide +kernel
theorem dX0_moveOn_39 : decode cX0_moveOn 39 = .ok (.iload_n 2, 1) := by decide +kernel
theorem dX0_moveOn_40 : decode cX0_moveOn 40 = .ok (.ifCond .ge 11, 3) := by decide +kernel
theorem dX0_moveOn_43 : decode cX0_moveOn 43 = .ok (.aload_n 0, 1) := by decide +kernel
theorem dX0_moveOn_44 : decode cX0_moveOn 44 = .ok (.iload_n 1, 1) := by decide +kernel
theorem dX0_moveOn_45 : decode cX0_moveOn 45 = .ok (.invokevirtual 53, 3) := by decide +kernel
theorem dX0_moveOn_48 : decode cX0_moveOn 48 = .ok (.goto 10, 3) := by decide +kernel
theorem dX0_moveOn_51 : decode cX0_moveOn 51 = .ok (.aload_n 0, 1) := by decide +kernel
theorem dX0_moveOn_52 : decode cX0_moveOn 52 = .ok (.getfield 24, 3) := by decide +kernel
theorem dX0_moveOn_55 : decode cX0_moveOn 55 = .ok (.iload_n 1, 1) := by decide +kernel
theorem dX0_moveOn_56 : decode cX0_moveOn 56 = .ok (.iload_n 2, 1) := by decide +kernel
theorem dX0_moveOn_57 : decode cX0_moveOn 57 = .ok (.iastore, 1) := by decide +kernel
theorem dX0_moveOn_58 : decode cX0_moveOn 58 = .ok (.return_, 1) := by decide +kernel
theorem dX0_changeMood_0 : decode cX0_changeMood 0 = .ok (.aload_n 0, 1) := by decide +kernel
theorem dX0_changeMood_1 : decode cX0_changeMood 1 = .ok (.getfield 15, 3) := by decide +kernel
theorem dX0_changeMood_4 : decode cX0_changeMood 4 = .ok (.iload_n 1, 1) := by decide +kernel
theorem dX0_changeMood_5 : decode cX0_changeMood 5 = .ok (.iaload, 1) := by decide +kernel
theorem dX0_changeMood_6 : decode cX0_changeMood 6 = .ok (.iload_n 2, 1) := by decide +kernel
theorem dX0_changeMood_7 : decode cX0_changeMood 7 = .ok (.iadd, 1) := by decide +kernel
theorem dX0_changeMood_8 : decode cX0_changeMood 8 = .ok (.istore_n 3, 1) := by decide +kernel
theorem dX0_changeMood_9 : decode cX0_changeMood 9 = .ok (.aload_n 0, 1) := by decide +kernel
theorem dX0_changeMood_10 : decode cX0_changeMood 10 = .ok (.getfield 15, 3) := by decide +kernel
theorem dX0_changeMood_13 : decode cX0_changeMood 13 = .ok (.iload_n 1, 1) := by decide +kernel
theorem dX0_changeMood_14 : decode cX0_changeMood 14 = .ok (.iload_n 3, 1) := by decide +kernel
theorem dX0_changeMood_15 : decode cX0_changeMood 15 = .ok (.ifCond .ge 7, 3) := by decide +kernel
theorem dX0_changeMood_18 : decode cX0_changeMood 18 = .ok (.iconst 0, 1) := by decide +kernel
theorem dX0_changeMood_19 : decode cX0_changeMood 19 = .ok (.goto 15, 3) := by decide +kernel
theorem dX0_changeMood_22 : decode cX0_changeMood 22 = .ok (.iload_n 3, 1) := by decide +kernel
theorem dX0_changeMood_23 : decode cX0_changeMood 23 = .ok (.bipush 100, 2) := by decide +kernel
theorem dX0_changeMood_25 : decode cX0_changeMood 25 = .ok (.if_icmp .le 8, 3) := by decide +kernel
theorem dX0_changeMood_28 : decode cX0_changeMood 28 = .ok (.bipush 100, 2) := by decide +kernel
theorem dX0_changeMood_30 : decode cX0_changeMood 30 = .ok (.goto 4, 3) := by decide +kernel
theorem dX0_changeMood_33 : decode cX0_changeMood 33 = .ok (.iload_n 3, 1) := by decide +kernel
theorem dX0_changeMood_34 : decode cX0_changeMood 34 = .ok (.iastore, 1) := by decide +kernel
theorem dX0_changeMood_35 : decode cX0_changeMood 35 = .ok (.return_, 1) := by decide +kernel
theorem dX0_reasonAgainst_0 : decode cX0_reasonAgainst 0 = .ok (.aload_n 0, 1) := by decide +kernel
theorem dX0_reasonAgainst_1 : decode cX0_reasonAgainst 1 = .ok (.getfield 9, 3) := by decide +kernel
theorem dX0_reasonAgainst_4 : decode cX0_reasonAgainst 4 = .ok (.iload_n 1, 1) := by decide +kernel
theorem dX0_reasonAgainst_5 : decode cX0_reasonAgainst 5 = .ok (.iaload, 1) := by decide +kernel
theorem dX0_reasonAgainst_6 : decode cX0_reasonAgainst 6 = .ok (.aload_n 2, 1) := by decide +kernel
theorem dX0_reasonAgainst_7 : decode cX0_reasonAgainst 7 = .ok (.getfield 57, 3) := by decide +kernel
theorem dX0_reasonAgainst_10 : decode cX0_reasonAgainst 10 = .ok (.if_icmp .ge 5, 3) := by decide +kernel
theorem dX0_reasonAgainst_13 : decode cX0_reasonAgainst 13 = .ok (.iconst 3, 1) := by decide +kernel
theorem dX0_reasonAgainst_14 : decode cX0_reasonAgainst 14 = .ok (.ireturn, 1) := by decide +kernel
theorem dX0_reasonAgainst_15 : decode cX0_reasonAgainst 15 = .ok (.aload_n 0, 1) := by decide +kernel
theorem dX0_reasonAgainst_16 : decode cX0_reasonAgainst 16 = .ok (.getfield 30, 3) := by decide +kernel
theorem dX0_reasonAgainst_19 : decode cX0_reasonAgainst 19 = .ok (.iload_n 1, 1) := by decide +kernel
theorem dX0_reasonAgainst_20 : decode cX0_reasonAgainst 20 = .ok (.iaload, 1) := by decide +kernel
theorem dX0_reasonAgainst_21 : decode cX0_reasonAgainst 21 = .ok (.iconst 2, 1) := by decide +kernel
theorem dX0_reasonAgainst_22 : decode cX0_reasonAgainst 22 = .ok (.if_icmp .lt 5, 3) := by decide +kernel
theorem dX0_reasonAgainst_25 : decode cX0_reasonAgainst 25 = .ok (.iconst 4, 1) := by decide +kernel
theorem dX0_reasonAgainst_26 : decode cX0_reasonAgainst 26 = .ok (.ireturn, 1) := by decide +kernel
theorem dX0_reasonAgainst_27 : decode cX0_reasonAgainst 27 = .ok (.aload_n 2, 1) := by decide +kernel
theorem dX0_reasonAgainst_28 : decode cX0_reasonAgainst 28 = .ok (.getfield 62, 3) := by decide +kernel
theorem dX0_reasonAgainst_31 : decode cX0_reasonAgainst 31 = .ok (.aload_n 0, 1) := by decide +kernel
theorem dX0_reasonAgainst_32 : decode cX0_reasonAgainst 32 = .ok (.getfield 18, 3) := by decide +kernel
theorem dX0_reasonAgainst_35 : decode cX0_reasonAgainst 35 = .ok (.iload_n 1, 1) := by decide +kernel
theorem dX0_reasonAgainst_36 : decode cX0_reasonAgainst 36 = .ok (.iaload, 1) := by decide +kernel
theorem dX0_reasonAgainst_37 : decode cX0_reasonAgainst 37 = .ok (.if_icmp .eq 11, 3) := by decide +kernel
theorem dX0_reasonAgainst_40 : decode cX0_reasonAgainst 40 = .ok (.aload_n 2, 1) := by decide +kernel
theorem dX0_reasonAgainst_41 : decode cX0_reasonAgainst 41 = .ok (.getfield 62, 3) := by decide +kernel
theorem dX0_reasonAgainst_44 : decode cX0_reasonAgainst 44 = .ok (.iconst 4, 1) := by decide +kernel
theorem dX0_reasonAgainst_45 : decode cX0_reasonAgainst 45 = .ok (.if_icmp .ne 7, 3) := by decide +kernel
theorem dX0_reasonAgainst_48 : decode cX0_reasonAgainst 48 = .ok (.iconst 1, 1) := by decide +kernel
theorem dX0_reasonAgainst_49 : decode cX0_reasonAgainst 49 = .ok (.goto 4, 3) := by decide +kernel
theorem dX0_reasonAgainst_52 : decode cX0_reasonAgainst 52 = .ok (.iconst 0, 1) := by decide +kernel
theorem dX0_reasonAgainst_53 : decode cX0_reasonAgainst 53 = .ok (.istore_n 3, 1) := by decide +kernel
theorem dX0_reasonAgainst_54 : decode cX0_reasonAgainst 54 = .ok (.iload_n 3, 1) := by decide +kernel
theorem dX0_reasonAgainst_55 : decode cX0_reasonAgainst 55 = .ok (.ifCond .ne 14, 3) := by decide +kernel
theorem dX0_reasonAgainst_58 : decode cX0_reasonAgainst 58 = .ok (.aload_n 0, 1) := by decide +kernel
theorem dX0_reasonAgainst_59 : decode cX0_reasonAgainst 59 = .ok (.getfield 15, 3) := by decide +kernel
theorem dX0_reasonAgainst_62 : decode cX0_reasonAgainst 62 = .ok (.iload_n 1, 1) := by decide +kernel
theorem dX0_reasonAgainst_63 : decode cX0_reasonAgainst 63 = .ok (.iaload, 1) := by decide +kernel
theorem dX0_reasonAgainst_64 : decode cX0_reasonAgainst 64 = .ok (.bipush 50, 2) := by decide +kernel
theorem dX0_reasonAgainst_66 : decode cX0_reasonAgainst 66 = .ok (.if_icmp .lt 7, 3) := by decide +kernel
theorem dX0_reasonAgainst_69 : decode cX0_reasonAgainst 69 = .ok (.iconst 0, 1) := by decide +kernel
theorem dX0_reasonAgainst_70 : decode cX0_reasonAgainst 70 = .ok (.goto 4, 3) := by decide +kernel
theorem dX0_reasonAgainst_73 : decode cX0_reasonAgainst 73 = .ok (.iconst 5, 1) := by decide +kernel
theorem dX0_reasonAgainst_74 : decode cX0_reasonAgainst 74 = .ok (.ireturn, 1) := by decide +kernel
theorem dX0_countHere_0 : decode cX0_countHere 0 = .ok (.iconst 0, 1) := by decide +kernel
theorem dX0_countHere_1 : decode cX0_countHere 1 = .ok (.istore_n 1, 1) := by decide +kernel
theorem dX0_countHere_2 : decode cX0_countHere 2 = .ok (.aload_n 0, 1) := by decide +kernel
theorem dX0_countHere_3 : decode cX0_countHere 3 = .ok (.getfield 40, 3) := by decide +kernel
theorem dX0_countHere_6 : decode cX0_countHere 6 = .ok (.istore_n 2, 1) := by decide +kernel
theorem dX0_countHere_7 : decode cX0_countHere 7 = .ok (.iload_n 2, 1) := by decide +kernel
theorem dX0_countHere_8 : decode cX0_countHere 8 = .ok (.aload_n 0, 1) := by decide +kernel
theorem dX0_countHere_9 : decode cX0_countHere 9 = .ok (.getfield 36, 3) := by decide +kernel
theorem dX0_countHere_12 : decode cX0_countHere 12 = .ok (.if_icmp .ge 22, 3) := by decide +kernel
theorem dX0_countHere_15 : decode cX0_countHere 15 = .ok (.aload_n 0, 1) := by decide +kernel
theorem dX0_countHere_16 : decode cX0_countHere 16 = .ok (.getfield 24, 3) := by decide +kernel
theorem dX0_countHere_19 : decode cX0_countHere 19 = .ok (.iload_n 2, 1) := by decide +kernel
theorem dX0_countHere_20 : decode cX0_countHere 20 = .ok (.iaload, 1) := by decide +kernel
theorem dX0_countHere_21 : decode cX0_countHere 21 = .ok (.iconst (-1), 1) := by decide +kernel
theorem dX0_countHere_22 : decode cX0_countHere 22 = .ok (.if_icmp .eq 6, 3) := by decide +kernel
theorem dX0_countHere_25 : decode cX0_countHere 25 = .ok (.iinc 1 1, 3) := by decide +kernel
theorem dX0_countHere_28 : decode cX0_countHere 28 = .ok (.iinc 2 1, 3) := by decide +kernel
theorem dX0_countHere_31 : decode cX0_countHere 31 = .ok (.goto (-24), 3) := by decide +kernel
theorem dX0_countHere_34 : decode cX0_countHere 34 = .ok (.iload_n 1, 1) := by decide +kernel
theorem dX0_countHere_35 : decode cX0_countHere 35 = .ok (.ireturn, 1) := by decide +kernel
theorem dX0_countOn_0 : decode cX0_countOn 0 = .ok (.iconst 0, 1) := by decide +kernel
theorem dX0_countOn_1 : decode cX0_countOn 1 = .ok (.istore_n 2, 1) := by decide +kernel
theorem dX0_countOn_2 : decode cX0_countOn 2 = .ok (.aload_n 0, 1) := by decide +kernel
theorem dX0_countOn_3 : decode cX0_countOn 3 = .ok (.getfield 40, 3) := by decide +kernel
theorem dX0_countOn_6 : decode cX0_countOn 6 = .ok (.istore_n 3, 1) := by decide +kernel
theorem dX0_countOn_7 : decode cX0_countOn 7 = .ok (.iload_n 3, 1) := by decide +kernel
theorem dX0_countOn_8 : decode cX0_countOn 8 = .ok (.aload_n 0, 1) := by decide +kernel
theorem dX0_countOn_9 : decode cX0_countOn 9 = .ok (.getfield 36, 3) := by decide +kernel
theorem dX0_countOn_12 : decode cX0_countOn 12 = .ok (.if_icmp .ge 22, 3) := by decide +kernel
theorem dX0_countOn_15 : decode cX0_countOn 15 = .ok (.aload_n 0, 1) := by decide +kernel
theorem dX0_countOn_16 : decode cX0_countOn 16 = .ok (.getfield 24, 3) := by decide +kernel
theorem dX0_countOn_19 : decode cX0_countOn 19 = .ok (.iload_n 3, 1) := by decide +kernel
theorem dX0_countOn_20 : decode cX0_countOn 20 = .ok (.iaload, 1) := by decide +kernel
theorem dX0_countOn_21 : decode cX0_countOn 21 = .ok (.iload_n 1, 1) := by decide +kernel
theorem dX0_countOn_22 : decode cX0_countOn 22 = .ok (.if_icmp .ne 6, 3) := by decide +kernel
theorem dX0_countOn_25 : decode cX0_countOn 25 = .ok (.iinc 2 1, 3) := by decide +kernel
theorem dX0_countOn_28 : decode cX0_countOn 28 = .ok (.iinc 3 1, 3) := by decide +kernel
theorem dX0_countOn_31 : decode cX0_countOn 31 = .ok (.goto (-24), 3) := by decide +kernel
theorem dX0_countOn_34 : decode cX0_countOn 34 = .ok (.iload_n 2, 1) := by decide +kernel
theorem dX0_countOn_35 : decode cX0_countOn 35 = .ok (.ireturn, 1) := by decide +kernel
theorem dX0_countSulkers_0 : decode cX0_countSulkers 0 = .ok (.iconst 0, 1) := by decide +kernel
theorem dX0_countSulkers_1 : decode cX0_countSulkers 1 = .ok (.istore_n 1, 1) := by decide +kernel
theorem dX0_countSulkers_2 : decode cX0_countSulkers 2 = .ok (.aload_n 0, 1) := by decide +kernel
theorem dX0_countSulkers_3 : decode cX0_countSulkers 3 = .ok (.getfield 40, 3) := by decide +kernel
theorem dX0_countSulkers_6 : decode cX0_countSulkers 6 = .ok (.istore_n 2, 1) := by decide +kernel
theorem dX0_countSulkers_7 : decode cX0_countSulkers 7 = .ok (.iload_n 2, 1) := by decide +kernel
theorem dX0_countSulkers_8 : decode cX0_countSulkers 8 = .ok (.aload_n 0, 1) := by decide +kernel
theorem dX0_countSulkers_9 : decode cX0_countSulkers 9 = .ok (.getfield 36, 3) := by decide +kernel
theorem dX0_countSulkers_12 : decode cX0_countSulkers 12 = .ok (.if_icmp .ge 33, 3) := by decide +kernel
theorem dX0_countSulkers_15 : decode cX0_countSulkers 15 = .ok (.aload_n 0, 1) := by decide +kernel
theorem dX0_countSulkers_16 : decode cX0_countSulkers 16 = .ok (.getfield 24, 3) := by decide +kernel
theorem dX0_countSulkers_19 : decode cX0_countSulkers 19 = .ok (.iload_n 2, 1) := by decide +kernel
theorem dX0_countSulkers_20 : decode cX0_countSulkers 20 = .ok (.iaload, 1) := by decide +kernel
theorem dX0_countSulkers_21 : decode cX0_countSulkers 21 = .ok (.iconst (-1), 1) := by decide +kernel
theorem dX0_countSulkers_22 : decode cX0_countSulkers 22 = .ok (.if_icmp .eq 17, 3) := by decide +kernel
theorem dX0_countSulkers_25 : decode cX0_countSulkers 25 = .ok (.aload_n 0, 1) := by decide +kernel
theorem dX0_countSulkers_26 : decode cX0_countSulkers 26 = .ok (.getfield 15, 3) := by decide +kernel
theorem dX0_countSulkers_29 : decode cX0_countSulkers 29 = .ok (.iload_n 2, 1) := by decide +kernel
theorem dX0_countSulkers_30 : decode cX0_countSulkers 30 = .ok (.iaload, 1) := by decide +kernel
theorem dX0_countSulkers_31 : decode cX0_countSulkers 31 = .ok (.bipush 50, 2) := by decide +kernel
theorem dX0_countSulkers_33 : decode cX0_countSulkers 33 = .ok (.if_icmp .ge 6, 3) := by decide +kernel
theorem dX0_countSulkers_36 : decode cX0_countSulkers 36 = .ok (.iinc 1 1, 3) := by decide +kernel
theorem dX0_countSulkers_39 : decode cX0_countSulkers 39 = .ok (.iinc 2 1, 3) := by decide +kernel
theorem dX0_countSulkers_42 : decode cX0_countSulkers 42 = .ok (.goto (-35), 3) := by decide +kernel
theorem dX0_countSulkers_45 : decode cX0_countSulkers 45 = .ok (.iload_n 1, 1) := by decide +kernel
theorem dX0_countSulkers_46 : decode cX0_countSulkers 46 = .ok (.ireturn, 1) := by decide +kernel
theorem dX0_findHappiest_0 : decode cX0_findHappiest 0 = .ok (.iconst (-1), 1) := by decide +kernel
theorem dX0_findHappiest_1 : decode cX0_findHappiest 1 = .ok (.istore_n 1, 1) := by decide +kernel
theorem dX0_findHappiest_2 : decode cX0_findHappiest 2 = .ok (.iconst (-1), 1) := by decide +kernel
theorem dX0_findHappiest_3 : decode cX0_findHappiest 3 = .ok (.istore_n 2, 1) := by decide +kernel
theorem dX0_findHappiest_4 : decode cX0_findHappiest 4 = .ok (.aload_n 0, 1) := by decide +kernel
theorem dX0_findHappiest_5 : decode cX0_findHappiest 5 = .ok (.getfield 40, 3) := by decide +kernel
theorem dX0_findHappiest_8 : decode cX0_findHappiest 8 = .ok (.istore_n 3, 1) := by decide +kernel
theorem dX0_findHappiest_9 : decode cX0_findHappiest 9 = .ok (.iload_n 3, 1) := by decide +kernel
theorem dX0_findHappiest_10 : decode cX0_findHappiest 10 = .ok (.aload_n 0, 1) := by decide +kernel
theorem dX0_findHappiest_11 : decode cX0_findHappiest 11 = .ok (.getfield 36, 3) := by decide +kernel
theorem dX0_findHappiest_14 : decode cX0_findHappiest 14 = .ok (.if_icmp .ge 38, 3) := by decide +kernel
theorem dX0_findHappiest_17 : decode cX0_findHappiest 17 = .ok (.aload_n 0, 1) := by decide +kernel
theorem dX0_findHappiest_18 : decode cX0_findHappiest 18 = .ok (.getfield 24, 3) := by decide +kernel
theorem dX0_findHappiest_21 : decode cX0_findHappiest 21 = .ok (.iload_n 3, 1) := by decide +kernel
theorem dX0_findHappiest_22 : decode cX0_findHappiest 22 = .ok (.iaload, 1) := by decide +kernel
theorem dX0_findHappiest_23 : decode cX0_findHappiest 23 = .ok (.iconst (-1), 1) := by decide +kernel
theorem dX0_findHappiest_24 : decode cX0_findHappiest 24 = .ok (.if_icmp .eq 22, 3) := by decide +kernel
theorem dX0_findHappiest_27 : decode cX0_findHappiest 27 = .ok (.aload_n 0, 1) := by decide +kernel
theorem dX0_findHappiest_28 : decode cX0_findHappiest 28 = .ok (.getfield 15, 3) := by decide +kernel
theorem dX0_findHappiest_31 : decode cX0_findHappiest 31 = .ok (.iload_n 3, 1) := by decide +kernel
theorem dX0_findHappiest_32 : decode cX0_findHappiest 32 = .ok (.iaload, 1) := by decide +kernel
theorem dX0_findHappiest_33 : decode cX0_findHappiest 33 = .ok (.iload_n 2, 1) := by decide +kernel
theorem dX0_findHappiest_34 : decode cX0_findHappiest 34 = .ok (.if_icmp .le 12, 3) := by decide +kernel
theorem dX0_findHappiest_37 : decode cX0_findHappiest 37 = .ok (.aload_n 0, 1) := by decide +kernel
theorem dX0_findHappiest_38 : decode cX0_findHappiest 38 = .ok (.getfield 15, 3) := by decide +kernel
theorem dX0_findHappiest_41 : decode cX0_findHappiest 41 = .ok (.iload_n 3, 1) := by decide +kernel
theorem dX0_findHappiest_42 : decode cX0_findHappiest 42 = .ok (.iaload, 1) := by decide +kernel
theorem dX0_findHappiest_43 : decode cX0_findHappiest 43 = .ok (.istore_n 2, 1) := by decide +kernel
theorem dX0_findHappiest_44 : decode cX0_findHappiest 44 = .ok (.iload_n 3, 1) := by decide +kernel
theorem dX0_findHappiest_45 : decode cX0_findHappiest 45 = .ok (.istore_n 1, 1) := by decide +kernel
theorem dX0_findHappiest_46 : decode cX0_findHappiest 46 = .ok (.iinc 3 1, 3) := by decide +kernel
theorem dX0_findHappiest_49 : decode cX0_findHappiest 49 = .ok (.goto (-40), 3) := by decide +kernel
theorem dX0_findHappiest_52 : decode cX0_findHappiest 52 = .ok (.iload_n 1, 1) := by decide +kernel
theorem dX0_findHappiest_53 : decode cX0_findHappiest 53 = .ok (.ireturn, 1) := by decide +kernel
theorem dX0_coinsInPurses_0 : decode cX0_coinsInPurses 0 = .ok (.iconst 0, 1) := by decide +kernel
theorem dX0_coinsInPurses_1 : decode cX0_coinsInPurses 1 = .ok (.istore_n 1, 1) := by decide +kernel
theorem dX0_coinsInPurses_2 : decode cX0_coinsInPurses 2 = .ok (.iconst 0, 1) := by decide +kernel
theorem dX0_coinsInPurses_3 : decode cX0_coinsInPurses 3 = .ok (.istore_n 2, 1) := by decide +kernel
theorem dX0_coinsInPurses_4 : decode cX0_coinsInPurses 4 = .ok (.iload_n 2, 1) := by decide +kernel
theorem dX0_coinsInPurses_5 : decode cX0_coinsInPurses 5 = .ok (.aload_n 0, 1) := by decide +kernel
theorem dX0_coinsInPurses_6 : decode cX0_coinsInPurses 6 = .ok (.getfield 36, 3) := by decide +kernel
theorem dX0_coinsInPurses_9 : decode cX0_coinsInPurses 9 = .ok (.if_icmp .ge 18, 3) := by decide +kernel
theorem dX0_coinsInPurses_12 : decode cX0_coinsInPurses 12 = .ok (.iload_n 1, 1) := by decide +kernel
theorem dX0_coinsInPurses_13 : decode cX0_coinsInPurses 13 = .ok (.aload_n 0, 1) := by decide +kernel
theorem dX0_coinsInPurses_14 : decode cX0_coinsInPurses 14 = .ok (.getfield 9, 3) := by decide +kernel
theorem dX0_coinsInPurses_17 : decode cX0_coinsInPurses 17 = .ok (.iload_n 2, 1) := by decide +kernel
theorem dX0_coinsInPurses_18 : decode cX0_coinsInPurses 18 = .ok (.iaload, 1) := by decide +kernel
theorem dX0_coinsInPurses_19 : decode cX0_coinsInPurses 19 = .ok (.iadd, 1) := by decide +kernel
theorem dX0_coinsInPurses_20 : decode cX0_coinsInPurses 20 = .ok (.istore_n 1, 1) := by decide +kernel
theorem dX0_coinsInPurses_21 : decode cX0_coinsInPurses 21 = .ok (.iinc 2 1, 3) := by decide +kernel
theorem dX0_coinsInPurses_24 : decode cX0_coinsInPurses 24 = .ok (.goto (-20), 3) := by decide +kernel
theorem dX0_coinsInPurses_27 : decode cX0_coinsInPurses 27 = .ok (.iload_n 1, 1) := by decide +kernel
theorem dX0_coinsInPurses_28 : decode cX0_coinsInPurses 28 = .ok (.ireturn, 1) := by decide +kernel
theorem dX1_init_0 : decode cX1_init 0 = .ok (.aload_n 0, 1) := by decide +kernel
theorem dX1_init_1 : decode cX1_init 1 = .ok (.invokespecial 3, 3) := by decide +kernel
theorem dX1_init_4 : decode cX1_init 4 = .ok (.aload_n 0, 1) := by decide +kernel
theorem dX1_init_5 : decode cX1_init 5 = .ok (.sipush 500, 3) := by decide +kernel
theorem dX1_init_8 : decode cX1_init 8 = .ok (.putfield 9, 3) := by decide +kernel
theorem dX1_init_11 : decode cX1_init 11 = .ok (.aload_n 0, 1) := by decide +kernel
theorem dX1_init_12 : decode cX1_init 12 = .ok (.bipush 10, 2) := by decide +kernel
theorem dX1_init_14 : decode cX1_init 14 = .ok (.newarray .int, 2) := by decide +kernel
theorem dX1_init_16 : decode cX1_init 16 = .ok (.putfield 15, 3) := by decide +kernel
theorem dX1_init_19 : decode cX1_init 19 = .ok (.aload_n 0, 1) := by decide +kernel
theorem dX1_init_20 : decode cX1_init 20 = .ok (.iconst 4, 1) := by decide +kernel
theorem dX1_init_21 : decode cX1_init 21 = .ok (.newarray .int, 2) := by decide +kernel
theorem dX1_init_23 : decode cX1_init 23 = .ok (.putfield 19, 3) := by decide +kernel
theorem dX1_init_26 : decode cX1_init 26 = .ok (.aload_n 0, 1) := by decide +kernel
theorem dX1_init_27 : decode cX1_init 27 = .ok (.bipush 7, 2) := by decide +kernel
theorem dX1_init_29 : decode cX1_init 29 = .ok (.anewarray 22, 3) := by decide +kernel
theorem dX1_init_32 : decode cX1_init 32 = .ok (.putfield 24, 3) := by decide +kernel
theorem dX1_init_35 : decode cX1_init 35 = .ok (.aload_n 0, 1) := by decide +kernel
theorem dX1_init_36 : decode cX1_init 36 = .ok (.new 28, 3) := by decide +kernel
theorem dX1_init_39 : decode cX1_init 39 = .ok (.dup, 1) := by decide +kernel
theorem dX1_init_40 : decode cX1_init 40 = .ok (.invokespecial 30, 3) := by decide +kernel
theorem dX1_init_43 : decode cX1_init 43 = .ok (.putfield 31, 3) := by decide +kernel
theorem dX1_init_46 : decode cX1_init 46 = .ok (.iconst 0, 1) := by decide +kernel
theorem dX1_init_47 : decode cX1_init 47 = .ok (.istore_n 1, 1) := by decide +kernel
theorem dX1_init_48 : decode cX1_init 48 = .ok (.iload_n 1, 1) := by decide +kernel
theorem dX1_init_49 : decode cX1_init 49 = .ok (.bipush 6, 2) := by decide +kernel
theorem dX1_init_51 : decode cX1_init 51 = .ok (.if_icmp .gt 22, 3) := by decide +kernel
theorem dX1_init_54 : decode cX1_init 54 = .ok (.aload_n 0, 1) := by decide +kernel
theorem dX1_init_55 : decode cX1_init 55 = .ok (.getfield 24, 3) := by decide +kernel
theorem dX1_init_58 : decode cX1_init 58 = .ok (.iload_n 1, 1) := by decide +kernel
theorem dX1_init_59 : decode cX1_init 59 = .ok (.new 22, 3) := by decide +kernel
theorem dX1_init_62 : decode cX1_init 62 = .ok (.dup, 1) := by decide +kernel
theorem dX1_init_63 : decode cX1_init 63 = .ok (.invokespecial 35, 3) := by decide +kernel
theorem dX1_init_66 : decode cX1_init 66 = .ok (.aastore, 1) := by decide +kernel
theorem dX1_init_67 : decode cX1_init 67 = .ok (.iinc 1 1, 3) := by decide +kernel
theorem dX1_init_70 : decode cX1_init 70 = .ok (.goto (-22), 3) := by decide +kernel
theorem dX1_init_73 : decode cX1_init 73 = .ok (.return_, 1) := by decide +kernel
theorem dX1_copyFrom_0 : decode cX1_copyFrom 0 = .ok (.aload_n 0, 1) := by decide +kernel
theorem dX1_copyFrom_1 : decode cX1_copyFrom 1 = .ok (.aload_n 1, 1) := by decide +kernel
theorem dX1_copyFrom_2 : decode cX1_copyFrom 2 = .ok (.getfield 9, 3) := by decide +kernel
theorem dX1_copyFrom_5 : decode cX1_copyFrom 5 = .ok (.putfield 9, 3) := by decide +kernel
theorem dX1_copyFrom_8 : decode cX1_copyFrom 8 = .ok (.aload_n 0, 1) := by decide +kernel
theorem dX1_copyFrom_9 : decode cX1_copyFrom 9 = .ok (.aload_n 1, 1) := by decide +kernel
theorem dX1_copyFrom_10 : decode cX1_copyFrom 10 = .ok (.getfield 36, 3) := by decide +kernel
theorem dX1_copyFrom_13 : decode cX1_copyFrom 13 = .ok (.putfield 36, 3) := by decide +kernel
theorem dX1_copyFrom_16 : decode cX1_copyFrom 16 = .ok (.aload_n 0, 1) := by decide +kernel
theorem dX1_copyFrom_17 : decode cX1_copyFrom 17 = .ok (.aload_n 1, 1) := by decide +kernel
theorem dX1_copyFrom_18 : decode cX1_copyFrom 18 = .ok (.getfield 39, 3) := by decide +kernel
theorem dX1_copyFrom_21 : decode cX1_copyFrom 21 = .ok (.putfield 39, 3) := by decide +kernel
theorem dX1_copyFrom_24 : decode cX1_copyFrom 24 = .ok (.aload_n 0, 1) := by decide +kernel
theorem dX1_copyFrom_25 : decode cX1_copyFrom 25 = .ok (.aload_n 1, 1) := by decide +kernel
theorem dX1_copyFrom_26 : decode cX1_copyFrom 26 = .ok (.getfield 42, 3) := by decide +kernel
theorem dX1_copyFrom_29 : decode cX1_copyFrom 29 = .ok (.putfield 42, 3) := by decide +kernel
theorem dX1_copyFrom_32 : decode cX1_copyFrom 32 = .ok (.aload_n 0, 1) := by decide +kernel
theorem dX1_copyFrom_33 : decode cX1_copyFrom 33 = .ok (.aload_n 1, 1) := by decide +kernel
theorem dX1_copyFrom_34 : decode cX1_copyFrom 34 = .ok (.getfield 45, 3) := by decide +kernel
theorem dX1_copyFrom_37 : decode cX1_copyFrom 37 = .ok (.putfield 45, 3) := by decide +kernel
theorem dX1_copyFrom_40 : decode cX1_copyFrom 40 = .ok (.aload_n 0, 1) := by decide +kernel
theorem dX1_copyFrom_41 : decode cX1_copyFrom 41 = .ok (.aload_n 1, 1) := by decide +kernel
theorem dX1_copyFrom_42 : decode cX1_copyFrom 42 = .ok (.getfield 48, 3) := by decide +kernel
theorem dX1_copyFrom_45 : decode cX1_copyFrom 45 = .ok (.putfield 48, 3) := by decide +kernel
theorem dX1_copyFrom_48 : decode cX1_copyFrom 48 = .ok (.aload_n 0, 1) := by decide +kernel
theorem dX1_copyFrom_49 : decode cX1_copyFrom 49 = .ok (.aload_n 1, 1) := by decide +kernel
theorem dX1_copyFrom_50 : decode cX1_copyFrom 50 = .ok (.getfield 51, 3) := by decide +kernel
theorem dX1_copyFrom_53 : decode cX1_copyFrom 53 = .ok (.putfield 51, 3) := by decide +kernel
theorem dX1_copyFrom_56 : decode cX1_copyFrom 56 = .ok (.aload_n 0, 1) := by decide +kernel
theorem dX1_copyFrom_57 : decode cX1_copyFrom 57 = .ok (.aload_n 1, 1) := by decide +kernel
theorem dX1_copyFrom_58 : decode cX1_copyFrom 58 = .ok (.getfield 54, 3) := by decide +kernel
theorem dX1_copyFrom_61 : decode cX1_copyFrom 61 = .ok (.putfield 54, 3) := by decide +kernel
theorem dX1_copyFrom_64 : decode cX1_copyFrom 64 = .ok (.aload_n 1, 1) := by decide +kernel
theorem dX1_copyFrom_65 : decode cX1_copyFrom 65 = .ok (.getfield 15, 3) := by decide +kernel
theorem dX1_copyFrom_68 : decode cX1_copyFrom 68 = .ok (.iconst 0, 1) := by decide +kernel
theorem dX1_copyFrom_69 : decode cX1_copyFrom 69 = .ok (.aload_n 0, 1) := by decide +kernel
theorem dX1_copyFrom_70 : decode cX1_copyFrom 70 = .ok (.getfield 15, 3) := by decide +kernel
theorem dX1_copyFrom_73 : decode cX1_copyFrom 73 = .ok (.iconst 0, 1) := by decide +kernel
theorem dX1_copyFrom_74 : decode cX1_copyFrom 74 = .ok (.bipush 10, 2) := by decide +kernel
theorem dX1_copyFrom_76 : decode cX1_copyFrom 76 = .ok (.invokestatic 57, 3) := by decide +kernel
theorem dX1_copyFrom_79 : decode cX1_copyFrom 79 = .ok (.aload_n 1, 1) := by decide +kernel
theorem dX1_copyFrom_80 : decode cX1_copyFrom 80 = .ok (.getfield 19, 3) := by decide +kernel
theorem dX1_copyFrom_83 : decode cX1_copyFrom 83 = .ok (.iconst 0, 1) := by decide +kernel
theorem dX1_copyFrom_84 : decode cX1_copyFrom 84 = .ok (.aload_n 0, 1) := by decide +kernel
theorem dX1_copyFrom_85 : decode cX1_copyFrom 85 = .ok (.getfield 19, 3) := by decide +kernel
theorem dX1_copyFrom_88 : decode cX1_copyFrom 88 = .ok (.iconst 0, 1) := by decide +kernel
theorem dX1_copyFrom_89 : decode cX1_copyFrom 89 = .ok (.iconst 4, 1) := by decide +kernel
theorem dX1_copyFrom_90 : decode cX1_copyFrom 90 = .ok (.invokestatic 57, 3) := by decide +kernel
theorem dX1_copyFrom_93 : decode cX1_copyFrom 93 = .ok (.aload_n 0, 1) := by decide +kernel
theorem dX1_copyFrom_94 : decode cX1_copyFrom 94 = .ok (.aload_n 1, 1) := by decide +kernel
theorem dX1_copyFrom_95 : decode cX1_copyFrom 95 = .ok (.getfield 63, 3) := by decide +kernel
theorem dX1_copyFrom_98 : decode cX1_copyFrom 98 = .ok (.putfield 63, 3) := by decide +kernel
theorem dX1_copyFrom_101 : decode cX1_copyFrom 101 = .ok (.iconst 0, 1) := by decide +kernel
theorem dX1_copyFrom_102 : decode cX1_copyFrom 102 = .ok (.istore_n 2, 1) := by decide +kernel
theorem dX1_copyFrom_103 : decode cX1_copyFrom 103 = .ok (.iload_n 2, 1) := by decide +kernel
theorem dX1_copyFrom_104 : decode cX1_copyFrom 104 = .ok (.aload_n 0, 1) := by decide +kernel
theorem dX1_copyFrom_105 : decode cX1_copyFrom 105 = .ok (.getfield 63, 3) := by decide +kernel
theorem dX1_copyFrom_108 : decode cX1_copyFrom 108 = .ok (.if_icmp .ge 24, 3) := by decide +kernel
theorem dX1_copyFrom_111 : decode cX1_copyFrom 111 = .ok (.aload_n 0, 1) := by decide +kernel
theorem dX1_copyFrom_112 : decode cX1_copyFrom 112 = .ok (.getfield 24, 3) := by decide +kernel
theorem dX1_copyFrom_115 : decode cX1_copyFrom 115 = .ok (.iload_n 2, 1) := by decide +kernel
theorem dX1_copyFrom_116 : decode cX1_copyFrom 116 = .ok (.aaload, 1) := by decide +kernel
theorem dX1_copyFrom_117 : decode cX1_copyFrom 117 = .ok (.aload_n 1, 1) := by decide +kernel
theorem dX1_copyFrom_118 : decode cX1_copyFrom 118 = .ok (.getfield 24, 3) := by decide +kernel
theorem dX1_copyFrom_121 : decode cX1_copyFrom 121 = .ok (.iload_n 2, 1) := by decide +kernel
theorem dX1_copyFrom_122 : decode cX1_copyFrom 122 = .ok (.aaload, 1) := by decide +kernel
theorem dX1_copyFrom_123 : decode cX1_copyFrom 123 = .ok (.invokevirtual 66, 3) := by decide +kernel
theorem dX1_copyFrom_126 : decode cX1_copyFrom 126 = .ok (.iinc 2 1, 3) := by decide +kernel
theorem dX1_copyFrom_129 : decode cX1_copyFrom 129 = .ok (.goto (-26), 3) := by decide +kernel
theorem dX1_copyFrom_132 : decode cX1_copyFrom 132 = .ok (.aload_n 0, 1) := by decide +kernel
theorem dX1_copyFrom_133 : decode cX1_copyFrom 133 = .ok (.getfield 31, 3) := by decide +kernel
theorem dX1_copyFrom_136 : decode cX1_copyFrom 136 = .ok (.aload_n 1, 1) := by decide +kernel
theorem dX1_copyFrom_137 : decode cX1_copyFrom 137 = .ok (.getfield 31, 3) := by decide +kernel
theorem dX1_copyFrom_140 : decode cX1_copyFrom 140 = .ok (.invokevirtual 70, 3) := by decide +kernel
theorem dX1_copyFrom_143 : decode cX1_copyFrom 143 = .ok (.return_, 1) := by decide +kernel
theorem dX1_obey_0 : decode cX1_obey 0 = .ok (.aload_n 0, 1) := by decide +kernel
theorem dX1_obey_1 : decode cX1_obey 1 = .ok (.aload_n 1, 1) := by decide +kernel
theorem dX1_obey_2 : decode cX1_obey 2 = .ok (.invokevirtual 73, 3) := by decide +kernel
theorem dX1_obey_5 : decode cX1_obey 5 = .ok (.ifCond .ne 5, 3) := by decide +kernel
theorem dX1_obey_8 : decode cX1_obey 8 = .ok (.iconst 0, 1) := by decide +kernel
theorem dX1_obey_9 : decode cX1_obey 9 = .ok (.ireturn, 1) := by decide +kernel
theorem dX1_obey_10 : decode cX1_obey 10 = .ok (.aload_n 1, 1) := by decide +kernel
theorem dX1_obey_11 : decode cX1_obey 11 = .ok (.getfield 77, 3) := by decide +kernel
theorem dX1_obey_14 : decode cX1_obey 14 = .ok (.bipush 98, 2) := by decide +kernel
theorem dX1_obey_16 : decode cX1_obey 16 = .ok (.if_icmp .ne 27, 3) := by decide +kernel
theorem dX1_obey_19 : decode cX1_obey 19 = .ok (.aload_n 0, 1) := by decide +kernel
theorem dX1_obey_20 : decode cX1_obey 20 = .ok (.aload_n 1, 1) := by decide +kernel
theorem dX1_obey_21 : decode cX1_obey 21 = .ok (.getfield 83, 3) := by decide +kernel
theorem dX1_obey_24 : decode cX1_obey 24 = .ok (.aload_n 1, 1) := by decide +kernel
theorem dX1_obey_25 : decode cX1_obey 25 = .ok (.getfield 86, 3) := by decide +kernel
theorem dX1_obey_28 : decode cX1_obey 28 = .ok (.aload_n 1, 1) := by decide +kernel
theorem dX1_obey_29 : decode cX1_obey 29 = .ok (.getfield 89, 3) := by decide +kernel
theorem dX1_obey_32 : decode cX1_obey 32 = .ok (.aload_n 1, 1) := by decide +kernel
theorem dX1_obey_33 : decode cX1_obey 33 = .ok (.getfield 92, 3) := by decide +kernel
theorem dX1_obey_36 : decode cX1_obey 36 = .ok (.invokevirtual 96, 3) := by decide +kernel
theorem dX1_obey_39 : decode cX1_obey 39 = .ok (.pop, 1) := by decide +kernel
theorem dX1_obey_40 : decode cX1_obey 40 = .ok (.goto 130, 3) := by decide +kernel
theorem dX1_obey_43 : decode cX1_obey 43 = .ok (.aload_n 1, 1) := by decide +kernel
theorem dX1_obey_44 : decode cX1_obey 44 = .ok (.getfield 77, 3) := by decide +kernel
theorem dX1_obey_47 : decode cX1_obey 47 = .ok (.bipush 114, 2) := by decide +kernel
theorem dX1_obey_49 : decode cX1_obey 49 = .ok (.if_icmp .ne 26, 3) := by decide +kernel
theorem dX1_obey_52 : decode cX1_obey 52 = .ok (.aload_n 0, 1) := by decide +kernel
theorem dX1_obey_53 : decode cX1_obey 53 = .ok (.aload_n 1, 1) := by decide +kernel
theorem dX1_obey_54 : decode cX1_obey 54 = .ok (.getfield 83, 3) := by decide +kernel
theorem dX1_obey_57 : decode cX1_obey 57 = .ok (.aload_n 1, 1) := by decide +kernel
theorem dX1_obey_58 : decode cX1_obey 58 = .ok (.getfield 100, 3) := by decide +kernel
theorem dX1_obey_61 : decode cX1_obey 61 = .ok (.aload_n 1, 1) := by decide +kernel
theorem dX1_obey_62 : decode cX1_obey 62 = .ok (.getfield 103, 3) := by decide +kernel
theorem dX1_obey_65 : decode cX1_obey 65 = .ok (.aload_n 1, 1) := by decide +kernel
theorem dX1_obey_66 : decode cX1_obey 66 = .ok (.getfield 89, 3) := by decide +kernel
theorem dX1_obey_69 : decode cX1_obey 69 = .ok (.invokevirtual 106, 3) := by decide +kernel
theorem dX1_obey_72 : decode cX1_obey 72 = .ok (.goto 98, 3) := by decide +kernel
theorem dX1_obey_75 : decode cX1_obey 75 = .ok (.aload_n 1, 1) := by decide +kernel
theorem dX1_obey_76 : decode cX1_obey 76 = .ok (.getfield 77, 3) := by decide +kernel
theorem dX1_obey_79 : decode cX1_obey 79 = .ok (.bipush 102, 2) := by decide +kernel
theorem dX1_obey_81 : decode cX1_obey 81 = .ok (.if_icmp .ne 18, 3) := by decide +kernel
theorem dX1_obey_84 : decode cX1_obey 84 = .ok (.aload_n 0, 1) := by decide +kernel
theorem dX1_obey_85 : decode cX1_obey 85 = .ok (.aload_n 1, 1) := by decide +kernel
theorem dX1_obey_86 : decode cX1_obey 86 = .ok (.getfield 83, 3) := by decide +kernel
theorem dX1_obey_89 : decode cX1_obey 89 = .ok (.aload_n 1, 1) := by decide +kernel
theorem dX1_obey_90 : decode cX1_obey 90 = .ok (.getfield 89, 3) := by decide +kernel
theorem dX1_obey_93 : decode cX1_obey 93 = .ok (.invokevirtual 110, 3) := by decide +kernel
theorem dX1_obey_96 : decode cX1_obey 96 = .ok (.goto 74, 3) := by decide +kernel
theorem dX1_obey_99 : decode cX1_obey 99 = .ok (.aload_n 1, 1) := by decide +kernel
theorem dX1_obey_100 : decode cX1_obey 100 = .ok (.getfield 77, 3) := by decide +kernel
theorem dX1_obey_103 : decode cX1_obey 103 = .ok (.bipush 99, 2) := by decide +kernel
theorem dX1_obey_105 : decode cX1_obey 105 = .ok (.if_icmp .ne 23, 3) := by decide +kernel
theorem dX1_obey_108 : decode cX1_obey 108 = .ok (.aload_n 0, 1) := by decide +kernel
theorem dX1_obey_109 : decode cX1_obey 109 = .ok (.aload_n 1, 1) := by decide +kernel
theorem dX1_obey_110 : decode cX1_obey 110 = .ok (.getfield 89, 3) := by decide +kernel
theorem dX1_obey_113 : decode cX1_obey 113 = .ok (.aload_n 1, 1) := by decide +kernel
theorem dX1_obey_114 : decode cX1_obey 114 = .ok (.getfield 86, 3) := by decide +kernel
theorem dX1_obey_117 : decode cX1_obey 117 = .ok (.aload_n 1, 1) := by decide +kernel
theorem dX1_obey_118 : decode cX1_obey 118 = .ok (.getfield 103, 3) := by decide +kernel
theorem dX1_obey_121 : decode cX1_obey 121 = .ok (.invokevirtual 114, 3) := by decide +kernel
theorem dX1_obey_124 : decode cX1_obey 124 = .ok (.pop, 1) := by decide +kernel
theorem dX1_obey_125 : decode cX1_obey 125 = .ok (.goto 45, 3) := by decide +kernel
theorem dX1_obey_128 : decode cX1_obey 128 = .ok (.aload_n 1, 1) := by decide +kernel
theorem dX1_obey_129 : decode cX1_obey 129 = .ok (.getfield 77, 3) := by decide +kernel
theorem dX1_obey_132 : decode cX1_obey 132 = .ok (.bipush 119, 2) := by decide +kernel
theorem dX1_obey_134 : decode cX1_obey 134 = .ok (.if_icmp .ne 19, 3) := by decide +kernel
theorem dX1_obey_137 : decode cX1_obey 137 = .ok (.aload_n 0, 1) := by decide +kernel
theorem dX1_obey_138 : decode cX1_obey 138 = .ok (.getfield 15, 3) := by decide +kernel
theorem dX1_obey_141 : decode cX1_obey 141 = .ok (.aload_n 1, 1) := by decide +kernel
theorem dX1_obey_142 : decode cX1_obey 142 = .ok (.getfield 83, 3) := by decide +kernel
theorem dX1_obey_145 : decode cX1_obey 145 = .ok (.aload_n 1, 1) := by decide +kernel
theorem dX1_obey_146 : decode cX1_obey 146 = .ok (.getfield 89, 3) := by decide +kernel
theorem dX1_obey_149 : decode cX1_obey 149 = .ok (.iastore, 1) := by decide +kernel
theorem dX1_obey_150 : decode cX1_obey 150 = .ok (.goto 20, 3) := by decide +kernel
theorem dX1_obey_153 : decode cX1_obey 153 = .ok (.aload_n 1, 1) := by decide +kernel
theorem dX1_obey_154 : decode cX1_obey 154 = .ok (.getfield 77, 3) := by decide +kernel
theorem dX1_obey_157 : decode cX1_obey 157 = .ok (.bipush 112, 2) := by decide +kernel
theorem dX1_obey_159 : decode cX1_obey 159 = .ok (.if_icmp .ne 11, 3) := by decide +kernel
theorem dX1_obey_162 : decode cX1_obey 162 = .ok (.aload_n 0, 1) := by decide +kernel
theorem dX1_obey_163 : decode cX1_obey 163 = .ok (.aload_n 1, 1) := by decide +kernel
theorem dX1_obey_164 : decode cX1_obey 164 = .ok (.getfield 89, 3) := by decide +kernel
theorem dX1_obey_167 : decode cX1_obey 167 = .ok (.invokevirtual 118, 3) := by decide +kernel
theorem dX1_obey_170 : decode cX1_obey 170 = .ok (.iconst 1, 1) := by decide +kernel
theorem dX1_obey_171 : decode cX1_obey 171 = .ok (.ireturn, 1) := by decide +kernel
theorem dX1_canObey_0 : decode cX1_canObey 0 = .ok (.aload_n 1, 1) := by decide +kernel
theorem dX1_canObey_1 : decode cX1_canObey 1 = .ok (.getfield 77, 3) := by decide +kernel
theorem dX1_canObey_4 : decode cX1_canObey 4 = .ok (.bipush 98, 2) := by decide +kernel
theorem dX1_canObey_6 : decode cX1_canObey 6 = .ok (.if_icmp .ne 16, 3) := by decide +kernel
theorem dX1_canObey_9 : decode cX1_canObey 9 = .ok (.aload_n 0, 1) := by decide +kernel
theorem dX1_canObey_10 : decode cX1_canObey 10 = .ok (.aload_n 1, 1) := by decide +kernel
theorem dX1_canObey_11 : decode cX1_canObey 11 = .ok (.getfield 83, 3) := by decide +kernel
theorem dX1_canObey_14 : decode cX1_canObey 14 = .ok (.aload_n 1, 1) := by decide +kernel
theorem dX1_canObey_15 : decode cX1_canObey 15 = .ok (.getfield 92, 3) := by decide +kernel
theorem dX1_canObey_18 : decode cX1_canObey 18 = .ok (.invokevirtual 122, 3) := by decide +kernel
theorem dX1_canObey_21 : decode cX1_canObey 21 = .ok (.ireturn, 1) := by decide +kernel
theorem dX1_canObey_22 : decode cX1_canObey 22 = .ok (.aload_n 1, 1) := by decide +kernel
theorem dX1_canObey_23 : decode cX1_canObey 23 = .ok (.getfield 77, 3) := by decide +kernel
theorem dX1_canObey_26 : decode cX1_canObey 26 = .ok (.bipush 114, 2) := by decide +kernel
theorem dX1_canObey_28 : decode cX1_canObey 28 = .ok (.if_icmp .ne 20, 3) := by decide +kernel
theorem dX1_canObey_31 : decode cX1_canObey 31 = .ok (.aload_n 0, 1) := by decide +kernel
theorem dX1_canObey_32 : decode cX1_canObey 32 = .ok (.aload_n 1, 1) := by decide +kernel
theorem dX1_canObey_33 : decode cX1_canObey 33 = .ok (.getfield 83, 3) := by decide +kernel
theorem dX1_canObey_36 : decode cX1_canObey 36 = .ok (.aload_n 1, 1) := by decide +kernel
theorem dX1_canObey_37 : decode cX1_canObey 37 = .ok (.getfield 100, 3) := by decide +kernel
theorem dX1_canObey_40 : decode cX1_canObey 40 = .ok (.aload_n 1, 1) := by decide +kernel
theorem dX1_canObey_41 : decode cX1_canObey 41 = .ok (.getfield 89, 3) := by decide +kernel
theorem dX1_canObey_44 : decode cX1_canObey 44 = .ok (.invokevirtual 126, 3) := by decide +kernel
theorem dX1_canObey_47 : decode cX1_canObey 47 = .ok (.ireturn, 1) := by decide +kernel
theorem dX1_canObey_48 : decode cX1_canObey 48 = .ok (.aload_n 1, 1) := by decide +kernel
theorem dX1_canObey_49 : decode cX1_canObey 49 = .ok (.getfield 77, 3) := by decide +kernel
theorem dX1_canObey_52 : decode cX1_canObey 52 = .ok (.bipush 102, 2) := by decide +kernel
theorem dX1_canObey_54 : decode cX1_canObey 54 = .ok (.if_icmp .ne 16, 3) := by decide +kernel
theorem dX1_canObey_57 : decode cX1_canObey 57 = .ok (.aload_n 0, 1) := by decide +kernel
theorem dX1_canObey_58 : decode cX1_canObey 58 = .ok (.aload_n 1, 1) := by decide +kernel
theorem dX1_canObey_59 : decode cX1_canObey 59 = .ok (.getfield 83, 3) := by decide +kernel
theorem dX1_canObey_62 : decode cX1_canObey 62 = .ok (.aload_n 1, 1) := by decide +kernel
theorem dX1_canObey_63 : decode cX1_canObey 63 = .ok (.getfield 89, 3) := by decide +kernel
theorem dX1_canObey_66 : decode cX1_canObey 66 = .ok (.invokevirtual 130, 3) := by decide +kernel
theorem dX1_canObey_69 : decode cX1_canObey 69 = .ok (.ireturn, 1) := by decide +kernel
theorem dX1_canObey_70 : decode cX1_canObey 70 = .ok (.aload_n 1, 1) := by decide +kernel
theorem dX1_canObey_71 : decode cX1_canObey 71 = .ok (.getfield 77, 3) := by decide +kernel
theorem dX1_canObey_74 : decode cX1_canObey 74 = .ok (.bipush 99, 2) := by decide +kernel
theorem dX1_canObey_76 : decode cX1_canObey 76 = .ok (.if_icmp .ne 11, 3) := by decide +kernel
theorem dX1_canObey_79 : decode cX1_canObey 79 = .ok (.aload_n 0, 1) := by decide +kernel
theorem dX1_canObey_80 : decode cX1_canObey 80 = .ok (.getfield 31, 3) := by decide +kernel
theorem dX1_canObey_83 : decode cX1_canObey 83 = .ok (.invokevirtual 134, 3) := by decide +kernel
theorem dX1_canObey_86 : decode cX1_canObey 86 = .ok (.ireturn, 1) := by decide +kernel
theorem dX1_canObey_87 : decode cX1_canObey 87 = .ok (.aload_n 1, 1) := by decide +kernel
theorem dX1_canObey_88 : decode cX1_canObey 88 = .ok (.getfield 77, 3) := by decide +kernel
theorem dX1_canObey_91 : decode cX1_canObey 91 = .ok (.bipush 119, 2) := by decide +kernel
theorem dX1_canObey_93 : decode cX1_canObey 93 = .ok (.if_icmp .ne 25, 3) := by decide +kernel
theorem dX1_canObey_96 : decode cX1_canObey 96 = .ok (.aload_n 1, 1) := by decide +kernel
theorem dX1_canObey_97 : decode cX1_canObey 97 = .ok (.getfield 83, 3) := by decide +kernel
theorem dX1_canObey_100 : decode cX1_canObey 100 = .ok (.ifCond .lt 16, 3) := by decide +kernel
theorem dX1_canObey_103 : decode cX1_canObey 103 = .ok (.aload_n 1, 1) := by decide +kernel
theorem dX1_canObey_104 : decode cX1_canObey 104 = .ok (.getfield 83, 3) := by decide +kernel
theorem dX1_canObey_107 : decode cX1_canObey 107 = .ok (.bipush 10, 2) := by decide +kernel
theorem dX1_canObey_109 : decode cX1_canObey 109 = .ok (.if_icmp .ge 7, 3) := by decide +kernel
theorem dX1_canObey_112 : decode cX1_canObey 112 = .ok (.iconst 1, 1) := by decide +kernel
theorem dX1_canObey_113 : decode cX1_canObey 113 = .ok (.goto 4, 3) := by decide +kernel
theorem dX1_canObey_116 : decode cX1_canObey 116 = .ok (.iconst 0, 1) := by decide +kernel
theorem dX1_canObey_117 : decode cX1_canObey 117 = .ok (.ireturn, 1) := by decide +kernel
theorem dX1_canObey_118 : decode cX1_canObey 118 = .ok (.aload_n 0, 1) := by decide +kernel
theorem dX1_canObey_119 : decode cX1_canObey 119 = .ok (.aload_n 1, 1) := by decide +kernel
theorem dX1_canObey_120 : decode cX1_canObey 120 = .ok (.getfield 89, 3) := by decide +kernel
theorem dX1_canObey_123 : decode cX1_canObey 123 = .ok (.invokevirtual 138, 3) := by decide +kernel
theorem dX1_canObey_126 : decode cX1_canObey 126 = .ok (.ireturn, 1) := by decide +kernel
theorem dX1_hasStall_0 : decode cX1_hasStall 0 = .ok (.iload_n 1, 1) := by decide +kernel
theorem dX1_hasStall_1 : decode cX1_hasStall 1 = .ok (.ifCond .lt 15, 3) := by decide +kernel
theorem dX1_hasStall_4 : decode cX1_hasStall 4 = .ok (.iload_n 1, 1) := by decide +kernel
theorem dX1_hasStall_5 : decode cX1_hasStall 5 = .ok (.aload_n 0, 1) := by decide +kernel
theorem dX1_hasStall_6 : decode cX1_hasStall 6 = .ok (.getfield 63, 3) := by decide +kernel
theorem dX1_hasStall_9 : decode cX1_hasStall 9 = .ok (.if_icmp .ge 7, 3) := by decide +kernel
theorem dX1_hasStall_12 : decode cX1_hasStall 12 = .ok (.iconst 1, 1) := by decide +kernel
theorem dX1_hasStall_13 : decode cX1_hasStall 13 = .ok (.goto 4, 3) := by decide +kernel
theorem dX1_hasStall_16 : decode cX1_hasStall 16 = .ok (.iconst 0, 1) := by decide +kernel
theorem dX1_hasStall_17 : decode cX1_hasStall 17 = .ok (.ireturn, 1) := by decide +kernel
theorem dX1_canBuild_0 : decode cX1_canBuild 0 = .ok (.aload_n 0, 1) := by decide +kernel
theorem dX1_canBuild_1 : decode cX1_canBuild 1 = .ok (.iload_n 1, 1) := by decide +kernel
theorem dX1_canBuild_2 : decode cX1_canBuild 2 = .ok (.invokevirtual 142, 3) := by decide +kernel
theorem dX1_canBuild_5 : decode cX1_canBuild 5 = .ok (.iconst (-1), 1) := by decide +kernel
theorem dX1_canBuild_6 : decode cX1_canBuild 6 = .ok (.if_icmp .ne 27, 3) := by decide +kernel
theorem dX1_canBuild_9 : decode cX1_canBuild 9 = .ok (.aload_n 0, 1) := by decide +kernel
theorem dX1_canBuild_10 : decode cX1_canBuild 10 = .ok (.getfield 63, 3) := by decide +kernel
theorem dX1_canBuild_13 : decode cX1_canBuild 13 = .ok (.bipush 6, 2) := by decide +kernel
theorem dX1_canBuild_15 : decode cX1_canBuild 15 = .ok (.if_icmp .ge 18, 3) := by decide +kernel
theorem dX1_canBuild_18 : decode cX1_canBuild 18 = .ok (.aload_n 0, 1) := by decide +kernel
theorem dX1_canBuild_19 : decode cX1_canBuild 19 = .ok (.getfield 9, 3) := by decide +kernel
theorem dX1_canBuild_22 : decode cX1_canBuild 22 = .ok (.iload_n 2, 1) := by decide +kernel
theorem dX1_canBuild_23 : decode cX1_canBuild 23 = .ok (.invokestatic 146, 3) := by decide +kernel
theorem dX1_canBuild_26 : decode cX1_canBuild 26 = .ok (.if_icmp .lt 7, 3) := by decide +kernel
theorem dX1_canBuild_29 : decode cX1_canBuild 29 = .ok (.iconst 1, 1) := by decide +kernel
theorem dX1_canBuild_30 : decode cX1_canBuild 30 = .ok (.goto 4, 3) := by decide +kernel
theorem dX1_canBuild_33 : decode cX1_canBuild 33 = .ok (.iconst 0, 1) := by decide +kernel
theorem dX1_canBuild_34 : decode cX1_canBuild 34 = .ok (.ireturn, 1) := by decide +kernel
theorem dX1_buildStall_0 : decode cX1_buildStall 0 = .ok (.iload 4, 2) := by decide +kernel
theorem dX1_buildStall_2 : decode cX1_buildStall 2 = .ok (.invokestatic 146, 3) := by decide +kernel
theorem dX1_buildStall_5 : decode cX1_buildStall 5 = .ok (.istore 5, 2) := by decide +kernel
theorem dX1_buildStall_7 : decode cX1_buildStall 7 = .ok (.aload_n 0, 1) := by decide +kernel
theorem dX1_buildStall_8 : decode cX1_buildStall 8 = .ok (.dup, 1) := by decide +kernel
theorem dX1_buildStall_9 : decode cX1_buildStall 9 = .ok (.getfield 9, 3) := by decide +kernel
theorem dX1_buildStall_12 : decode cX1_buildStall 12 = .ok (.iload 5, 2) := by decide +kernel
theorem dX1_buildStall_14 : decode cX1_buildStall 14 = .ok (.isub, 1) := by decide +kernel
theorem dX1_buildStall_15 : decode cX1_buildStall 15 = .ok (.putfield 9, 3) := by decide +kernel
theorem dX1_buildStall_18 : decode cX1_buildStall 18 = .ok (.aload_n 0, 1) := by decide +kernel
theorem dX1_buildStall_19 : decode cX1_buildStall 19 = .ok (.dup, 1) := by decide +kernel
theorem dX1_buildStall_20 : decode cX1_buildStall 20 = .ok (.getfield 39, 3) := by decide +kernel
theorem dX1_buildStall_23 : decode cX1_buildStall 23 = .ok (.iload 5, 2) := by decide +kernel
theorem dX1_buildStall_25 : decode cX1_buildStall 25 = .ok (.iadd, 1) := by decide +kernel
theorem dX1_buildStall_26 : decode cX1_buildStall 26 = .ok (.putfield 39, 3) := by decide +kernel
theorem dX1_buildStall_29 : decode cX1_buildStall 29 = .ok (.aload_n 0, 1) := by decide +kernel
theorem dX1_buildStall_30 : decode cX1_buildStall 30 = .ok (.iload_n 1, 1) := by decide +kernel
theorem dX1_buildStall_31 : decode cX1_buildStall 31 = .ok (.iload_n 2, 1) := by decide +kernel
theorem dX1_buildStall_32 : decode cX1_buildStall 32 = .ok (.iload_n 3, 1) := by decide +kernel
theorem dX1_buildStall_33 : decode cX1_buildStall 33 = .ok (.iload 4, 2) := by decide +kernel
theorem dX1_buildStall_35 : decode cX1_buildStall 35 = .ok (.invokevirtual 150, 3) := by decide +kernel
theorem dX1_buildStall_38 : decode cX1_buildStall 38 = .ok (.ireturn, 1) := by decide +kernel
theorem dX1_addStall_0 : decode cX1_addStall 0 = .ok (.aload_n 0, 1) := by decide +kernel
theorem dX1_addStall_1 : decode cX1_addStall 1 = .ok (.getfield 63, 3) := by decide +kernel
theorem dX1_addStall_4 : decode cX1_addStall 4 = .ok (.istore 5, 2) := by decide +kernel
theorem dX1_addStall_6 : decode cX1_addStall 6 = .ok (.iload 5, 2) := by decide +kernel
theorem dX1_addStall_8 : decode cX1_addStall 8 = .ok (.bipush 6, 2) := by decide +kernel
theorem dX1_addStall_10 : decode cX1_addStall 10 = .ok (.if_icmp .gt 28, 3) := by decide +kernel
theorem dX1_addStall_13 : decode cX1_addStall 13 = .ok (.aload_n 0, 1) := by decide +kernel
theorem dX1_addStall_14 : decode cX1_addStall 14 = .ok (.getfield 24, 3) := by decide +kernel
theorem dX1_addStall_17 : decode cX1_addStall 17 = .ok (.iload 5, 2) := by decide +kernel
theorem dX1_addStall_19 : decode cX1_addStall 19 = .ok (.aaload, 1) := by decide +kernel
theorem dX1_addStall_20 : decode cX1_addStall 20 = .ok (.iload_n 1, 1) := by decide +kernel
theorem dX1_addStall_21 : decode cX1_addStall 21 = .ok (.iload_n 2, 1) := by decide +kernel
theorem dX1_addStall_22 : decode cX1_addStall 22 = .ok (.iload_n 3, 1) := by decide +kernel
theorem dX1_addStall_23 : decode cX1_addStall 23 = .ok (.iload 4, 2) := by decide +kernel
theorem dX1_addStall_25 : decode cX1_addStall 25 = .ok (.invokevirtual 153, 3) := by decide +kernel
theorem dX1_addStall_28 : decode cX1_addStall 28 = .ok (.aload_n 0, 1) := by decide +kernel
theorem dX1_addStall_29 : decode cX1_addStall 29 = .ok (.dup, 1) := by decide +kernel
theorem dX1_addStall_30 : decode cX1_addStall 30 = .ok (.getfield 63, 3) := by decide +kernel
theorem dX1_addStall_33 : decode cX1_addStall 33 = .ok (.iconst 1, 1) := by decide +kernel
theorem dX1_addStall_34 : decode cX1_addStall 34 = .ok (.iadd, 1) := by decide +kernel
theorem dX1_addStall_35 : decode cX1_addStall 35 = .ok (.putfield 63, 3) := by decide +kernel
theorem dX1_addStall_38 : decode cX1_addStall 38 = .ok (.iload 5, 2) := by decide +kernel
theorem dX1_addStall_40 : decode cX1_addStall 40 = .ok (.ireturn, 1) := by decide +kernel
theorem dX1_removeStall_0 : decode cX1_removeStall 0 = .ok (.iload_n 1, 1) := by decide +kernel
theorem dX1_removeStall_1 : decode cX1_removeStall 1 = .ok (.istore_n 2, 1) := by decide +kernel
theorem dX1_removeStall_2 : decode cX1_removeStall 2 = .ok (.iload_n 2, 1) := by decide +kernel
theorem dX1_removeStall_3 : decode cX1_removeStall 3 = .ok (.iconst 1, 1) := by decide +kernel
theorem dX1_removeStall_4 : decode cX1_removeStall 4 = .ok (.iadd, 1) := by decide +kernel
theorem dX1_removeStall_5 : decode cX1_removeStall 5 = .ok (.aload_n 0, 1) := by decide +kernel
theorem dX1_removeStall_6 : decode cX1_removeStall 6 = .ok (.getfield 63, 3) := by decide +kernel
theorem dX1_removeStall_9 : decode cX1_removeStall 9 = .ok (.if_icmp .ge 26, 3) := by decide +kernel
theorem dX1_removeStall_12 : decode cX1_removeStall 12 = .ok (.aload_n 0, 1) := by decide +kernel
theorem dX1_removeStall_13 : decode cX1_removeStall 13 = .ok (.getfield 24, 3) := by decide +kernel
theorem dX1_removeStall_16 : decode cX1_removeStall 16 = .ok (.iload_n 2, 1) := by decide +kernel
theorem dX1_removeStall_17 : decode cX1_removeStall 17 = .ok (.aaload, 1) := by decide +kernel
theorem dX1_removeStall_18 : decode cX1_removeStall 18 = .ok (.aload_n 0, 1) := by decide +kernel
theorem dX1_removeStall_19 : decode cX1_removeStall 19 = .ok (.getfield 24, 3) := by decide +kernel
theorem dX1_removeStall_22 : decode cX1_removeStall 22 = .ok (.iload_n 2, 1) := by decide +kernel
theorem dX1_removeStall_23 : decode cX1_removeStall 23 = .ok (.iconst 1, 1) := by decide +kernel
theorem dX1_removeStall_24 : decode cX1_removeStall 24 = .ok (.iadd, 1) := by decide +kernel
theorem dX1_removeStall_25 : decode cX1_removeStall 25 = .ok (.aaload, 1) := by decide +kernel
theorem dX1_removeStall_26 : decode cX1_removeStall 26 = .ok (.invokevirtual 66, 3) := by decide +kernel
theorem dX1_removeStall_29 : decode cX1_removeStall 29 = .ok (.iinc 2 1, 3) := by decide +kernel
theorem dX1_removeStall_32 : decode cX1_removeStall 32 = .ok (.goto (-30), 3) := by decide +kernel
theorem dX1_removeStall_35 : decode cX1_removeStall 35 = .ok (.aload_n 0, 1) := by decide +kernel
theorem dX1_removeStall_36 : decode cX1_removeStall 36 = .ok (.dup, 1) := by decide +kernel
theorem dX1_removeStall_37 : decode cX1_removeStall 37 = .ok (.getfield 63, 3) := by decide +kernel
theorem dX1_removeStall_40 : decode cX1_removeStall 40 = .ok (.iconst 1, 1) := by decide +kernel
theorem dX1_removeStall_41 : decode cX1_removeStall 41 = .ok (.isub, 1) := by decide +kernel
theorem dX1_removeStall_42 : decode cX1_removeStall 42 = .ok (.putfield 63, 3) := by decide +kernel
theorem dX1_removeStall_45 : decode cX1_removeStall 45 = .ok (.return_, 1) := by decide +kernel
theorem dX1_canRestock_0 : decode cX1_canRestock 0 = .ok (.aload_n 0, 1) := by decide +kernel
theorem dX1_canRestock_1 : decode cX1_canRestock 1 = .ok (.iload_n 1, 1) := by decide +kernel
theorem dX1_canRestock_2 : decode cX1_canRestock 2 = .ok (.invokevirtual 157, 3) := by decide +kernel
theorem dX1_canRestock_5 : decode cX1_canRestock 5 = .ok (.ifCond .eq 41, 3) := by decide +kernel
theorem dX1_canRestock_8 : decode cX1_canRestock 8 = .ok (.aload_n 0, 1) := by decide +kernel
theorem dX1_canRestock_9 : decode cX1_canRestock 9 = .ok (.getfield 24, 3) := by decide +kernel
theorem dX1_canRestock_12 : decode cX1_canRestock 12 = .ok (.iload_n 1, 1) := by decide +kernel
theorem dX1_canRestock_13 : decode cX1_canRestock 13 = .ok (.aaload, 1) := by decide +kernel
theorem dX1_canRestock_14 : decode cX1_canRestock 14 = .ok (.invokevirtual 160, 3) := by decide +kernel
theorem dX1_canRestock_17 : decode cX1_canRestock 17 = .ok (.iload_n 3, 1) := by decide +kernel
theorem dX1_canRestock_18 : decode cX1_canRestock 18 = .ok (.iadd, 1) := by decide +kernel
theorem dX1_canRestock_19 : decode cX1_canRestock 19 = .ok (.bipush 40, 2) := by decide +kernel
theorem dX1_canRestock_21 : decode cX1_canRestock 21 = .ok (.if_icmp .gt 25, 3) := by decide +kernel
theorem dX1_canRestock_24 : decode cX1_canRestock 24 = .ok (.aload_n 0, 1) := by decide +kernel
theorem dX1_canRestock_25 : decode cX1_canRestock 25 = .ok (.getfield 24, 3) := by decide +kernel
theorem dX1_canRestock_28 : decode cX1_canRestock 28 = .ok (.iload_n 1, 1) := by decide +kernel
theorem dX1_canRestock_29 : decode cX1_canRestock 29 = .ok (.aaload, 1) := by decide +kernel
theorem dX1_canRestock_30 : decode cX1_canRestock 30 = .ok (.getfield 164, 3) := by decide +kernel
theorem dX1_canRestock_33 : decode cX1_canRestock 33 = .ok (.iload_n 2, 1) := by decide +kernel
theorem dX1_canRestock_34 : decode cX1_canRestock 34 = .ok (.invokestatic 167, 3) := by decide +kernel
theorem dX1_canRestock_37 : decode cX1_canRestock 37 = .ok (.iload_n 3, 1) := by decide +kernel
theorem dX1_canRestock_38 : decode cX1_canRestock 38 = .ok (.imul, 1) := by decide +kernel
theorem dX1_canRestock_39 : decode cX1_canRestock 39 = .ok (.if_icmp .lt 7, 3) := by decide +kernel
theorem dX1_canRestock_42 : decode cX1_canRestock 42 = .ok (.iconst 1, 1) := by decide +kernel
theorem dX1_canRestock_43 : decode cX1_canRestock 43 = .ok (.goto 4, 3) := by decide +kernel
theorem dX1_canRestock_46 : decode cX1_canRestock 46 = .ok (.iconst 0, 1) := by decide +kernel
theorem dX1_canRestock_47 : decode cX1_canRestock 47 = .ok (.ireturn, 1) := by decide +kernel
theorem dX1_putPrizes_0 : decode cX1_putPrizes 0 = .ok (.iload_n 2, 1) := by decide +kernel
theorem dX1_putPrizes_1 : decode cX1_putPrizes 1 = .ok (.invokestatic 167, 3) := by decide +kernel
theorem dX1_putPrizes_4 : decode cX1_putPrizes 4 = .ok (.iload 4, 2) := by decide +kernel
theorem dX1_putPrizes_6 : decode cX1_putPrizes 6 = .ok (.imul, 1) := by decide +kernel
theorem dX1_putPrizes_7 : decode cX1_putPrizes 7 = .ok (.istore 5, 2) := by decide +kernel
theorem dX1_putPrizes_9 : decode cX1_putPrizes 9 = .ok (.aload_n 0, 1) := by decide +kernel
theorem dX1_putPrizes_10 : decode cX1_putPrizes 10 = .ok (.getfield 24, 3) := by decide +kernel
theorem dX1_putPrizes_13 : decode cX1_putPrizes 13 = .ok (.iload_n 1, 1) := by decide +kernel
theorem dX1_putPrizes_14 : decode cX1_putPrizes 14 = .ok (.aaload, 1) := by decide +kernel
theorem dX1_putPrizes_15 : decode cX1_putPrizes 15 = .ok (.dup, 1) := by decide +kernel
theorem dX1_putPrizes_16 : decode cX1_putPrizes 16 = .ok (.getfield 164, 3) := by decide +kernel
theorem dX1_putPrizes_19 : decode cX1_putPrizes 19 = .ok (.iload 5, 2) := by decide +kernel
theorem dX1_putPrizes_21 : decode cX1_putPrizes 21 = .ok (.isub, 1) := by decide +kernel
theorem dX1_putPrizes_22 : decode cX1_putPrizes 22 = .ok (.putfield 164, 3) := by decide +kernel
theorem dX1_putPrizes_25 : decode cX1_putPrizes 25 = .ok (.aload_n 0, 1) := by decide +kernel
theorem dX1_putPrizes_26 : decode cX1_putPrizes 26 = .ok (.dup, 1) := by decide +kernel
theorem dX1_putPrizes_27 : decode cX1_putPrizes 27 = .ok (.getfield 39, 3) := by decide +kernel
theorem dX1_putPrizes_30 : decode cX1_putPrizes 30 = .ok (.iload 5, 2) := by decide +kernel
theorem dX1_putPrizes_32 : decode cX1_putPrizes 32 = .ok (.iadd, 1) := by decide +kernel
theorem dX1_putPrizes_33 : decode cX1_putPrizes 33 = .ok (.putfield 39, 3) := by decide +kernel
theorem dX1_putPrizes_36 : decode cX1_putPrizes 36 = .ok (.aload_n 0, 1) := by decide +kernel
theorem dX1_putPrizes_37 : decode cX1_putPrizes 37 = .ok (.getfield 24, 3) := by decide +kernel
theorem dX1_putPrizes_40 : decode cX1_putPrizes 40 = .ok (.iload_n 1, 1) := by decide +kernel
theorem dX1_putPrizes_41 : decode cX1_putPrizes 41 = .ok (.aaload, 1) := by decide +kernel
theorem dX1_putPrizes_42 : decode cX1_putPrizes 42 = .ok (.getfield 170, 3) := by decide +kernel
theorem dX1_putPrizes_45 : decode cX1_putPrizes 45 = .ok (.iload_n 2, 1) := by decide +kernel
theorem dX1_putPrizes_46 : decode cX1_putPrizes 46 = .ok (.iconst 4, 1) := by decide +kernel
theorem dX1_putPrizes_47 : decode cX1_putPrizes 47 = .ok (.imul, 1) := by decide +kernel
theorem dX1_putPrizes_48 : decode cX1_putPrizes 48 = .ok (.iload_n 3, 1) := by decide +kernel
theorem dX1_putPrizes_49 : decode cX1_putPrizes 49 = .ok (.iadd, 1) := by decide +kernel
theorem dX1_putPrizes_50 : decode cX1_putPrizes 50 = .ok (.dup2, 1) := by decide +kernel
theorem dX1_putPrizes_51 : decode cX1_putPrizes 51 = .ok (.iaload, 1) := by decide +kernel
theorem dX1_putPrizes_52 : decode cX1_putPrizes 52 = .ok (.iload 4, 2) := by decide +kernel
theorem dX1_putPrizes_54 : decode cX1_putPrizes 54 = .ok (.iadd, 1) := by decide +kernel
theorem dX1_putPrizes_55 : decode cX1_putPrizes 55 = .ok (.iastore, 1) := by decide +kernel
theorem dX1_putPrizes_56 : decode cX1_putPrizes 56 = .ok (.return_, 1) := by decide +kernel
theorem dX1_canFund_0 : decode cX1_canFund 0 = .ok (.aload_n 0, 1) := by decide +kernel
theorem dX1_canFund_1 : decode cX1_canFund 1 = .ok (.iload_n 1, 1) := by decide +kernel
theorem dX1_canFund_2 : decode cX1_canFund 2 = .ok (.invokevirtual 157, 3) := by decide +kernel
theorem dX1_canFund_5 : decode cX1_canFund 5 = .ok (.ifCond .eq 15, 3) := by decide +kernel
theorem dX1_canFund_8 : decode cX1_canFund 8 = .ok (.aload_n 0, 1) := by decide +kernel
theorem dX1_canFund_9 : decode cX1_canFund 9 = .ok (.getfield 9, 3) := by decide +kernel
theorem dX1_canFund_12 : decode cX1_canFund 12 = .ok (.iload_n 2, 1) := by decide +kernel
theorem dX1_canFund_13 : decode cX1_canFund 13 = .ok (.if_icmp .lt 7, 3) := by decide +kernel
theorem dX1_canFund_16 : decode cX1_canFund 16 = .ok (.iconst 1, 1) := by decide +kernel
theorem dX1_canFund_17 : decode cX1_canFund 17 = .ok (.goto 4, 3) := by decide +kernel
theorem dX1_canFund_20 : decode cX1_canFund 20 = .ok (.iconst 0, 1) := by decide +kernel
theorem dX1_canFund_21 : decode cX1_canFund 21 = .ok (.ireturn, 1) := by decide +kernel
theorem dX1_giveCoins_0 : decode cX1_giveCoins 0 = .ok (.aload_n 0, 1) := by decide +kernel
theorem dX1_giveCoins_1 : decode cX1_giveCoins 1 = .ok (.dup, 1) := by decide +kernel
theorem dX1_giveCoins_2 : decode cX1_giveCoins 2 = .ok (.getfield 9, 3) := by decide +kernel
theorem dX1_giveCoins_5 : decode cX1_giveCoins 5 = .ok (.iload_n 2, 1) := by decide +kernel
theorem dX1_giveCoins_6 : decode cX1_giveCoins 6 = .ok (.isub, 1) := by decide +kernel
theorem dX1_giveCoins_7 : decode cX1_giveCoins 7 = .ok (.putfield 9, 3) := by decide +kernel
theorem dX1_giveCoins_10 : decode cX1_giveCoins 10 = .ok (.aload_n 0, 1) := by decide +kernel
theorem dX1_giveCoins_11 : decode cX1_giveCoins 11 = .ok (.getfield 24, 3) := by decide +kernel
theorem dX1_giveCoins_14 : decode cX1_giveCoins 14 = .ok (.iload_n 1, 1) := by decide +kernel
theorem dX1_giveCoins_15 : decode cX1_giveCoins 15 = .ok (.aaload, 1) := by decide +kernel
theorem dX1_giveCoins_16 : decode cX1_giveCoins 16 = .ok (.dup, 1) := by decide +kernel
theorem dX1_giveCoins_17 : decode cX1_giveCoins 17 = .ok (.getfield 164, 3) := by decide +kernel
theorem dX1_giveCoins_20 : decode cX1_giveCoins 20 = .ok (.iload_n 2, 1) := by decide +kernel
theorem dX1_giveCoins_21 : decode cX1_giveCoins 21 = .ok (.iadd, 1) := by decide +kernel
theorem dX1_giveCoins_22 : decode cX1_giveCoins 22 = .ok (.putfield 164, 3) := by decide +kernel
theorem dX1_giveCoins_25 : decode cX1_giveCoins 25 = .ok (.return_, 1) := by decide +kernel
theorem dX1_emptyPurse_0 : decode cX1_emptyPurse 0 = .ok (.aload_n 0, 1) := by decide +kernel
theorem dX1_emptyPurse_1 : decode cX1_emptyPurse 1 = .ok (.getfield 24, 3) := by decide +kernel
theorem dX1_emptyPurse_4 : decode cX1_emptyPurse 4 = .ok (.iload_n 1, 1) := by decide +kernel
theorem dX1_emptyPurse_5 : decode cX1_emptyPurse 5 = .ok (.aaload, 1) := by decide +kernel
theorem dX1_emptyPurse_6 : decode cX1_emptyPurse 6 = .ok (.getfield 164, 3) := by decide +kernel
theorem dX1_emptyPurse_9 : decode cX1_emptyPurse 9 = .ok (.istore_n 2, 1) := by decide +kernel
theorem dX1_emptyPurse_10 : decode cX1_emptyPurse 10 = .ok (.aload_n 0, 1) := by decide +kernel
theorem dX1_emptyPurse_11 : decode cX1_emptyPurse 11 = .ok (.getfield 24, 3) := by decide +kernel
theorem dX1_emptyPurse_14 : decode cX1_emptyPurse 14 = .ok (.iload_n 1, 1) := by decide +kernel
theorem dX1_emptyPurse_15 : decode cX1_emptyPurse 15 = .ok (.aaload, 1) := by decide +kernel
theorem dX1_emptyPurse_16 : decode cX1_emptyPurse 16 = .ok (.iconst 0, 1) := by decide +kernel
theorem dX1_emptyPurse_17 : decode cX1_emptyPurse 17 = .ok (.putfield 164, 3) := by decide +kernel
theorem dX1_emptyPurse_20 : decode cX1_emptyPurse 20 = .ok (.aload_n 0, 1) := by decide +kernel
theorem dX1_emptyPurse_21 : decode cX1_emptyPurse 21 = .ok (.dup, 1) := by decide +kernel
theorem dX1_emptyPurse_22 : decode cX1_emptyPurse 22 = .ok (.getfield 9, 3) := by decide +kernel
theorem dX1_emptyPurse_25 : decode cX1_emptyPurse 25 = .ok (.iload_n 2, 1) := by decide +kernel
theorem dX1_emptyPurse_26 : decode cX1_emptyPurse 26 = .ok (.iadd, 1) := by decide +kernel
theorem dX1_emptyPurse_27 : decode cX1_emptyPurse 27 = .ok (.putfield 9, 3) := by decide +kernel
theorem dX1_emptyPurse_30 : decode cX1_emptyPurse 30 = .ok (.iload_n 2, 1) := by decide +kernel
theorem dX1_emptyPurse_31 : decode cX1_emptyPurse 31 = .ok (.ireturn, 1) := by decide +kernel
theorem dX1_letIn_0 : decode cX1_letIn 0 = .ok (.aload_n 0, 1) := by decide +kernel
theorem dX1_letIn_1 : decode cX1_letIn 1 = .ok (.dup, 1) := by decide +kernel
theorem dX1_letIn_2 : decode cX1_letIn 2 = .ok (.getfield 42, 3) := by decide +kernel
theorem dX1_letIn_5 : decode cX1_letIn 5 = .ok (.iload_n 1, 1) := by decide +kernel
theorem dX1_letIn_6 : decode cX1_letIn 6 = .ok (.iadd, 1) := by decide +kernel
theorem dX1_letIn_7 : decode cX1_letIn 7 = .ok (.putfield 42, 3) := by decide +kernel
theorem dX1_letIn_10 : decode cX1_letIn 10 = .ok (.aload_n 0, 1) := by decide +kernel
theorem dX1_letIn_11 : decode cX1_letIn 11 = .ok (.getfield 31, 3) := by decide +kernel
theorem dX1_letIn_14 : decode cX1_letIn 14 = .ok (.iload_n 1, 1) := by decide +kernel
theorem dX1_letIn_15 : decode cX1_letIn 15 = .ok (.iload_n 2, 1) := by decide +kernel
theorem dX1_letIn_16 : decode cX1_letIn 16 = .ok (.iload_n 3, 1) := by decide +kernel
theorem dX1_letIn_17 : decode cX1_letIn 17 = .ok (.invokevirtual 173, 3) := by decide +kernel
theorem dX1_letIn_20 : decode cX1_letIn 20 = .ok (.ireturn, 1) := by decide +kernel
theorem dX1_findStall_0 : decode cX1_findStall 0 = .ok (.iconst 0, 1) := by decide +kernel
theorem dX1_findStall_1 : decode cX1_findStall 1 = .ok (.istore_n 2, 1) := by decide +kernel
theorem dX1_findStall_2 : decode cX1_findStall 2 = .ok (.iload_n 2, 1) := by decide +kernel
theorem dX1_findStall_3 : decode cX1_findStall 3 = .ok (.aload_n 0, 1) := by decide +kernel
theorem dX1_findStall_4 : decode cX1_findStall 4 = .ok (.getfield 63, 3) := by decide +kernel
theorem dX1_findStall_7 : decode cX1_findStall 7 = .ok (.if_icmp .ge 24, 3) := by decide +kernel
theorem dX1_findStall_10 : decode cX1_findStall 10 = .ok (.aload_n 0, 1) := by decide +kernel
theorem dX1_findStall_11 : decode cX1_findStall 11 = .ok (.getfield 24, 3) := by decide +kernel
theorem dX1_findStall_14 : decode cX1_findStall 14 = .ok (.iload_n 2, 1) := by decide +kernel
theorem dX1_findStall_15 : decode cX1_findStall 15 = .ok (.aaload, 1) := by decide +kernel
theorem dX1_findStall_16 : decode cX1_findStall 16 = .ok (.getfield 176, 3) := by decide +kernel
theorem dX1_findStall_19 : decode cX1_findStall 19 = .ok (.iload_n 1, 1) := by decide +kernel
theorem dX1_findStall_20 : decode cX1_findStall 20 = .ok (.if_icmp .ne 5, 3) := by decide +kernel
theorem dX1_findStall_23 : decode cX1_findStall 23 = .ok (.iload_n 2, 1) := by decide +kernel
theorem dX1_findStall_24 : decode cX1_findStall 24 = .ok (.ireturn, 1) := by decide +kernel
theorem dX1_findStall_25 : decode cX1_findStall 25 = .ok (.iinc 2 1, 3) := by decide +kernel
theorem dX1_findStall_28 : decode cX1_findStall 28 = .ok (.goto (-26), 3) := by decide +kernel
theorem dX1_findStall_31 : decode cX1_findStall 31 = .ok (.iconst (-1), 1) := by decide +kernel
theorem dX1_findStall_32 : decode cX1_findStall 32 = .ok (.ireturn, 1) := by decide +kernel
theorem dX1_openStallOn_0 : decode cX1_openStallOn 0 = .ok (.aload_n 0, 1) := by decide +kernel
theorem dX1_openStallOn_1 : decode cX1_openStallOn 1 = .ok (.iload_n 1, 1) := by decide +kernel
theorem dX1_openStallOn_2 : decode cX1_openStallOn 2 = .ok (.invokevirtual 142, 3) := by decide +kernel
theorem dX1_openStallOn_5 : decode cX1_openStallOn 5 = .ok (.istore_n 2, 1) := by decide +kernel
theorem dX1_openStallOn_6 : decode cX1_openStallOn 6 = .ok (.iload_n 2, 1) := by decide +kernel
theorem dX1_openStallOn_7 : decode cX1_openStallOn 7 = .ok (.iconst (-1), 1) := by decide +kernel
theorem dX1_openStallOn_8 : decode cX1_openStallOn 8 = .ok (.if_icmp .eq 24, 3) := by decide +kernel
theorem dX1_openStallOn_11 : decode cX1_openStallOn 11 = .ok (.aload_n 0, 1) := by decide +kernel
theorem dX1_openStallOn_12 : decode cX1_openStallOn 12 = .ok (.getfield 24, 3) := by decide +kernel
theorem dX1_openStallOn_15 : decode cX1_openStallOn 15 = .ok (.iload_n 2, 1) := by decide +kernel
theorem dX1_openStallOn_16 : decode cX1_openStallOn 16 = .ok (.aaload, 1) := by decide +kernel
theorem dX1_openStallOn_17 : decode cX1_openStallOn 17 = .ok (.getfield 179, 3) := by decide +kernel
theorem dX1_openStallOn_20 : decode cX1_openStallOn 20 = .ok (.ifCond .eq 12, 3) := by decide +kernel
theorem dX1_openStallOn_23 : decode cX1_openStallOn 23 = .ok (.aload_n 0, 1) := by decide +kernel
theorem dX1_openStallOn_24 : decode cX1_openStallOn 24 = .ok (.getfield 24, 3) := by decide +kernel
theorem dX1_openStallOn_27 : decode cX1_openStallOn 27 = .ok (.iload_n 2, 1) := by decide +kernel
theorem dX1_openStallOn_28 : decode cX1_openStallOn 28 = .ok (.aaload, 1) := by decide +kernel
theorem dX1_openStallOn_29 : decode cX1_openStallOn 29 = .ok (.goto 4, 3) := by decide +kernel
theorem dX1_openStallOn_32 : decode cX1_openStallOn 32 = .ok (.aconst_null, 1) := by decide +kernel
theorem dX1_openStallOn_33 : decode cX1_openStallOn 33 = .ok (.areturn, 1) := by decide +kernel
theorem dX1_coinsInStalls_0 : decode cX1_coinsInStalls 0 = .ok (.iconst 0, 1) := by decide +kernel
theorem dX1_coinsInStalls_1 : decode cX1_coinsInStalls 1 = .ok (.istore_n 1, 1) := by decide +kernel
theorem dX1_coinsInStalls_2 : decode cX1_coinsInStalls 2 = .ok (.iconst 0, 1) := by decide +kernel
theorem dX1_coinsInStalls_3 : decode cX1_coinsInStalls 3 = .ok (.istore_n 2, 1) := by decide +kernel
theorem dX1_coinsInStalls_4 : decode cX1_coinsInStalls 4 = .ok (.iload_n 2, 1) := by decide +kernel
theorem dX1_coinsInStalls_5 : decode cX1_coinsInStalls 5 = .ok (.aload_n 0, 1) := by decide +kernel
theorem dX1_coinsInStalls_6 : decode cX1_coinsInStalls 6 = .ok (.getfield 63, 3) := by decide +kernel
theorem dX1_coinsInStalls_9 : decode cX1_coinsInStalls 9 = .ok (.if_icmp .ge 21, 3) := by decide +kernel
theorem dX1_coinsInStalls_12 : decode cX1_coinsInStalls 12 = .ok (.iload_n 1, 1) := by decide +kernel
theorem dX1_coinsInStalls_13 : decode cX1_coinsInStalls 13 = .ok (.aload_n 0, 1) := by decide +kernel
theorem dX1_coinsInStalls_14 : decode cX1_coinsInStalls 14 = .ok (.getfield 24, 3) := by decide +kernel
theorem dX1_coinsInStalls_17 : decode cX1_coinsInStalls 17 = .ok (.iload_n 2, 1) := by decide +kernel
theorem dX1_coinsInStalls_18 : decode cX1_coinsInStalls 18 = .ok (.aaload, 1) := by decide +kernel
theorem dX1_coinsInStalls_19 : decode cX1_coinsInStalls 19 = .ok (.getfield 164, 3) := by decide +kernel
theorem dX1_coinsInStalls_22 : decode cX1_coinsInStalls 22 = .ok (.iadd, 1) := by decide +kernel
theorem dX1_coinsInStalls_23 : decode cX1_coinsInStalls 23 = .ok (.istore_n 1, 1) := by decide +kernel
theorem dX1_coinsInStalls_24 : decode cX1_coinsInStalls 24 = .ok (.iinc 2 1, 3) := by decide +kernel
theorem dX1_coinsInStalls_27 : decode cX1_coinsInStalls 27 = .ok (.goto (-23), 3) := by decide +kernel
theorem dX1_coinsInStalls_30 : decode cX1_coinsInStalls 30 = .ok (.iload_n 1, 1) := by decide +kernel
theorem dX1_coinsInStalls_31 : decode cX1_coinsInStalls 31 = .ok (.ireturn, 1) := by decide +kernel
theorem dX1_rainToday_0 : decode cX1_rainToday 0 = .ok (.aload_n 0, 1) := by decide +kernel
theorem dX1_rainToday_1 : decode cX1_rainToday 1 = .ok (.getfield 51, 3) := by decide +kernel
theorem dX1_rainToday_4 : decode cX1_rainToday 4 = .ok (.bipush 7, 2) := by decide +kernel
theorem dX1_rainToday_6 : decode cX1_rainToday 6 = .ok (.irem, 1) := by decide +kernel
theorem dX1_rainToday_7 : decode cX1_rainToday 7 = .ok (.bipush 6, 2) := by decide +kernel
theorem dX1_rainToday_9 : decode cX1_rainToday 9 = .ok (.if_icmp .ne 7, 3) := by decide +kernel
theorem dX1_rainToday_12 : decode cX1_rainToday 12 = .ok (.iconst 4, 1) := by decide +kernel
theorem dX1_rainToday_13 : decode cX1_rainToday 13 = .ok (.goto 4, 3) := by decide +kernel
theorem dX1_rainToday_16 : decode cX1_rainToday 16 = .ok (.iconst 0, 1) := by decide +kernel
theorem dX1_rainToday_17 : decode cX1_rainToday 17 = .ok (.istore_n 2, 1) := by decide +kernel
theorem dX1_rainToday_18 : decode cX1_rainToday 18 = .ok (.bipush 9, 2) := by decide +kernel
theorem dX1_rainToday_20 : decode cX1_rainToday 20 = .ok (.aload_n 0, 1) := by decide +kernel
theorem dX1_rainToday_21 : decode cX1_rainToday 21 = .ok (.getfield 15, 3) := by decide +kernel
theorem dX1_rainToday_24 : decode cX1_rainToday 24 = .ok (.iload_n 1, 1) := by decide +kernel
theorem dX1_rainToday_25 : decode cX1_rainToday 25 = .ok (.iaload, 1) := by decide +kernel
theorem dX1_rainToday_26 : decode cX1_rainToday 26 = .ok (.iload_n 2, 1) := by decide +kernel
theorem dX1_rainToday_27 : decode cX1_rainToday 27 = .ok (.iadd, 1) := by decide +kernel
theorem dX1_rainToday_28 : decode cX1_rainToday 28 = .ok (.invokestatic 182, 3) := by decide +kernel
theorem dX1_rainToday_31 : decode cX1_rainToday 31 = .ok (.ireturn, 1) := by decide +kernel
theorem dX1_childComesNext_0 : decode cX1_childComesNext 0 = .ok (.aload_n 0, 1) := by decide +kernel
theorem dX1_childComesNext_1 : decode cX1_childComesNext 1 = .ok (.aload_n 0, 1) := by decide +kernel
theorem dX1_childComesNext_2 : decode cX1_childComesNext 2 = .ok (.getfield 54, 3) := by decide +kernel
theorem dX1_childComesNext_5 : decode cX1_childComesNext 5 = .ok (.iconst 4, 1) := by decide +kernel
theorem dX1_childComesNext_6 : decode cX1_childComesNext 6 = .ok (.idiv, 1) := by decide +kernel
theorem dX1_childComesNext_7 : decode cX1_childComesNext 7 = .ok (.invokevirtual 188, 3) := by decide +kernel
theorem dX1_childComesNext_10 : decode cX1_childComesNext 10 = .ok (.istore_n 1, 1) := by decide +kernel
theorem dX1_childComesNext_11 : decode cX1_childComesNext 11 = .ok (.iload_n 1, 1) := by decide +kernel
theorem dX1_childComesNext_12 : decode cX1_childComesNext 12 = .ok (.ifCond .ne 20, 3) := by decide +kernel
theorem dX1_childComesNext_15 : decode cX1_childComesNext 15 = .ok (.aload_n 0, 1) := by decide +kernel
theorem dX1_childComesNext_16 : decode cX1_childComesNext 16 = .ok (.getfield 54, 3) := by decide +kernel
theorem dX1_childComesNext_19 : decode cX1_childComesNext 19 = .ok (.iconst 4, 1) := by decide +kernel
theorem dX1_childComesNext_20 : decode cX1_childComesNext 20 = .ok (.irem, 1) := by decide +kernel
theorem dX1_childComesNext_21 : decode cX1_childComesNext 21 = .ok (.ifCond .ne 7, 3) := by decide +kernel
theorem dX1_childComesNext_24 : decode cX1_childComesNext 24 = .ok (.iconst 1, 1) := by decide +kernel
theorem dX1_childComesNext_25 : decode cX1_childComesNext 25 = .ok (.goto 27, 3) := by decide +kernel
theorem dX1_childComesNext_28 : decode cX1_childComesNext 28 = .ok (.iconst 0, 1) := by decide +kernel
theorem dX1_childComesNext_29 : decode cX1_childComesNext 29 = .ok (.goto 23, 3) := by decide +kernel
theorem dX1_childComesNext_32 : decode cX1_childComesNext 32 = .ok (.iload_n 1, 1) := by decide +kernel
theorem dX1_childComesNext_33 : decode cX1_childComesNext 33 = .ok (.iconst 4, 1) := by decide +kernel
theorem dX1_childComesNext_34 : decode cX1_childComesNext 34 = .ok (.if_icmp .gt 17, 3) := by decide +kernel
theorem dX1_childComesNext_37 : decode cX1_childComesNext 37 = .ok (.aload_n 0, 1) := by decide +kernel
theorem dX1_childComesNext_38 : decode cX1_childComesNext 38 = .ok (.getfield 54, 3) := by decide +kernel
theorem dX1_childComesNext_41 : decode cX1_childComesNext 41 = .ok (.bipush 8, 2) := by decide +kernel
theorem dX1_childComesNext_43 : decode cX1_childComesNext 43 = .ok (.irem, 1) := by decide +kernel
theorem dX1_childComesNext_44 : decode cX1_childComesNext 44 = .ok (.ifCond .ne 7, 3) := by decide +kernel
theorem dX1_childComesNext_47 : decode cX1_childComesNext 47 = .ok (.iconst 1, 1) := by decide +kernel
theorem dX1_childComesNext_48 : decode cX1_childComesNext 48 = .ok (.goto 4, 3) := by decide +kernel
theorem dX1_childComesNext_51 : decode cX1_childComesNext 51 = .ok (.iconst 0, 1) := by decide +kernel
theorem dX1_childComesNext_52 : decode cX1_childComesNext 52 = .ok (.istore_n 2, 1) := by decide +kernel
theorem dX1_childComesNext_53 : decode cX1_childComesNext 53 = .ok (.iload_n 2, 1) := by decide +kernel
theorem dX1_childComesNext_54 : decode cX1_childComesNext 54 = .ok (.ifCond .eq 17, 3) := by decide +kernel
theorem dX1_childComesNext_57 : decode cX1_childComesNext 57 = .ok (.aload_n 0, 1) := by decide +kernel
theorem dX1_childComesNext_58 : decode cX1_childComesNext 58 = .ok (.getfield 31, 3) := by decide +kernel
theorem dX1_childComesNext_61 : decode cX1_childComesNext 61 = .ok (.invokevirtual 134, 3) := by decide +kernel
theorem dX1_childComesNext_64 : decode cX1_childComesNext 64 = .ok (.ifCond .eq 7, 3) := by decide +kernel
theorem dX1_childComesNext_67 : decode cX1_childComesNext 67 = .ok (.iconst 1, 1) := by decide +kernel
theorem dX1_childComesNext_68 : decode cX1_childComesNext 68 = .ok (.goto 4, 3) := by decide +kernel
theorem dX1_childComesNext_71 : decode cX1_childComesNext 71 = .ok (.iconst 0, 1) := by decide +kernel
theorem dX1_childComesNext_72 : decode cX1_childComesNext 72 = .ok (.ireturn, 1) := by decide +kernel
theorem dX1_canPass_0 : decode cX1_canPass 0 = .ok (.aload_n 0, 1) := by decide +kernel
theorem dX1_canPass_1 : decode cX1_canPass 1 = .ok (.getfield 51, 3) := by decide +kernel
theorem dX1_canPass_4 : decode cX1_canPass 4 = .ok (.aload_n 0, 1) := by decide +kernel
theorem dX1_canPass_5 : decode cX1_canPass 5 = .ok (.getfield 54, 3) := by decide +kernel
theorem dX1_canPass_8 : decode cX1_canPass 8 = .ok (.iload_n 1, 1) := by decide +kernel
theorem dX1_canPass_9 : decode cX1_canPass 9 = .ok (.iadd, 1) := by decide +kernel
theorem dX1_canPass_10 : decode cX1_canPass 10 = .ok (.bipush 40, 2) := by decide +kernel
theorem dX1_canPass_12 : decode cX1_canPass 12 = .ok (.idiv, 1) := by decide +kernel
theorem dX1_canPass_13 : decode cX1_canPass 13 = .ok (.iadd, 1) := by decide +kernel
theorem dX1_canPass_14 : decode cX1_canPass 14 = .ok (.sipush 9999, 3) := by decide +kernel
theorem dX1_canPass_17 : decode cX1_canPass 17 = .ok (.if_icmp .gt 7, 3) := by decide +kernel
theorem dX1_canPass_20 : decode cX1_canPass 20 = .ok (.iconst 1, 1) := by decide +kernel
theorem dX1_canPass_21 : decode cX1_canPass 21 = .ok (.goto 4, 3) := by decide +kernel
theorem dX1_canPass_24 : decode cX1_canPass 24 = .ok (.iconst 0, 1) := by decide +kernel
theorem dX1_canPass_25 : decode cX1_canPass 25 = .ok (.ireturn, 1) := by decide +kernel
theorem dX1_letPass_0 : decode cX1_letPass 0 = .ok (.iconst 0, 1) := by decide +kernel
theorem dX1_letPass_1 : decode cX1_letPass 1 = .ok (.istore_n 2, 1) := by decide +kernel
theorem dX1_letPass_2 : decode cX1_letPass 2 = .ok (.iload_n 2, 1) := by decide +kernel
theorem dX1_letPass_3 : decode cX1_letPass 3 = .ok (.iload_n 1, 1) := by decide +kernel
theorem dX1_letPass_4 : decode cX1_letPass 4 = .ok (.if_icmp .ge 106, 3) := by decide +kernel
theorem dX1_letPass_7 : decode cX1_letPass 7 = .ok (.aload_n 0, 1) := by decide +kernel
theorem dX1_letPass_8 : decode cX1_letPass 8 = .ok (.invokevirtual 191, 3) := by decide +kernel
theorem dX1_letPass_11 : decode cX1_letPass 11 = .ok (.ifCond .eq 7, 3) := by decide +kernel
theorem dX1_letPass_14 : decode cX1_letPass 14 = .ok (.aload_n 0, 1) := by decide +kernel
theorem dX1_letPass_15 : decode cX1_letPass 15 = .ok (.invokevirtual 194, 3) := by decide +kernel
theorem dX1_letPass_18 : decode cX1_letPass 18 = .ok (.aload_n 0, 1) := by decide +kernel
theorem dX1_letPass_19 : decode cX1_letPass 19 = .ok (.invokevirtual 197, 3) := by decide +kernel
theorem dX1_letPass_22 : decode cX1_letPass 22 = .ok (.aload_n 0, 1) := by decide +kernel
theorem dX1_letPass_23 : decode cX1_letPass 23 = .ok (.aload_n 0, 1) := by decide +kernel
theorem dX1_letPass_24 : decode cX1_letPass 24 = .ok (.getfield 54, 3) := by decide +kernel
theorem dX1_letPass_27 : decode cX1_letPass 27 = .ok (.iconst 4, 1) := by decide +kernel
theorem dX1_letPass_28 : decode cX1_letPass 28 = .ok (.idiv, 1) := by decide +kernel
theorem dX1_letPass_29 : decode cX1_letPass 29 = .ok (.invokevirtual 188, 3) := by decide +kernel
theorem dX1_letPass_32 : decode cX1_letPass 32 = .ok (.istore_n 3, 1) := by decide +kernel
theorem dX1_letPass_33 : decode cX1_letPass 33 = .ok (.aload_n 0, 1) := by decide +kernel
theorem dX1_letPass_34 : decode cX1_letPass 34 = .ok (.getfield 31, 3) := by decide +kernel
theorem dX1_letPass_37 : decode cX1_letPass 37 = .ok (.getfield 200, 3) := by decide +kernel
theorem dX1_letPass_40 : decode cX1_letPass 40 = .ok (.istore 4, 2) := by decide +kernel
theorem dX1_letPass_42 : decode cX1_letPass 42 = .ok (.iload 4, 2) := by decide +kernel
theorem dX1_letPass_44 : decode cX1_letPass 44 = .ok (.aload_n 0, 1) := by decide +kernel
theorem dX1_letPass_45 : decode cX1_letPass 45 = .ok (.getfield 31, 3) := by decide +kernel
theorem dX1_letPass_48 : decode cX1_letPass 48 = .ok (.getfield 203, 3) := by decide +kernel
theorem dX1_letPass_51 : decode cX1_letPass 51 = .ok (.if_icmp .ge 30, 3) := by decide +kernel
theorem dX1_letPass_54 : decode cX1_letPass 54 = .ok (.aload_n 0, 1) := by decide +kernel
theorem dX1_letPass_55 : decode cX1_letPass 55 = .ok (.getfield 31, 3) := by decide +kernel
theorem dX1_letPass_58 : decode cX1_letPass 58 = .ok (.getfield 206, 3) := by decide +kernel
theorem dX1_letPass_61 : decode cX1_letPass 61 = .ok (.iload 4, 2) := by decide +kernel
theorem dX1_letPass_63 : decode cX1_letPass 63 = .ok (.iaload, 1) := by decide +kernel
theorem dX1_letPass_64 : decode cX1_letPass 64 = .ok (.iconst (-1), 1) := by decide +kernel
theorem dX1_letPass_65 : decode cX1_letPass 65 = .ok (.if_icmp .eq 10, 3) := by decide +kernel
theorem dX1_letPass_68 : decode cX1_letPass 68 = .ok (.aload_n 0, 1) := by decide +kernel
theorem dX1_letPass_69 : decode cX1_letPass 69 = .ok (.iload 4, 2) := by decide +kernel
theorem dX1_letPass_71 : decode cX1_letPass 71 = .ok (.iload_n 3, 1) := by decide +kernel
theorem dX1_letPass_72 : decode cX1_letPass 72 = .ok (.invokevirtual 208, 3) := by decide +kernel
theorem dX1_letPass_75 : decode cX1_letPass 75 = .ok (.iinc 4 1, 3) := by decide +kernel
theorem dX1_letPass_78 : decode cX1_letPass 78 = .ok (.goto (-36), 3) := by decide +kernel
theorem dX1_letPass_81 : decode cX1_letPass 81 = .ok (.aload_n 0, 1) := by decide +kernel
theorem dX1_letPass_82 : decode cX1_letPass 82 = .ok (.dup, 1) := by decide +kernel
theorem dX1_letPass_83 : decode cX1_letPass 83 = .ok (.getfield 54, 3) := by decide +kernel
theorem dX1_letPass_86 : decode cX1_letPass 86 = .ok (.iconst 1, 1) := by decide +kernel
theorem dX1_letPass_87 : decode cX1_letPass 87 = .ok (.iadd, 1) := by decide +kernel
theorem dX1_letPass_88 : decode cX1_letPass 88 = .ok (.putfield 54, 3) := by decide +kernel
theorem dX1_letPass_91 : decode cX1_letPass 91 = .ok (.aload_n 0, 1) := by decide +kernel
theorem dX1_letPass_92 : decode cX1_letPass 92 = .ok (.getfield 54, 3) := by decide +kernel
theorem dX1_letPass_95 : decode cX1_letPass 95 = .ok (.bipush 40, 2) := by decide +kernel
