theorem dL_limits_345 : decode cL_limits 345 = .ok (.aload_n 0, 1) := by decide +kernel
theorem dL_limits_346 : decode cL_limits 346 = .ok (.bipush 40, 2) := by decide +kernel
theorem dL_limits_348 : decode cL_limits 348 = .ok (.invokevirtual 68, 3) := by decide +kernel
theorem dL_limits_351 : decode cL_limits 351 = .ok (.ifCond .lt 10, 3) := by decide +kernel
theorem dL_limits_354 : decode cL_limits 354 = .ok (.aload_n 0, 1) := by decide +kernel
theorem dL_limits_355 : decode cL_limits 355 = .ok (.invokevirtual 255, 3) := by decide +kernel
theorem dL_limits_358 : decode cL_limits 358 = .ok (.ifCond .eq 5, 3) := by decide +kernel
theorem dL_limits_361 : decode cL_limits 361 = .ok (.iconst 0, 1) := by decide +kernel
theorem dL_limits_362 : decode cL_limits 362 = .ok (.ireturn, 1) := by decide +kernel
theorem dL_limits_363 : decode cL_limits 363 = .ok (.iinc 1 1, 3) := by decide +kernel
theorem dL_limits_366 : decode cL_limits 366 = .ok (.goto (-77), 3) := by decide +kernel
theorem dL_limits_369 : decode cL_limits 369 = .ok (.aload_n 0, 1) := by decide +kernel
theorem dL_limits_370 : decode cL_limits 370 = .ok (.invokevirtual 188, 3) := by decide +kernel
theorem dL_limits_373 : decode cL_limits 373 = .ok (.sipush 200, 3) := by decide +kernel
theorem dL_limits_376 : decode cL_limits 376 = .ok (.if_icmp .ne 56, 3) := by decide +kernel
theorem dL_limits_379 : decode cL_limits 379 = .ok (.aload_n 0, 1) := by decide +kernel
theorem dL_limits_380 : decode cL_limits 380 = .ok (.bipush 7, 2) := by decide +kernel
theorem dL_limits_382 : decode cL_limits 382 = .ok (.iconst 5, 1) := by decide +kernel
theorem dL_limits_383 : decode cL_limits 383 = .ok (.iconst 0, 1) := by decide +kernel
theorem dL_limits_384 : decode cL_limits 384 = .ok (.iconst 0, 1) := by decide +kernel
theorem dL_limits_385 : decode cL_limits 385 = .ok (.iconst 0, 1) := by decide +kernel
theorem dL_limits_386 : decode cL_limits 386 = .ok (.invokestatic 191, 3) := by decide +kernel
theorem dL_limits_389 : decode cL_limits 389 = .ok (.sipush (-2013), 3) := by decide +kernel
theorem dL_limits_392 : decode cL_limits 392 = .ok (.if_icmp .ne 40, 3) := by decide +kernel
theorem dL_limits_395 : decode cL_limits 395 = .ok (.aload_n 0, 1) := by decide +kernel
theorem dL_limits_396 : decode cL_limits 396 = .ok (.iconst 0, 1) := by decide +kernel
theorem dL_limits_397 : decode cL_limits 397 = .ok (.iconst 0, 1) := by decide +kernel
theorem dL_limits_398 : decode cL_limits 398 = .ok (.invokevirtual 65, 3) := by decide +kernel
theorem dL_limits_401 : decode cL_limits 401 = .ok (.bipush 9, 2) := by decide +kernel
theorem dL_limits_403 : decode cL_limits 403 = .ok (.if_icmp .ne 29, 3) := by decide +kernel
theorem dL_limits_406 : decode cL_limits 406 = .ok (.aload_n 0, 1) := by decide +kernel
theorem dL_limits_407 : decode cL_limits 407 = .ok (.invokevirtual 212, 3) := by decide +kernel
theorem dL_limits_410 : decode cL_limits 410 = .ok (.ifCond .ne 22, 3) := by decide +kernel
theorem dL_limits_413 : decode cL_limits 413 = .ok (.aload_n 0, 1) := by decide +kernel
theorem dL_limits_414 : decode cL_limits 414 = .ok (.invokevirtual 179, 3) := by decide +kernel
theorem dL_limits_417 : decode cL_limits 417 = .ok (.iconst 5, 1) := by decide +kernel
theorem dL_limits_418 : decode cL_limits 418 = .ok (.if_icmp .ne 14, 3) := by decide +kernel
theorem dL_limits_421 : decode cL_limits 421 = .ok (.aload_n 0, 1) := by decide +kernel
theorem dL_limits_422 : decode cL_limits 422 = .ok (.invokestatic 258, 3) := by decide +kernel
theorem dL_limits_425 : decode cL_limits 425 = .ok (.ifCond .eq 7, 3) := by decide +kernel
theorem dL_limits_428 : decode cL_limits 428 = .ok (.iconst 1, 1) := by decide +kernel
theorem dL_limits_429 : decode cL_limits 429 = .ok (.goto 4, 3) := by decide +kernel
theorem dL_limits_432 : decode cL_limits 432 = .ok (.iconst 0, 1) := by decide +kernel
theorem dL_limits_433 : decode cL_limits 433 = .ok (.ireturn, 1) := by decide +kernel
theorem dL_last_0 : decode cL_last 0 = .ok (.iconst 0, 1) := by decide +kernel
theorem dL_last_1 : decode cL_last 1 = .ok (.istore_n 1, 1) := by decide +kernel
theorem dL_last_2 : decode cL_last 2 = .ok (.iload_n 1, 1) := by decide +kernel
theorem dL_last_3 : decode cL_last 3 = .ok (.iconst 3, 1) := by decide +kernel
theorem dL_last_4 : decode cL_last 4 = .ok (.if_icmp .ge 20, 3) := by decide +kernel
theorem dL_last_7 : decode cL_last 7 = .ok (.aload_n 0, 1) := by decide +kernel
theorem dL_last_8 : decode cL_last 8 = .ok (.bipush 40, 2) := by decide +kernel
theorem dL_last_10 : decode cL_last 10 = .ok (.invokevirtual 68, 3) := by decide +kernel
theorem dL_last_13 : decode cL_last 13 = .ok (.ifCond .eq 5, 3) := by decide +kernel
theorem dL_last_16 : decode cL_last 16 = .ok (.iconst 0, 1) := by decide +kernel
theorem dL_last_17 : decode cL_last 17 = .ok (.ireturn, 1) := by decide +kernel
theorem dL_last_18 : decode cL_last 18 = .ok (.iinc 1 1, 3) := by decide +kernel
theorem dL_last_21 : decode cL_last 21 = .ok (.goto (-19), 3) := by decide +kernel
theorem dL_last_24 : decode cL_last 24 = .ok (.aload_n 0, 1) := by decide +kernel
theorem dL_last_25 : decode cL_last 25 = .ok (.invokevirtual 179, 3) := by decide +kernel
theorem dL_last_28 : decode cL_last 28 = .ok (.bipush 8, 2) := by decide +kernel
theorem dL_last_30 : decode cL_last 30 = .ok (.if_icmp .ne 70, 3) := by decide +kernel
theorem dL_last_33 : decode cL_last 33 = .ok (.aload_n 0, 1) := by decide +kernel
theorem dL_last_34 : decode cL_last 34 = .ok (.bipush 39, 2) := by decide +kernel
theorem dL_last_36 : decode cL_last 36 = .ok (.invokevirtual 68, 3) := by decide +kernel
theorem dL_last_39 : decode cL_last 39 = .ok (.ifCond .ne 61, 3) := by decide +kernel
theorem dL_last_42 : decode cL_last 42 = .ok (.aload_n 0, 1) := by decide +kernel
theorem dL_last_43 : decode cL_last 43 = .ok (.invokevirtual 182, 3) := by decide +kernel
theorem dL_last_46 : decode cL_last 46 = .ok (.bipush 39, 2) := by decide +kernel
theorem dL_last_48 : decode cL_last 48 = .ok (.if_icmp .ne 52, 3) := by decide +kernel
theorem dL_last_51 : decode cL_last 51 = .ok (.aload_n 0, 1) := by decide +kernel
theorem dL_last_52 : decode cL_last 52 = .ok (.bipush 40, 2) := by decide +kernel
theorem dL_last_54 : decode cL_last 54 = .ok (.invokevirtual 68, 3) := by decide +kernel
theorem dL_last_57 : decode cL_last 57 = .ok (.ifCond .ne 43, 3) := by decide +kernel
theorem dL_last_60 : decode cL_last 60 = .ok (.aload_n 0, 1) := by decide +kernel
theorem dL_last_61 : decode cL_last 61 = .ok (.invokevirtual 182, 3) := by decide +kernel
theorem dL_last_64 : decode cL_last 64 = .ok (.bipush 39, 2) := by decide +kernel
theorem dL_last_66 : decode cL_last 66 = .ok (.if_icmp .ne 34, 3) := by decide +kernel
theorem dL_last_69 : decode cL_last 69 = .ok (.aload_n 0, 1) := by decide +kernel
theorem dL_last_70 : decode cL_last 70 = .ok (.invokevirtual 179, 3) := by decide +kernel
theorem dL_last_73 : decode cL_last 73 = .ok (.bipush 9, 2) := by decide +kernel
theorem dL_last_75 : decode cL_last 75 = .ok (.if_icmp .ne 25, 3) := by decide +kernel
theorem dL_last_78 : decode cL_last 78 = .ok (.aload_n 0, 1) := by decide +kernel
theorem dL_last_79 : decode cL_last 79 = .ok (.invokevirtual 170, 3) := by decide +kernel
theorem dL_last_82 : decode cL_last 82 = .ok (.aload_n 0, 1) := by decide +kernel
theorem dL_last_83 : decode cL_last 83 = .ok (.invokevirtual 217, 3) := by decide +kernel
theorem dL_last_86 : decode cL_last 86 = .ok (.if_icmp .ne 14, 3) := by decide +kernel
theorem dL_last_89 : decode cL_last 89 = .ok (.aload_n 0, 1) := by decide +kernel
theorem dL_last_90 : decode cL_last 90 = .ok (.invokestatic 223, 3) := by decide +kernel
theorem dL_last_93 : decode cL_last 93 = .ok (.ifCond .eq 7, 3) := by decide +kernel
theorem dL_last_96 : decode cL_last 96 = .ok (.iconst 1, 1) := by decide +kernel
theorem dL_last_97 : decode cL_last 97 = .ok (.goto 4, 3) := by decide +kernel
theorem dL_last_100 : decode cL_last 100 = .ok (.iconst 0, 1) := by decide +kernel
theorem dL_last_101 : decode cL_last 101 = .ok (.ireturn, 1) := by decide +kernel
theorem dL_types_0 : decode cL_types 0 = .ok (.iconst 1, 1) := by decide +kernel
theorem dL_types_1 : decode cL_types 1 = .ok (.istore_n 3, 1) := by decide +kernel
theorem dL_types_2 : decode cL_types 2 = .ok (.bipush 56, 2) := by decide +kernel
theorem dL_types_4 : decode cL_types 4 = .ok (.istore 4, 2) := by decide +kernel
theorem dL_types_6 : decode cL_types 6 = .ok (.iload 4, 2) := by decide +kernel
theorem dL_types_8 : decode cL_types 8 = .ok (.ifCond .lt 45, 3) := by decide +kernel
theorem dL_types_11 : decode cL_types 11 = .ok (.lload_n 1, 1) := by decide +kernel
theorem dL_types_12 : decode cL_types 12 = .ok (.iload 4, 2) := by decide +kernel
theorem dL_types_14 : decode cL_types 14 = .ok (.lshr, 1) := by decide +kernel
theorem dL_types_15 : decode cL_types 15 = .ok (.ldc2_w 261, 3) := by decide +kernel
theorem dL_types_18 : decode cL_types 18 = .ok (.land, 1) := by decide +kernel
theorem dL_types_19 : decode cL_types 19 = .ok (.l2i, 1) := by decide +kernel
theorem dL_types_20 : decode cL_types 20 = .ok (.istore 5, 2) := by decide +kernel
theorem dL_types_22 : decode cL_types 22 = .ok (.iload_n 3, 1) := by decide +kernel
theorem dL_types_23 : decode cL_types 23 = .ok (.ifCond .eq 22, 3) := by decide +kernel
theorem dL_types_26 : decode cL_types 26 = .ok (.iload 5, 2) := by decide +kernel
theorem dL_types_28 : decode cL_types 28 = .ok (.ifCond .eq 13, 3) := by decide +kernel
theorem dL_types_31 : decode cL_types 31 = .ok (.aload_n 0, 1) := by decide +kernel
theorem dL_types_32 : decode cL_types 32 = .ok (.iload 5, 2) := by decide +kernel
theorem dL_types_34 : decode cL_types 34 = .ok (.i2c, 1) := by decide +kernel
theorem dL_types_35 : decode cL_types 35 = .ok (.invokevirtual 147, 3) := by decide +kernel
theorem dL_types_38 : decode cL_types 38 = .ok (.ifCond .le 7, 3) := by decide +kernel
theorem dL_types_41 : decode cL_types 41 = .ok (.iconst 1, 1) := by decide +kernel
theorem dL_types_42 : decode cL_types 42 = .ok (.goto 4, 3) := by decide +kernel
theorem dL_types_45 : decode cL_types 45 = .ok (.iconst 0, 1) := by decide +kernel
theorem dL_types_46 : decode cL_types 46 = .ok (.istore_n 3, 1) := by decide +kernel
theorem dL_types_47 : decode cL_types 47 = .ok (.iinc 4 (-8), 3) := by decide +kernel
theorem dL_types_50 : decode cL_types 50 = .ok (.goto (-44), 3) := by decide +kernel
theorem dL_types_53 : decode cL_types 53 = .ok (.iload_n 3, 1) := by decide +kernel
theorem dL_types_54 : decode cL_types 54 = .ok (.ireturn, 1) := by decide +kernel
theorem dL_isError_0 : decode cL_isError 0 = .ok (.aload_n 0, 1) := by decide +kernel
theorem dL_isError_1 : decode cL_isError 1 = .ok (.invokevirtual 209, 3) := by decide +kernel
theorem dL_isError_4 : decode cL_isError 4 = .ok (.ifCond .lt 32, 3) := by decide +kernel
theorem dL_isError_7 : decode cL_isError 7 = .ok (.aload_n 0, 1) := by decide +kernel
theorem dL_isError_8 : decode cL_isError 8 = .ok (.lload_n 1, 1) := by decide +kernel
theorem dL_isError_9 : decode cL_isError 9 = .ok (.invokestatic 263, 3) := by decide +kernel
theorem dL_isError_12 : decode cL_isError 12 = .ok (.ifCond .eq 24, 3) := by decide +kernel
theorem dL_isError_15 : decode cL_isError 15 = .ok (.aload_n 0, 1) := by decide +kernel
theorem dL_isError_16 : decode cL_isError 16 = .ok (.lload_n 3, 1) := by decide +kernel
theorem dL_isError_17 : decode cL_isError 17 = .ok (.invokestatic 263, 3) := by decide +kernel
theorem dL_isError_20 : decode cL_isError 20 = .ok (.ifCond .eq 16, 3) := by decide +kernel
theorem dL_isError_23 : decode cL_isError 23 = .ok (.aload_n 0, 1) := by decide +kernel
theorem dL_isError_24 : decode cL_isError 24 = .ok (.invokevirtual 157, 3) := by decide +kernel
theorem dL_isError_27 : decode cL_isError 27 = .ok (.iload 5, 2) := by decide +kernel
theorem dL_isError_29 : decode cL_isError 29 = .ok (.if_icmp .ne 7, 3) := by decide +kernel
theorem dL_isError_32 : decode cL_isError 32 = .ok (.iconst 1, 1) := by decide +kernel
theorem dL_isError_33 : decode cL_isError 33 = .ok (.goto 4, 3) := by decide +kernel
theorem dL_isError_36 : decode cL_isError 36 = .ok (.iconst 0, 1) := by decide +kernel
theorem dL_isError_37 : decode cL_isError 37 = .ok (.ireturn, 1) := by decide +kernel
theorem dL_texts_0 : decode cL_texts 0 = .ok (.new 34, 3) := by decide +kernel
theorem dL_texts_3 : decode cL_texts 3 = .ok (.dup, 1) := by decide +kernel
theorem dL_texts_4 : decode cL_texts 4 = .ok (.invokespecial 216, 3) := by decide +kernel
theorem dL_texts_7 : decode cL_texts 7 = .ok (.astore_n 0, 1) := by decide +kernel
theorem dL_texts_8 : decode cL_texts 8 = .ok (.aload_n 0, 1) := by decide +kernel
theorem dL_texts_9 : decode cL_texts 9 = .ok (.ldc2_w 267, 3) := by decide +kernel
theorem dL_texts_12 : decode cL_texts 12 = .ok (.lconst 0, 1) := by decide +kernel
theorem dL_texts_13 : decode cL_texts 13 = .ok (.iconst 2, 1) := by decide +kernel
theorem dL_texts_14 : decode cL_texts 14 = .ok (.invokestatic 269, 3) := by decide +kernel
theorem dL_texts_17 : decode cL_texts 17 = .ok (.ifCond .eq 112, 3) := by decide +kernel
theorem dL_texts_20 : decode cL_texts 20 = .ok (.aload_n 0, 1) := by decide +kernel
theorem dL_texts_21 : decode cL_texts 21 = .ok (.ldc2_w 273, 3) := by decide +kernel
theorem dL_texts_24 : decode cL_texts 24 = .ok (.lconst 0, 1) := by decide +kernel
theorem dL_texts_25 : decode cL_texts 25 = .ok (.iconst 2, 1) := by decide +kernel
theorem dL_texts_26 : decode cL_texts 26 = .ok (.invokestatic 269, 3) := by decide +kernel
theorem dL_texts_29 : decode cL_texts 29 = .ok (.ifCond .eq 100, 3) := by decide +kernel
theorem dL_texts_32 : decode cL_texts 32 = .ok (.aload_n 0, 1) := by decide +kernel
theorem dL_texts_33 : decode cL_texts 33 = .ok (.ldc2_w 275, 3) := by decide +kernel
theorem dL_texts_36 : decode cL_texts 36 = .ok (.lconst 0, 1) := by decide +kernel
theorem dL_texts_37 : decode cL_texts 37 = .ok (.iconst (-1), 1) := by decide +kernel
theorem dL_texts_38 : decode cL_texts 38 = .ok (.invokestatic 269, 3) := by decide +kernel
theorem dL_texts_41 : decode cL_texts 41 = .ok (.ifCond .eq 88, 3) := by decide +kernel
theorem dL_texts_44 : decode cL_texts 44 = .ok (.aload_n 0, 1) := by decide +kernel
theorem dL_texts_45 : decode cL_texts 45 = .ok (.ldc2_w 277, 3) := by decide +kernel
theorem dL_texts_48 : decode cL_texts 48 = .ok (.lconst 0, 1) := by decide +kernel
theorem dL_texts_49 : decode cL_texts 49 = .ok (.iconst 3, 1) := by decide +kernel
theorem dL_texts_50 : decode cL_texts 50 = .ok (.invokestatic 269, 3) := by decide +kernel
theorem dL_texts_53 : decode cL_texts 53 = .ok (.ifCond .eq 76, 3) := by decide +kernel
theorem dL_texts_56 : decode cL_texts 56 = .ok (.aload_n 0, 1) := by decide +kernel
theorem dL_texts_57 : decode cL_texts 57 = .ok (.ldc2_w 279, 3) := by decide +kernel
theorem dL_texts_60 : decode cL_texts 60 = .ok (.lconst 0, 1) := by decide +kernel
theorem dL_texts_61 : decode cL_texts 61 = .ok (.iconst 2, 1) := by decide +kernel
theorem dL_texts_62 : decode cL_texts 62 = .ok (.invokestatic 269, 3) := by decide +kernel
theorem dL_texts_65 : decode cL_texts 65 = .ok (.ifCond .eq 64, 3) := by decide +kernel
theorem dL_texts_68 : decode cL_texts 68 = .ok (.aload_n 0, 1) := by decide +kernel
theorem dL_texts_69 : decode cL_texts 69 = .ok (.ldc2_w 281, 3) := by decide +kernel
theorem dL_texts_72 : decode cL_texts 72 = .ok (.lconst 0, 1) := by decide +kernel
theorem dL_texts_73 : decode cL_texts 73 = .ok (.iconst 1, 1) := by decide +kernel
theorem dL_texts_74 : decode cL_texts 74 = .ok (.invokestatic 269, 3) := by decide +kernel
theorem dL_texts_77 : decode cL_texts 77 = .ok (.ifCond .eq 52, 3) := by decide +kernel
theorem dL_texts_80 : decode cL_texts 80 = .ok (.aload_n 0, 1) := by decide +kernel
theorem dL_texts_81 : decode cL_texts 81 = .ok (.ldc2_w 283, 3) := by decide +kernel
theorem dL_texts_84 : decode cL_texts 84 = .ok (.lconst 0, 1) := by decide +kernel
theorem dL_texts_85 : decode cL_texts 85 = .ok (.iconst 3, 1) := by decide +kernel
theorem dL_texts_86 : decode cL_texts 86 = .ok (.invokestatic 269, 3) := by decide +kernel
theorem dL_texts_89 : decode cL_texts 89 = .ok (.ifCond .eq 40, 3) := by decide +kernel
theorem dL_texts_92 : decode cL_texts 92 = .ok (.aload_n 0, 1) := by decide +kernel
theorem dL_texts_93 : decode cL_texts 93 = .ok (.ldc2_w 285, 3) := by decide +kernel
theorem dL_texts_96 : decode cL_texts 96 = .ok (.lconst 0, 1) := by decide +kernel
theorem dL_texts_97 : decode cL_texts 97 = .ok (.bipush 7, 2) := by decide +kernel
theorem dL_texts_99 : decode cL_texts 99 = .ok (.invokestatic 269, 3) := by decide +kernel
theorem dL_texts_102 : decode cL_texts 102 = .ok (.ifCond .eq 27, 3) := by decide +kernel
theorem dL_texts_105 : decode cL_texts 105 = .ok (.aload_n 0, 1) := by decide +kernel
theorem dL_texts_106 : decode cL_texts 106 = .ok (.ldc2_w 287, 3) := by decide +kernel
theorem dL_texts_109 : decode cL_texts 109 = .ok (.lconst 0, 1) := by decide +kernel
theorem dL_texts_110 : decode cL_texts 110 = .ok (.iconst 5, 1) := by decide +kernel
theorem dL_texts_111 : decode cL_texts 111 = .ok (.invokestatic 269, 3) := by decide +kernel
theorem dL_texts_114 : decode cL_texts 114 = .ok (.ifCond .eq 15, 3) := by decide +kernel
theorem dL_texts_117 : decode cL_texts 117 = .ok (.aload_n 0, 1) := by decide +kernel
theorem dL_texts_118 : decode cL_texts 118 = .ok (.ldc2_w 289, 3) := by decide +kernel
theorem dL_texts_121 : decode cL_texts 121 = .ok (.lconst 0, 1) := by decide +kernel
theorem dL_texts_122 : decode cL_texts 122 = .ok (.iconst 4, 1) := by decide +kernel
theorem dL_texts_123 : decode cL_texts 123 = .ok (.invokestatic 269, 3) := by decide +kernel
theorem dL_texts_126 : decode cL_texts 126 = .ok (.ifCond .ne 5, 3) := by decide +kernel
theorem dL_texts_129 : decode cL_texts 129 = .ok (.iconst 0, 1) := by decide +kernel
theorem dL_texts_130 : decode cL_texts 130 = .ok (.ireturn, 1) := by decide +kernel
theorem dL_texts_131 : decode cL_texts 131 = .ok (.aload_n 0, 1) := by decide +kernel
theorem dL_texts_132 : decode cL_texts 132 = .ok (.ldc2_w 291, 3) := by decide +kernel
theorem dL_texts_135 : decode cL_texts 135 = .ok (.lconst 0, 1) := by decide +kernel
theorem dL_texts_136 : decode cL_texts 136 = .ok (.iconst 3, 1) := by decide +kernel
theorem dL_texts_137 : decode cL_texts 137 = .ok (.invokestatic 269, 3) := by decide +kernel
theorem dL_texts_140 : decode cL_texts 140 = .ok (.ifCond .eq 122, 3) := by decide +kernel
theorem dL_texts_143 : decode cL_texts 143 = .ok (.aload_n 0, 1) := by decide +kernel
theorem dL_texts_144 : decode cL_texts 144 = .ok (.ldc2_w 293, 3) := by decide +kernel
theorem dL_texts_147 : decode cL_texts 147 = .ok (.lconst 0, 1) := by decide +kernel
theorem dL_texts_148 : decode cL_texts 148 = .ok (.iconst 4, 1) := by decide +kernel
theorem dL_texts_149 : decode cL_texts 149 = .ok (.invokestatic 269, 3) := by decide +kernel
theorem dL_texts_152 : decode cL_texts 152 = .ok (.ifCond .eq 110, 3) := by decide +kernel
theorem dL_texts_155 : decode cL_texts 155 = .ok (.aload_n 0, 1) := by decide +kernel
theorem dL_texts_156 : decode cL_texts 156 = .ok (.ldc2_w 295, 3) := by decide +kernel
theorem dL_texts_159 : decode cL_texts 159 = .ok (.lconst 0, 1) := by decide +kernel
theorem dL_texts_160 : decode cL_texts 160 = .ok (.iconst 1, 1) := by decide +kernel
theorem dL_texts_161 : decode cL_texts 161 = .ok (.invokestatic 269, 3) := by decide +kernel
theorem dL_texts_164 : decode cL_texts 164 = .ok (.ifCond .eq 98, 3) := by decide +kernel
theorem dL_texts_167 : decode cL_texts 167 = .ok (.aload_n 0, 1) := by decide +kernel
theorem dL_texts_168 : decode cL_texts 168 = .ok (.ldc2_w 297, 3) := by decide +kernel
theorem dL_texts_171 : decode cL_texts 171 = .ok (.lconst 0, 1) := by decide +kernel
theorem dL_texts_172 : decode cL_texts 172 = .ok (.iconst 2, 1) := by decide +kernel
theorem dL_texts_173 : decode cL_texts 173 = .ok (.invokestatic 269, 3) := by decide +kernel
theorem dL_texts_176 : decode cL_texts 176 = .ok (.ifCond .eq 86, 3) := by decide +kernel
theorem dL_texts_179 : decode cL_texts 179 = .ok (.aload_n 0, 1) := by decide +kernel
theorem dL_texts_180 : decode cL_texts 180 = .ok (.ldc2_w 299, 3) := by decide +kernel
theorem dL_texts_183 : decode cL_texts 183 = .ok (.lconst 0, 1) := by decide +kernel
theorem dL_texts_184 : decode cL_texts 184 = .ok (.iconst 5, 1) := by decide +kernel
theorem dL_texts_185 : decode cL_texts 185 = .ok (.invokestatic 269, 3) := by decide +kernel
theorem dL_texts_188 : decode cL_texts 188 = .ok (.ifCond .eq 74, 3) := by decide +kernel
theorem dL_texts_191 : decode cL_texts 191 = .ok (.aload_n 0, 1) := by decide +kernel
theorem dL_texts_192 : decode cL_texts 192 = .ok (.lconst 0, 1) := by decide +kernel
theorem dL_texts_193 : decode cL_texts 193 = .ok (.lconst 0, 1) := by decide +kernel
theorem dL_texts_194 : decode cL_texts 194 = .ok (.iconst 0, 1) := by decide +kernel
theorem dL_texts_195 : decode cL_texts 195 = .ok (.invokestatic 269, 3) := by decide +kernel
theorem dL_texts_198 : decode cL_texts 198 = .ok (.ifCond .eq 64, 3) := by decide +kernel
theorem dL_texts_201 : decode cL_texts 201 = .ok (.aload_n 0, 1) := by decide +kernel
theorem dL_texts_202 : decode cL_texts 202 = .ok (.ldc2_w 301, 3) := by decide +kernel
theorem dL_texts_205 : decode cL_texts 205 = .ok (.lconst 0, 1) := by decide +kernel
theorem dL_texts_206 : decode cL_texts 206 = .ok (.iconst 3, 1) := by decide +kernel
theorem dL_texts_207 : decode cL_texts 207 = .ok (.invokestatic 269, 3) := by decide +kernel
theorem dL_texts_210 : decode cL_texts 210 = .ok (.ifCond .eq 52, 3) := by decide +kernel
theorem dL_texts_213 : decode cL_texts 213 = .ok (.aload_n 0, 1) := by decide +kernel
theorem dL_texts_214 : decode cL_texts 214 = .ok (.ldc2_w 303, 3) := by decide +kernel
theorem dL_texts_217 : decode cL_texts 217 = .ok (.lconst 0, 1) := by decide +kernel
theorem dL_texts_218 : decode cL_texts 218 = .ok (.iconst (-1), 1) := by decide +kernel
theorem dL_texts_219 : decode cL_texts 219 = .ok (.invokestatic 269, 3) := by decide +kernel
theorem dL_texts_222 : decode cL_texts 222 = .ok (.ifCond .eq 40, 3) := by decide +kernel
theorem dL_texts_225 : decode cL_texts 225 = .ok (.aload_n 0, 1) := by decide +kernel
theorem dL_texts_226 : decode cL_texts 226 = .ok (.ldc2_w 305, 3) := by decide +kernel
theorem dL_texts_229 : decode cL_texts 229 = .ok (.lconst 0, 1) := by decide +kernel
theorem dL_texts_230 : decode cL_texts 230 = .ok (.iconst (-1), 1) := by decide +kernel
theorem dL_texts_231 : decode cL_texts 231 = .ok (.invokestatic 269, 3) := by decide +kernel
theorem dL_texts_234 : decode cL_texts 234 = .ok (.ifCond .eq 28, 3) := by decide +kernel
theorem dL_texts_237 : decode cL_texts 237 = .ok (.aload_n 0, 1) := by decide +kernel
theorem dL_texts_238 : decode cL_texts 238 = .ok (.ldc2_w 307, 3) := by decide +kernel
theorem dL_texts_241 : decode cL_texts 241 = .ok (.lconst 0, 1) := by decide +kernel
theorem dL_texts_242 : decode cL_texts 242 = .ok (.iconst 2, 1) := by decide +kernel
theorem dL_texts_243 : decode cL_texts 243 = .ok (.invokestatic 269, 3) := by decide +kernel
theorem dL_texts_246 : decode cL_texts 246 = .ok (.ifCond .eq 16, 3) := by decide +kernel
theorem dL_texts_249 : decode cL_texts 249 = .ok (.aload_n 0, 1) := by decide +kernel
theorem dL_texts_250 : decode cL_texts 250 = .ok (.ldc2_w 309, 3) := by decide +kernel
theorem dL_texts_253 : decode cL_texts 253 = .ok (.lconst 0, 1) := by decide +kernel
theorem dL_texts_254 : decode cL_texts 254 = .ok (.bipush 8, 2) := by decide +kernel
theorem dL_texts_256 : decode cL_texts 256 = .ok (.invokestatic 269, 3) := by decide +kernel
theorem dL_texts_259 : decode cL_texts 259 = .ok (.ifCond .ne 5, 3) := by decide +kernel
theorem dL_texts_262 : decode cL_texts 262 = .ok (.iconst 0, 1) := by decide +kernel
theorem dL_texts_263 : decode cL_texts 263 = .ok (.ireturn, 1) := by decide +kernel
theorem dL_texts_264 : decode cL_texts 264 = .ok (.aload_n 0, 1) := by decide +kernel
theorem dL_texts_265 : decode cL_texts 265 = .ok (.invokevirtual 209, 3) := by decide +kernel
theorem dL_texts_268 : decode cL_texts 268 = .ok (.bipush 8, 2) := by decide +kernel
theorem dL_texts_270 : decode cL_texts 270 = .ok (.if_icmp .ne 258, 3) := by decide +kernel
theorem dL_texts_273 : decode cL_texts 273 = .ok (.aload_n 0, 1) := by decide +kernel
theorem dL_texts_274 : decode cL_texts 274 = .ok (.ldc2_w 311, 3) := by decide +kernel
theorem dL_texts_277 : decode cL_texts 277 = .ok (.invokestatic 263, 3) := by decide +kernel
theorem dL_texts_280 : decode cL_texts 280 = .ok (.ifCond .eq 248, 3) := by decide +kernel
theorem dL_texts_283 : decode cL_texts 283 = .ok (.aload_n 0, 1) := by decide +kernel
theorem dL_texts_284 : decode cL_texts 284 = .ok (.ldc2_w 313, 3) := by decide +kernel
theorem dL_texts_287 : decode cL_texts 287 = .ok (.invokestatic 263, 3) := by decide +kernel
theorem dL_texts_290 : decode cL_texts 290 = .ok (.ifCond .eq 238, 3) := by decide +kernel
theorem dL_texts_293 : decode cL_texts 293 = .ok (.aload_n 0, 1) := by decide +kernel
theorem dL_texts_294 : decode cL_texts 294 = .ok (.ldc2_w 315, 3) := by decide +kernel
theorem dL_texts_297 : decode cL_texts 297 = .ok (.invokestatic 263, 3) := by decide +kernel
theorem dL_texts_300 : decode cL_texts 300 = .ok (.ifCond .eq 228, 3) := by decide +kernel
theorem dL_texts_303 : decode cL_texts 303 = .ok (.aload_n 0, 1) := by decide +kernel
theorem dL_texts_304 : decode cL_texts 304 = .ok (.ldc2_w 317, 3) := by decide +kernel
theorem dL_texts_307 : decode cL_texts 307 = .ok (.invokestatic 263, 3) := by decide +kernel
theorem dL_texts_310 : decode cL_texts 310 = .ok (.ifCond .eq 218, 3) := by decide +kernel
theorem dL_texts_313 : decode cL_texts 313 = .ok (.aload_n 0, 1) := by decide +kernel
theorem dL_texts_314 : decode cL_texts 314 = .ok (.ldc2_w 319, 3) := by decide +kernel
theorem dL_texts_317 : decode cL_texts 317 = .ok (.invokestatic 263, 3) := by decide +kernel
theorem dL_texts_320 : decode cL_texts 320 = .ok (.ifCond .eq 208, 3) := by decide +kernel
theorem dL_texts_323 : decode cL_texts 323 = .ok (.aload_n 0, 1) := by decide +kernel
theorem dL_texts_324 : decode cL_texts 324 = .ok (.invokevirtual 157, 3) := by decide +kernel
theorem dL_texts_327 : decode cL_texts 327 = .ok (.iconst (-1), 1) := by decide +kernel
theorem dL_texts_328 : decode cL_texts 328 = .ok (.if_icmp .ne 200, 3) := by decide +kernel
theorem dL_texts_331 : decode cL_texts 331 = .ok (.aload_n 0, 1) := by decide +kernel
theorem dL_texts_332 : decode cL_texts 332 = .ok (.invokevirtual 154, 3) := by decide +kernel
theorem dL_texts_335 : decode cL_texts 335 = .ok (.bipush 6, 2) := by decide +kernel
theorem dL_texts_337 : decode cL_texts 337 = .ok (.if_icmp .ne 191, 3) := by decide +kernel
theorem dL_texts_340 : decode cL_texts 340 = .ok (.aload_n 0, 1) := by decide +kernel
theorem dL_texts_341 : decode cL_texts 341 = .ok (.bipush 36, 2) := by decide +kernel
theorem dL_texts_343 : decode cL_texts 343 = .ok (.iconst 0, 1) := by decide +kernel
theorem dL_texts_344 : decode cL_texts 344 = .ok (.iconst 0, 1) := by decide +kernel
theorem dL_texts_345 : decode cL_texts 345 = .ok (.iconst 0, 1) := by decide +kernel
theorem dL_texts_346 : decode cL_texts 346 = .ok (.iconst 0, 1) := by decide +kernel
theorem dL_texts_347 : decode cL_texts 347 = .ok (.invokestatic 191, 3) := by decide +kernel
theorem dL_texts_350 : decode cL_texts 350 = .ok (.sipush (-2013), 3) := by decide +kernel
theorem dL_texts_353 : decode cL_texts 353 = .ok (.if_icmp .ne 175, 3) := by decide +kernel
theorem dL_texts_356 : decode cL_texts 356 = .ok (.aload_n 0, 1) := by decide +kernel
theorem dL_texts_357 : decode cL_texts 357 = .ok (.invokevirtual 185, 3) := by decide +kernel
theorem dL_texts_360 : decode cL_texts 360 = .ok (.ifCond .ne 168, 3) := by decide +kernel
theorem dL_texts_363 : decode cL_texts 363 = .ok (.aload_n 0, 1) := by decide +kernel
theorem dL_texts_364 : decode cL_texts 364 = .ok (.invokevirtual 202, 3) := by decide +kernel
theorem dL_texts_367 : decode cL_texts 367 = .ok (.ifCond .ne 161, 3) := by decide +kernel
theorem dL_texts_370 : decode cL_texts 370 = .ok (.aload_n 0, 1) := by decide +kernel
theorem dL_texts_371 : decode cL_texts 371 = .ok (.invokevirtual 209, 3) := by decide +kernel
theorem dL_texts_374 : decode cL_texts 374 = .ok (.bipush 40, 2) := by decide +kernel
theorem dL_texts_376 : decode cL_texts 376 = .ok (.if_icmp .ne 152, 3) := by decide +kernel
theorem dL_texts_379 : decode cL_texts 379 = .ok (.aload_n 0, 1) := by decide +kernel
theorem dL_texts_380 : decode cL_texts 380 = .ok (.ldc2_w 311, 3) := by decide +kernel
theorem dL_texts_383 : decode cL_texts 383 = .ok (.invokestatic 263, 3) := by decide +kernel
theorem dL_texts_386 : decode cL_texts 386 = .ok (.ifCond .eq 142, 3) := by decide +kernel
theorem dL_texts_389 : decode cL_texts 389 = .ok (.aload_n 0, 1) := by decide +kernel
theorem dL_texts_390 : decode cL_texts 390 = .ok (.ldc2_w 313, 3) := by decide +kernel
theorem dL_texts_393 : decode cL_texts 393 = .ok (.invokestatic 263, 3) := by decide +kernel
theorem dL_texts_396 : decode cL_texts 396 = .ok (.ifCond .eq 132, 3) := by decide +kernel
theorem dL_texts_399 : decode cL_texts 399 = .ok (.aload_n 0, 1) := by decide +kernel
theorem dL_texts_400 : decode cL_texts 400 = .ok (.ldc2_w 315, 3) := by decide +kernel
theorem dL_texts_403 : decode cL_texts 403 = .ok (.invokestatic 263, 3) := by decide +kernel
theorem dL_texts_406 : decode cL_texts 406 = .ok (.ifCond .eq 122, 3) := by decide +kernel
theorem dL_texts_409 : decode cL_texts 409 = .ok (.aload_n 0, 1) := by decide +kernel
theorem dL_texts_410 : decode cL_texts 410 = .ok (.ldc2_w 317, 3) := by decide +kernel
theorem dL_texts_413 : decode cL_texts 413 = .ok (.invokestatic 263, 3) := by decide +kernel
theorem dL_texts_416 : decode cL_texts 416 = .ok (.ifCond .eq 112, 3) := by decide +kernel
theorem dL_texts_419 : decode cL_texts 419 = .ok (.aload_n 0, 1) := by decide +kernel
theorem dL_texts_420 : decode cL_texts 420 = .ok (.invokevirtual 154, 3) := by decide +kernel
theorem dL_texts_423 : decode cL_texts 423 = .ok (.iconst (-1), 1) := by decide +kernel
theorem dL_texts_424 : decode cL_texts 424 = .ok (.if_icmp .ne 104, 3) := by decide +kernel
theorem dL_texts_427 : decode cL_texts 427 = .ok (.aload_n 0, 1) := by decide +kernel
theorem dL_texts_428 : decode cL_texts 428 = .ok (.invokevirtual 182, 3) := by decide +kernel
theorem dL_texts_431 : decode cL_texts 431 = .ok (.ifCond .ne 97, 3) := by decide +kernel
theorem dL_texts_434 : decode cL_texts 434 = .ok (.aload_n 0, 1) := by decide +kernel
theorem dL_texts_435 : decode cL_texts 435 = .ok (.invokevirtual 151, 3) := by decide +kernel
theorem dL_texts_438 : decode cL_texts 438 = .ok (.bipush 6, 2) := by decide +kernel
theorem dL_texts_440 : decode cL_texts 440 = .ok (.if_icmp .ne 88, 3) := by decide +kernel
theorem dL_texts_443 : decode cL_texts 443 = .ok (.aload_n 0, 1) := by decide +kernel
theorem dL_texts_444 : decode cL_texts 444 = .ok (.invokevirtual 157, 3) := by decide +kernel
theorem dL_texts_447 : decode cL_texts 447 = .ok (.iconst (-1), 1) := by decide +kernel
theorem dL_texts_448 : decode cL_texts 448 = .ok (.if_icmp .ne 80, 3) := by decide +kernel
theorem dL_texts_451 : decode cL_texts 451 = .ok (.aload_n 0, 1) := by decide +kernel
theorem dL_texts_452 : decode cL_texts 452 = .ok (.invokevirtual 209, 3) := by decide +kernel
theorem dL_texts_455 : decode cL_texts 455 = .ok (.bipush 32, 2) := by decide +kernel
theorem dL_texts_457 : decode cL_texts 457 = .ok (.if_icmp .ne 71, 3) := by decide +kernel
theorem dL_texts_460 : decode cL_texts 460 = .ok (.aload_n 0, 1) := by decide +kernel
theorem dL_texts_461 : decode cL_texts 461 = .ok (.invokevirtual 164, 3) := by decide +kernel
theorem dL_texts_464 : decode cL_texts 464 = .ok (.sipush 420, 3) := by decide +kernel
theorem dL_texts_467 : decode cL_texts 467 = .ok (.if_icmp .ne 61, 3) := by decide +kernel
theorem dL_texts_470 : decode cL_texts 470 = .ok (.aload_n 0, 1) := by decide +kernel
theorem dL_texts_471 : decode cL_texts 471 = .ok (.iconst 3, 1) := by decide +kernel
theorem dL_texts_472 : decode cL_texts 472 = .ok (.invokevirtual 141, 3) := by decide +kernel
theorem dL_texts_475 : decode cL_texts 475 = .ok (.bipush 7, 2) := by decide +kernel
theorem dL_texts_477 : decode cL_texts 477 = .ok (.if_icmp .ne 51, 3) := by decide +kernel
theorem dL_texts_480 : decode cL_texts 480 = .ok (.aload_n 0, 1) := by decide +kernel
theorem dL_texts_481 : decode cL_texts 481 = .ok (.invokevirtual 182, 3) := by decide +kernel
theorem dL_texts_484 : decode cL_texts 484 = .ok (.iconst 5, 1) := by decide +kernel
theorem dL_texts_485 : decode cL_texts 485 = .ok (.if_icmp .ne 43, 3) := by decide +kernel
theorem dL_texts_488 : decode cL_texts 488 = .ok (.aload_n 0, 1) := by decide +kernel
theorem dL_texts_489 : decode cL_texts 489 = .ok (.invokevirtual 188, 3) := by decide +kernel
theorem dL_texts_492 : decode cL_texts 492 = .ok (.iconst 3, 1) := by decide +kernel
theorem dL_texts_493 : decode cL_texts 493 = .ok (.if_icmp .ne 35, 3) := by decide +kernel
theorem dL_texts_496 : decode cL_texts 496 = .ok (.aload_n 0, 1) := by decide +kernel
theorem dL_texts_497 : decode cL_texts 497 = .ok (.invokevirtual 202, 3) := by decide +kernel
theorem dL_texts_500 : decode cL_texts 500 = .ok (.iconst 1, 1) := by decide +kernel
theorem dL_texts_501 : decode cL_texts 501 = .ok (.if_icmp .ne 27, 3) := by decide +kernel
theorem dL_texts_504 : decode cL_texts 504 = .ok (.aload_n 0, 1) := by decide +kernel
theorem dL_texts_505 : decode cL_texts 505 = .ok (.invokevirtual 71, 3) := by decide +kernel
theorem dL_texts_508 : decode cL_texts 508 = .ok (.ifCond .ne 20, 3) := by decide +kernel
theorem dL_texts_511 : decode cL_texts 511 = .ok (.aload_n 0, 1) := by decide +kernel
theorem dL_texts_512 : decode cL_texts 512 = .ok (.invokevirtual 164, 3) := by decide +kernel
theorem dL_texts_515 : decode cL_texts 515 = .ok (.sipush 500, 3) := by decide +kernel
theorem dL_texts_518 : decode cL_texts 518 = .ok (.if_icmp .ne 10, 3) := by decide +kernel
theorem dL_texts_521 : decode cL_texts 521 = .ok (.aload_n 0, 1) := by decide +kernel
theorem dL_texts_522 : decode cL_texts 522 = .ok (.invokevirtual 188, 3) := by decide +kernel
theorem dL_texts_525 : decode cL_texts 525 = .ok (.ifCond .eq 5, 3) := by decide +kernel
theorem dL_texts_528 : decode cL_texts 528 = .ok (.iconst 0, 1) := by decide +kernel
theorem dL_texts_529 : decode cL_texts 529 = .ok (.ireturn, 1) := by decide +kernel
theorem dL_texts_530 : decode cL_texts 530 = .ok (.iconst 0, 1) := by decide +kernel
theorem dL_texts_531 : decode cL_texts 531 = .ok (.istore_n 1, 1) := by decide +kernel
theorem dL_texts_532 : decode cL_texts 532 = .ok (.iload_n 1, 1) := by decide +kernel
theorem dL_texts_533 : decode cL_texts 533 = .ok (.bipush 80, 2) := by decide +kernel
theorem dL_texts_535 : decode cL_texts 535 = .ok (.if_icmp .ge 67, 3) := by decide +kernel
theorem dL_texts_538 : decode cL_texts 538 = .ok (.aload_n 0, 1) := by decide +kernel
theorem dL_texts_539 : decode cL_texts 539 = .ok (.iload_n 1, 1) := by decide +kernel
theorem dL_texts_540 : decode cL_texts 540 = .ok (.iconst 3, 1) := by decide +kernel
theorem dL_texts_541 : decode cL_texts 541 = .ok (.irem, 1) := by decide +kernel
theorem dL_texts_542 : decode cL_texts 542 = .ok (.ifCond .ne 8, 3) := by decide +kernel
theorem dL_texts_545 : decode cL_texts 545 = .ok (.bipush 112, 2) := by decide +kernel
theorem dL_texts_547 : decode cL_texts 547 = .ok (.goto 17, 3) := by decide +kernel
theorem dL_texts_550 : decode cL_texts 550 = .ok (.iload_n 1, 1) := by decide +kernel
theorem dL_texts_551 : decode cL_texts 551 = .ok (.iconst 3, 1) := by decide +kernel
theorem dL_texts_552 : decode cL_texts 552 = .ok (.irem, 1) := by decide +kernel
theorem dL_texts_553 : decode cL_texts 553 = .ok (.iconst 1, 1) := by decide +kernel
theorem dL_texts_554 : decode cL_texts 554 = .ok (.if_icmp .ne 8, 3) := by decide +kernel
theorem dL_texts_557 : decode cL_texts 557 = .ok (.bipush 52, 2) := by decide +kernel
theorem dL_texts_559 : decode cL_texts 559 = .ok (.goto 5, 3) := by decide +kernel
theorem dL_texts_562 : decode cL_texts 562 = .ok (.bipush 59, 2) := by decide +kernel
theorem dL_texts_564 : decode cL_texts 564 = .ok (.invokevirtual 147, 3) := by decide +kernel
theorem dL_texts_567 : decode cL_texts 567 = .ok (.iload_n 1, 1) := by decide +kernel
theorem dL_texts_568 : decode cL_texts 568 = .ok (.iconst 1, 1) := by decide +kernel
theorem dL_texts_569 : decode cL_texts 569 = .ok (.iadd, 1) := by decide +kernel
theorem dL_texts_570 : decode cL_texts 570 = .ok (.if_icmp .ne 24, 3) := by decide +kernel
theorem dL_texts_573 : decode cL_texts 573 = .ok (.aload_n 0, 1) := by decide +kernel
theorem dL_texts_574 : decode cL_texts 574 = .ok (.invokevirtual 157, 3) := by decide +kernel
theorem dL_texts_577 : decode cL_texts 577 = .ok (.iload_n 1, 1) := by decide +kernel
theorem dL_texts_578 : decode cL_texts 578 = .ok (.iconst 3, 1) := by decide +kernel
theorem dL_texts_579 : decode cL_texts 579 = .ok (.irem, 1) := by decide +kernel
theorem dL_texts_580 : decode cL_texts 580 = .ok (.iconst 1, 1) := by decide +kernel
theorem dL_texts_581 : decode cL_texts 581 = .ok (.if_icmp .ne 7, 3) := by decide +kernel
theorem dL_texts_584 : decode cL_texts 584 = .ok (.iconst (-1), 1) := by decide +kernel
theorem dL_texts_585 : decode cL_texts 585 = .ok (.goto 6, 3) := by decide +kernel
theorem dL_texts_588 : decode cL_texts 588 = .ok (.iload_n 1, 1) := by decide +kernel
theorem dL_texts_589 : decode cL_texts 589 = .ok (.iconst 1, 1) := by decide +kernel
theorem dL_texts_590 : decode cL_texts 590 = .ok (.iadd, 1) := by decide +kernel
theorem dL_texts_591 : decode cL_texts 591 = .ok (.if_icmp .eq 5, 3) := by decide +kernel
theorem dL_texts_594 : decode cL_texts 594 = .ok (.iconst 0, 1) := by decide +kernel
theorem dL_texts_595 : decode cL_texts 595 = .ok (.ireturn, 1) := by decide +kernel
theorem dL_texts_596 : decode cL_texts 596 = .ok (.iinc 1 1, 3) := by decide +kernel
theorem dL_texts_599 : decode cL_texts 599 = .ok (.goto (-67), 3) := by decide +kernel
theorem dL_texts_602 : decode cL_texts 602 = .ok (.aload_n 0, 1) := by decide +kernel
theorem dL_texts_603 : decode cL_texts 603 = .ok (.bipush 35, 2) := by decide +kernel
theorem dL_texts_605 : decode cL_texts 605 = .ok (.bipush 112, 2) := by decide +kernel
theorem dL_texts_607 : decode cL_texts 607 = .ok (.iconst 0, 1) := by decide +kernel
theorem dL_texts_608 : decode cL_texts 608 = .ok (.iconst 0, 1) := by decide +kernel
theorem dL_texts_609 : decode cL_texts 609 = .ok (.iconst 0, 1) := by decide +kernel
theorem dL_texts_610 : decode cL_texts 610 = .ok (.invokestatic 191, 3) := by decide +kernel
theorem dL_texts_613 : decode cL_texts 613 = .ok (.sipush (-2013), 3) := by decide +kernel
theorem dL_texts_616 : decode cL_texts 616 = .ok (.if_icmp .ne 42, 3) := by decide +kernel
theorem dL_texts_619 : decode cL_texts 619 = .ok (.aload_n 0, 1) := by decide +kernel
theorem dL_texts_620 : decode cL_texts 620 = .ok (.invokevirtual 209, 3) := by decide +kernel
theorem dL_texts_623 : decode cL_texts 623 = .ok (.bipush 80, 2) := by decide +kernel
theorem dL_texts_625 : decode cL_texts 625 = .ok (.if_icmp .ne 33, 3) := by decide +kernel
theorem dL_texts_628 : decode cL_texts 628 = .ok (.aload_n 0, 1) := by decide +kernel
theorem dL_texts_629 : decode cL_texts 629 = .ok (.sipush 960, 3) := by decide +kernel
theorem dL_texts_632 : decode cL_texts 632 = .ok (.invokevirtual 147, 3) := by decide +kernel
theorem dL_texts_635 : decode cL_texts 635 = .ok (.iconst 1, 1) := by decide +kernel
theorem dL_texts_636 : decode cL_texts 636 = .ok (.if_icmp .ne 22, 3) := by decide +kernel
theorem dL_texts_639 : decode cL_texts 639 = .ok (.aload_n 0, 1) := by decide +kernel
theorem dL_texts_640 : decode cL_texts 640 = .ok (.invokevirtual 157, 3) := by decide +kernel
theorem dL_texts_643 : decode cL_texts 643 = .ok (.ifCond .ne 15, 3) := by decide +kernel
theorem dL_texts_646 : decode cL_texts 646 = .ok (.aload_n 0, 1) := by decide +kernel
theorem dL_texts_647 : decode cL_texts 647 = .ok (.invokevirtual 209, 3) := by decide +kernel
theorem dL_texts_650 : decode cL_texts 650 = .ok (.iconst 1, 1) := by decide +kernel
theorem dL_texts_651 : decode cL_texts 651 = .ok (.if_icmp .ne 7, 3) := by decide +kernel
theorem dL_texts_654 : decode cL_texts 654 = .ok (.iconst 1, 1) := by decide +kernel
theorem dL_texts_655 : decode cL_texts 655 = .ok (.goto 4, 3) := by decide +kernel
theorem dL_texts_658 : decode cL_texts 658 = .ok (.iconst 0, 1) := by decide +kernel
theorem dL_texts_659 : decode cL_texts 659 = .ok (.ireturn, 1) := by decide +kernel
theorem dL_law_0 : decode cL_law 0 = .ok (.invokestatic 321, 3) := by decide +kernel
theorem dL_law_3 : decode cL_law 3 = .ok (.ifCond .eq 9, 3) := by decide +kernel
theorem dL_law_6 : decode cL_law 6 = .ok (.invokestatic 324, 3) := by decide +kernel
theorem dL_law_9 : decode cL_law 9 = .ok (.ifCond .ne 5, 3) := by decide +kernel
theorem dL_law_12 : decode cL_law 12 = .ok (.iconst 0, 1) := by decide +kernel
theorem dL_law_13 : decode cL_law 13 = .ok (.ireturn, 1) := by decide +kernel
theorem dL_law_14 : decode cL_law 14 = .ok (.new 34, 3) := by decide +kernel
theorem dL_law_17 : decode cL_law 17 = .ok (.dup, 1) := by decide +kernel
theorem dL_law_18 : decode cL_law 18 = .ok (.invokespecial 216, 3) := by decide +kernel
theorem dL_law_21 : decode cL_law 21 = .ok (.astore_n 1, 1) := by decide +kernel
theorem dL_law_22 : decode cL_law 22 = .ok (.bipush 64, 2) := by decide +kernel
theorem dL_law_24 : decode cL_law 24 = .ok (.newarray .long, 2) := by decide +kernel
theorem dL_law_26 : decode cL_law 26 = .ok (.astore_n 2, 1) := by decide +kernel
theorem dL_law_27 : decode cL_law 27 = .ok (.iconst 0, 1) := by decide +kernel
theorem dL_law_28 : decode cL_law 28 = .ok (.istore_n 3, 1) := by decide +kernel
theorem dL_law_29 : decode cL_law 29 = .ok (.aload_n 1, 1) := by decide +kernel
theorem dL_law_30 : decode cL_law 30 = .ok (.iconst 1, 1) := by decide +kernel
theorem dL_law_31 : decode cL_law 31 = .ok (.iconst 3, 1) := by decide +kernel
theorem dL_law_32 : decode cL_law 32 = .ok (.iconst 1, 1) := by decide +kernel
theorem dL_law_33 : decode cL_law 33 = .ok (.iconst 0, 1) := by decide +kernel
theorem dL_law_34 : decode cL_law 34 = .ok (.invokevirtual 33, 3) := by decide +kernel
theorem dL_law_37 : decode cL_law 37 = .ok (.ifCond .ne 48, 3) := by decide +kernel
theorem dL_law_40 : decode cL_law 40 = .ok (.aload_n 1, 1) := by decide +kernel
theorem dL_law_41 : decode cL_law 41 = .ok (.iconst 0, 1) := by decide +kernel
theorem dL_law_42 : decode cL_law 42 = .ok (.bipush 9, 2) := by decide +kernel
theorem dL_law_44 : decode cL_law 44 = .ok (.invokevirtual 55, 3) := by decide +kernel
theorem dL_law_47 : decode cL_law 47 = .ok (.bipush 9, 2) := by decide +kernel
theorem dL_law_49 : decode cL_law 49 = .ok (.if_icmp .ne 36, 3) := by decide +kernel
theorem dL_law_52 : decode cL_law 52 = .ok (.aload_n 1, 1) := by decide +kernel
theorem dL_law_53 : decode cL_law 53 = .ok (.iconst 0, 1) := by decide +kernel
theorem dL_law_54 : decode cL_law 54 = .ok (.iconst 0, 1) := by decide +kernel
theorem dL_law_55 : decode cL_law 55 = .ok (.iconst 0, 1) := by decide +kernel
theorem dL_law_56 : decode cL_law 56 = .ok (.iconst 4, 1) := by decide +kernel
theorem dL_law_57 : decode cL_law 57 = .ok (.invokevirtual 51, 3) := by decide +kernel
theorem dL_law_60 : decode cL_law 60 = .ok (.iconst 5, 1) := by decide +kernel
theorem dL_law_61 : decode cL_law 61 = .ok (.if_icmp .ne 24, 3) := by decide +kernel
theorem dL_law_64 : decode cL_law 64 = .ok (.aload_n 1, 1) := by decide +kernel
theorem dL_law_65 : decode cL_law 65 = .ok (.bipush 30, 2) := by decide +kernel
theorem dL_law_67 : decode cL_law 67 = .ok (.iconst 3, 1) := by decide +kernel
theorem dL_law_68 : decode cL_law 68 = .ok (.iconst 0, 1) := by decide +kernel
theorem dL_law_69 : decode cL_law 69 = .ok (.invokevirtual 61, 3) := by decide +kernel
theorem dL_law_72 : decode cL_law 72 = .ok (.ifCond .ne 13, 3) := by decide +kernel
theorem dL_law_75 : decode cL_law 75 = .ok (.aload_n 1, 1) := by decide +kernel
theorem dL_law_76 : decode cL_law 76 = .ok (.invokevirtual 237, 3) := by decide +kernel
theorem dL_law_79 : decode cL_law 79 = .ok (.sipush 461, 3) := by decide +kernel
theorem dL_law_82 : decode cL_law 82 = .ok (.if_icmp .eq 5, 3) := by decide +kernel
theorem dL_law_85 : decode cL_law 85 = .ok (.iconst 0, 1) := by decide +kernel
theorem dL_law_86 : decode cL_law 86 = .ok (.ireturn, 1) := by decide +kernel
theorem dL_law_87 : decode cL_law 87 = .ok (.aload_n 1, 1) := by decide +kernel
theorem dL_law_88 : decode cL_law 88 = .ok (.invokestatic 198, 3) := by decide +kernel
theorem dL_law_91 : decode cL_law 91 = .ok (.lstore 4, 2) := by decide +kernel
theorem dL_law_93 : decode cL_law 93 = .ok (.iconst 0, 1) := by decide +kernel
theorem dL_law_94 : decode cL_law 94 = .ok (.istore 6, 2) := by decide +kernel
theorem dL_law_96 : decode cL_law 96 = .ok (.iload 6, 2) := by decide +kernel
theorem dL_law_98 : decode cL_law 98 = .ok (.bipush 26, 2) := by decide +kernel
theorem dL_law_100 : decode cL_law 100 = .ok (.if_icmp .ge 357, 3) := by decide +kernel
theorem dL_law_103 : decode cL_law 103 = .ok (.aload_n 0, 1) := by decide +kernel
theorem dL_law_104 : decode cL_law 104 = .ok (.iload 6, 2) := by decide +kernel
theorem dL_law_106 : decode cL_law 106 = .ok (.invokestatic 327, 3) := by decide +kernel
theorem dL_law_109 : decode cL_law 109 = .ok (.istore 7, 2) := by decide +kernel
theorem dL_law_111 : decode cL_law 111 = .ok (.iload 7, 2) := by decide +kernel
theorem dL_law_113 : decode cL_law 113 = .ok (.bipush 26, 2) := by decide +kernel
theorem dL_law_115 : decode cL_law 115 = .ok (.invokestatic 331, 3) := by decide +kernel
theorem dL_law_118 : decode cL_law 118 = .ok (.istore 8, 2) := by decide +kernel
theorem dL_law_120 : decode cL_law 120 = .ok (.aload_n 2, 1) := by decide +kernel
theorem dL_law_121 : decode cL_law 121 = .ok (.iload_n 3, 1) := by decide +kernel
theorem dL_law_122 : decode cL_law 122 = .ok (.aload_n 1, 1) := by decide +kernel
theorem dL_law_123 : decode cL_law 123 = .ok (.invokestatic 198, 3) := by decide +kernel
theorem dL_law_126 : decode cL_law 126 = .ok (.lastore, 1) := by decide +kernel
theorem dL_law_127 : decode cL_law 127 = .ok (.aload_n 1, 1) := by decide +kernel
theorem dL_law_128 : decode cL_law 128 = .ok (.invokevirtual 202, 3) := by decide +kernel
theorem dL_law_131 : decode cL_law 131 = .ok (.istore 9, 2) := by decide +kernel
theorem dL_law_133 : decode cL_law 133 = .ok (.iload 7, 2) := by decide +kernel
theorem dL_law_135 : decode cL_law 135 = .ok (.iconst 5, 1) := by decide +kernel
theorem dL_law_136 : decode cL_law 136 = .ok (.ishr, 1) := by decide +kernel
theorem dL_law_137 : decode cL_law 137 = .ok (.iconst 4, 1) := by decide +kernel
theorem dL_law_138 : decode cL_law 138 = .ok (.invokestatic 331, 3) := by decide +kernel
theorem dL_law_141 : decode cL_law 141 = .ok (.istore 10, 2) := by decide +kernel
theorem dL_law_143 : decode cL_law 143 = .ok (.iload 7, 2) := by decide +kernel
theorem dL_law_145 : decode cL_law 145 = .ok (.bipush 8, 2) := by decide +kernel
theorem dL_law_147 : decode cL_law 147 = .ok (.ishr, 1) := by decide +kernel
theorem dL_law_148 : decode cL_law 148 = .ok (.iconst 5, 1) := by decide +kernel
theorem dL_law_149 : decode cL_law 149 = .ok (.invokestatic 331, 3) := by decide +kernel
theorem dL_law_152 : decode cL_law 152 = .ok (.istore 11, 2) := by decide +kernel
theorem dL_law_154 : decode cL_law 154 = .ok (.iload 7, 2) := by decide +kernel
theorem dL_law_156 : decode cL_law 156 = .ok (.bipush 10, 2) := by decide +kernel
theorem dL_law_158 : decode cL_law 158 = .ok (.ishr, 1) := by decide +kernel
theorem dL_law_159 : decode cL_law 159 = .ok (.bipush 7, 2) := by decide +kernel
theorem dL_law_161 : decode cL_law 161 = .ok (.invokestatic 331, 3) := by decide +kernel
theorem dL_law_164 : decode cL_law 164 = .ok (.istore 12, 2) := by decide +kernel
theorem dL_law_166 : decode cL_law 166 = .ok (.iload 8, 2) := by decide +kernel
theorem dL_law_168 : decode cL_law 168 = .ok (.iconst 4, 1) := by decide +kernel
theorem dL_law_169 : decode cL_law 169 = .ok (.if_icmp .ge 18, 3) := by decide +kernel
theorem dL_law_172 : decode cL_law 172 = .ok (.aload_n 1, 1) := by decide +kernel
theorem dL_law_173 : decode cL_law 173 = .ok (.iconst 0, 1) := by decide +kernel
theorem dL_law_174 : decode cL_law 174 = .ok (.iload 10, 2) := by decide +kernel
theorem dL_law_176 : decode cL_law 176 = .ok (.iload 11, 2) := by decide +kernel
theorem dL_law_178 : decode cL_law 178 = .ok (.iload 12, 2) := by decide +kernel
theorem dL_law_180 : decode cL_law 180 = .ok (.iconst 0, 1) := by decide +kernel
theorem dL_law_181 : decode cL_law 181 = .ok (.invokestatic 191, 3) := by decide +kernel
theorem dL_law_184 : decode cL_law 184 = .ok (.goto 210, 3) := by decide +kernel
theorem dL_law_187 : decode cL_law 187 = .ok (.iload 8, 2) := by decide +kernel
theorem dL_law_189 : decode cL_law 189 = .ok (.iconst 4, 1) := by decide +kernel
theorem dL_law_190 : decode cL_law 190 = .ok (.if_icmp .ne 16, 3) := by decide +kernel
theorem dL_law_193 : decode cL_law 193 = .ok (.aload_n 1, 1) := by decide +kernel
theorem dL_law_194 : decode cL_law 194 = .ok (.iconst 1, 1) := by decide +kernel
theorem dL_law_195 : decode cL_law 195 = .ok (.iload 10, 2) := by decide +kernel
theorem dL_law_197 : decode cL_law 197 = .ok (.iconst 0, 1) := by decide +kernel
theorem dL_law_198 : decode cL_law 198 = .ok (.iconst 0, 1) := by decide +kernel
theorem dL_law_199 : decode cL_law 199 = .ok (.iconst 0, 1) := by decide +kernel
theorem dL_law_200 : decode cL_law 200 = .ok (.invokestatic 191, 3) := by decide +kernel
theorem dL_law_203 : decode cL_law 203 = .ok (.goto 191, 3) := by decide +kernel
theorem dL_law_206 : decode cL_law 206 = .ok (.iload 8, 2) := by decide +kernel
theorem dL_law_208 : decode cL_law 208 = .ok (.bipush 7, 2) := by decide +kernel
theorem dL_law_210 : decode cL_law 210 = .ok (.if_icmp .ge 17, 3) := by decide +kernel
theorem dL_law_213 : decode cL_law 213 = .ok (.aload_n 1, 1) := by decide +kernel
theorem dL_law_214 : decode cL_law 214 = .ok (.iconst 2, 1) := by decide +kernel
theorem dL_law_215 : decode cL_law 215 = .ok (.iload 10, 2) := by decide +kernel
theorem dL_law_217 : decode cL_law 217 = .ok (.iload 12, 2) := by decide +kernel
theorem dL_law_219 : decode cL_law 219 = .ok (.iconst 0, 1) := by decide +kernel
theorem dL_law_220 : decode cL_law 220 = .ok (.iconst 0, 1) := by decide +kernel
theorem dL_law_221 : decode cL_law 221 = .ok (.invokestatic 191, 3) := by decide +kernel
theorem dL_law_224 : decode cL_law 224 = .ok (.goto 170, 3) := by decide +kernel
theorem dL_law_227 : decode cL_law 227 = .ok (.iload 8, 2) := by decide +kernel
theorem dL_law_229 : decode cL_law 229 = .ok (.bipush 7, 2) := by decide +kernel
theorem dL_law_231 : decode cL_law 231 = .ok (.if_icmp .ne 16, 3) := by decide +kernel
theorem dL_law_234 : decode cL_law 234 = .ok (.aload_n 1, 1) := by decide +kernel
theorem dL_law_235 : decode cL_law 235 = .ok (.iconst 3, 1) := by decide +kernel
theorem dL_law_236 : decode cL_law 236 = .ok (.iload 10, 2) := by decide +kernel
theorem dL_law_238 : decode cL_law 238 = .ok (.iconst 0, 1) := by decide +kernel
theorem dL_law_239 : decode cL_law 239 = .ok (.iconst 0, 1) := by decide +kernel
theorem dL_law_240 : decode cL_law 240 = .ok (.iconst 0, 1) := by decide +kernel
theorem dL_law_241 : decode cL_law 241 = .ok (.invokestatic 191, 3) := by decide +kernel
theorem dL_law_244 : decode cL_law 244 = .ok (.goto 150, 3) := by decide +kernel
theorem dL_law_247 : decode cL_law 247 = .ok (.iload 8, 2) := by decide +kernel
theorem dL_law_249 : decode cL_law 249 = .ok (.bipush 11, 2) := by decide +kernel
theorem dL_law_251 : decode cL_law 251 = .ok (.if_icmp .ge 19, 3) := by decide +kernel
theorem dL_law_254 : decode cL_law 254 = .ok (.aload_n 1, 1) := by decide +kernel
theorem dL_law_255 : decode cL_law 255 = .ok (.iconst 4, 1) := by decide +kernel
theorem dL_law_256 : decode cL_law 256 = .ok (.iload 10, 2) := by decide +kernel
theorem dL_law_258 : decode cL_law 258 = .ok (.iload 11, 2) := by decide +kernel
theorem dL_law_260 : decode cL_law 260 = .ok (.iload 12, 2) := by decide +kernel
theorem dL_law_262 : decode cL_law 262 = .ok (.iload 12, 2) := by decide +kernel
theorem dL_law_264 : decode cL_law 264 = .ok (.invokestatic 191, 3) := by decide +kernel
theorem dL_law_267 : decode cL_law 267 = .ok (.goto 127, 3) := by decide +kernel
theorem dL_law_270 : decode cL_law 270 = .ok (.iload 8, 2) := by decide +kernel
theorem dL_law_272 : decode cL_law 272 = .ok (.bipush 14, 2) := by decide +kernel
theorem dL_law_274 : decode cL_law 274 = .ok (.if_icmp .ge 20, 3) := by decide +kernel
theorem dL_law_277 : decode cL_law 277 = .ok (.aload_n 1, 1) := by decide +kernel
theorem dL_law_278 : decode cL_law 278 = .ok (.iconst 5, 1) := by decide +kernel
theorem dL_law_279 : decode cL_law 279 = .ok (.iload 10, 2) := by decide +kernel
theorem dL_law_281 : decode cL_law 281 = .ok (.bipush 9, 2) := by decide +kernel
theorem dL_law_283 : decode cL_law 283 = .ok (.iload 12, 2) := by decide +kernel
theorem dL_law_285 : decode cL_law 285 = .ok (.imul, 1) := by decide +kernel
theorem dL_law_286 : decode cL_law 286 = .ok (.iconst 0, 1) := by decide +kernel
theorem dL_law_287 : decode cL_law 287 = .ok (.iconst 0, 1) := by decide +kernel
theorem dL_law_288 : decode cL_law 288 = .ok (.invokestatic 191, 3) := by decide +kernel
theorem dL_law_291 : decode cL_law 291 = .ok (.goto 103, 3) := by decide +kernel
theorem dL_law_294 : decode cL_law 294 = .ok (.iload 8, 2) := by decide +kernel
theorem dL_law_296 : decode cL_law 296 = .ok (.bipush 14, 2) := by decide +kernel
theorem dL_law_298 : decode cL_law 298 = .ok (.if_icmp .ne 17, 3) := by decide +kernel
theorem dL_law_301 : decode cL_law 301 = .ok (.aload_n 1, 1) := by decide +kernel
theorem dL_law_302 : decode cL_law 302 = .ok (.bipush 6, 2) := by decide +kernel
theorem dL_law_304 : decode cL_law 304 = .ok (.iload 10, 2) := by decide +kernel
theorem dL_law_306 : decode cL_law 306 = .ok (.iconst 0, 1) := by decide +kernel
theorem dL_law_307 : decode cL_law 307 = .ok (.iconst 0, 1) := by decide +kernel
theorem dL_law_308 : decode cL_law 308 = .ok (.iconst 0, 1) := by decide +kernel
theorem dL_law_309 : decode cL_law 309 = .ok (.invokestatic 191, 3) := by decide +kernel
theorem dL_law_312 : decode cL_law 312 = .ok (.goto 82, 3) := by decide +kernel
theorem dL_law_315 : decode cL_law 315 = .ok (.iload 8, 2) := by decide +kernel
theorem dL_law_317 : decode cL_law 317 = .ok (.bipush 18, 2) := by decide +kernel
theorem dL_law_319 : decode cL_law 319 = .ok (.if_icmp .ge 22, 3) := by decide +kernel
theorem dL_law_322 : decode cL_law 322 = .ok (.aload_n 1, 1) := by decide +kernel
theorem dL_law_323 : decode cL_law 323 = .ok (.bipush 7, 2) := by decide +kernel
theorem dL_law_325 : decode cL_law 325 = .ok (.bipush 9, 2) := by decide +kernel
theorem dL_law_327 : decode cL_law 327 = .ok (.iload 12, 2) := by decide +kernel
theorem dL_law_329 : decode cL_law 329 = .ok (.imul, 1) := by decide +kernel
theorem dL_law_330 : decode cL_law 330 = .ok (.iload 11, 2) := by decide +kernel
theorem dL_law_332 : decode cL_law 332 = .ok (.iload 10, 2) := by decide +kernel
theorem dL_law_334 : decode cL_law 334 = .ok (.iconst 0, 1) := by decide +kernel
theorem dL_law_335 : decode cL_law 335 = .ok (.invokestatic 191, 3) := by decide +kernel
theorem dL_law_338 : decode cL_law 338 = .ok (.goto 56, 3) := by decide +kernel
theorem dL_law_341 : decode cL_law 341 = .ok (.iload 8, 2) := by decide +kernel
theorem dL_law_343 : decode cL_law 343 = .ok (.bipush 18, 2) := by decide +kernel
theorem dL_law_345 : decode cL_law 345 = .ok (.if_icmp .ne 18, 3) := by decide +kernel
theorem dL_law_348 : decode cL_law 348 = .ok (.aload_n 1, 1) := by decide +kernel
theorem dL_law_349 : decode cL_law 349 = .ok (.bipush 8, 2) := by decide +kernel
theorem dL_law_351 : decode cL_law 351 = .ok (.iload 12, 2) := by decide +kernel
theorem dL_law_353 : decode cL_law 353 = .ok (.iload 11, 2) := by decide +kernel
theorem dL_law_355 : decode cL_law 355 = .ok (.iconst 0, 1) := by decide +kernel
theorem dL_law_356 : decode cL_law 356 = .ok (.iconst 0, 1) := by decide +kernel
theorem dL_law_357 : decode cL_law 357 = .ok (.invokestatic 191, 3) := by decide +kernel
theorem dL_law_360 : decode cL_law 360 = .ok (.goto 34, 3) := by decide +kernel
theorem dL_law_363 : decode cL_law 363 = .ok (.iload 8, 2) := by decide +kernel
theorem dL_law_365 : decode cL_law 365 = .ok (.bipush 25, 2) := by decide +kernel
theorem dL_law_367 : decode cL_law 367 = .ok (.if_icmp .ge 17, 3) := by decide +kernel
theorem dL_law_370 : decode cL_law 370 = .ok (.aload_n 1, 1) := by decide +kernel
theorem dL_law_371 : decode cL_law 371 = .ok (.bipush 9, 2) := by decide +kernel
theorem dL_law_373 : decode cL_law 373 = .ok (.iload 12, 2) := by decide +kernel
theorem dL_law_375 : decode cL_law 375 = .ok (.iconst 0, 1) := by decide +kernel
theorem dL_law_376 : decode cL_law 376 = .ok (.iconst 0, 1) := by decide +kernel
theorem dL_law_377 : decode cL_law 377 = .ok (.iconst 0, 1) := by decide +kernel
theorem dL_law_378 : decode cL_law 378 = .ok (.invokestatic 191, 3) := by decide +kernel
theorem dL_law_381 : decode cL_law 381 = .ok (.goto 13, 3) := by decide +kernel
theorem dL_law_384 : decode cL_law 384 = .ok (.aload_n 1, 1) := by decide +kernel
theorem dL_law_385 : decode cL_law 385 = .ok (.bipush 11, 2) := by decide +kernel
theorem dL_law_387 : decode cL_law 387 = .ok (.iconst 0, 1) := by decide +kernel
theorem dL_law_388 : decode cL_law 388 = .ok (.iconst 0, 1) := by decide +kernel
theorem dL_law_389 : decode cL_law 389 = .ok (.iconst 0, 1) := by decide +kernel
theorem dL_law_390 : decode cL_law 390 = .ok (.iconst 0, 1) := by decide +kernel
theorem dL_law_391 : decode cL_law 391 = .ok (.invokestatic 191, 3) := by decide +kernel
theorem dL_law_394 : decode cL_law 394 = .ok (.istore 13, 2) := by decide +kernel
theorem dL_law_396 : decode cL_law 396 = .ok (.iload 13, 2) := by decide +kernel
theorem dL_law_398 : decode cL_law 398 = .ok (.sipush (-1999), 3) := by decide +kernel
theorem dL_law_401 : decode cL_law 401 = .ok (.if_icmp .ge 7, 3) := by decide +kernel
theorem dL_law_404 : decode cL_law 404 = .ok (.iconst 1, 1) := by decide +kernel
theorem dL_law_405 : decode cL_law 405 = .ok (.goto 4, 3) := by decide +kernel
theorem dL_law_408 : decode cL_law 408 = .ok (.iconst 0, 1) := by decide +kernel
theorem dL_law_409 : decode cL_law 409 = .ok (.istore 14, 2) := by decide +kernel
theorem dL_law_411 : decode cL_law 411 = .ok (.iload 14, 2) := by decide +kernel
theorem dL_law_413 : decode cL_law 413 = .ok (.ifCond .eq 25, 3) := by decide +kernel
theorem dL_law_416 : decode cL_law 416 = .ok (.aload_n 1, 1) := by decide +kernel
theorem dL_law_417 : decode cL_law 417 = .ok (.invokevirtual 202, 3) := by decide +kernel
theorem dL_law_420 : decode cL_law 420 = .ok (.iload 9, 2) := by decide +kernel
theorem dL_law_422 : decode cL_law 422 = .ok (.if_icmp .ne 14, 3) := by decide +kernel
theorem dL_law_425 : decode cL_law 425 = .ok (.aload_n 1, 1) := by decide +kernel
theorem dL_law_426 : decode cL_law 426 = .ok (.invokestatic 198, 3) := by decide +kernel
theorem dL_law_429 : decode cL_law 429 = .ok (.aload_n 2, 1) := by decide +kernel
theorem dL_law_430 : decode cL_law 430 = .ok (.iload_n 3, 1) := by decide +kernel
theorem dL_law_431 : decode cL_law 431 = .ok (.laload, 1) := by decide +kernel
theorem dL_law_432 : decode cL_law 432 = .ok (.lcmp, 1) := by decide +kernel
theorem dL_law_433 : decode cL_law 433 = .ok (.ifCond .eq 5, 3) := by decide +kernel
theorem dL_law_436 : decode cL_law 436 = .ok (.iconst 0, 1) := by decide +kernel
theorem dL_law_437 : decode cL_law 437 = .ok (.ireturn, 1) := by decide +kernel
theorem dL_law_438 : decode cL_law 438 = .ok (.iload_n 3, 1) := by decide +kernel
theorem dL_law_439 : decode cL_law 439 = .ok (.iload 14, 2) := by decide +kernel
theorem dL_law_441 : decode cL_law 441 = .ok (.ifCond .eq 7, 3) := by decide +kernel
theorem dL_law_444 : decode cL_law 444 = .ok (.iconst 0, 1) := by decide +kernel
theorem dL_law_445 : decode cL_law 445 = .ok (.goto 4, 3) := by decide +kernel
theorem dL_law_448 : decode cL_law 448 = .ok (.iconst 1, 1) := by decide +kernel
theorem dL_law_449 : decode cL_law 449 = .ok (.iadd, 1) := by decide +kernel
theorem dL_law_450 : decode cL_law 450 = .ok (.istore_n 3, 1) := by decide +kernel
theorem dL_law_451 : decode cL_law 451 = .ok (.iinc 6 1, 3) := by decide +kernel
theorem dL_law_454 : decode cL_law 454 = .ok (.goto (-358), 3) := by decide +kernel
theorem dL_law_457 : decode cL_law 457 = .ok (.aload_n 2, 1) := by decide +kernel
theorem dL_law_458 : decode cL_law 458 = .ok (.iload_n 3, 1) := by decide +kernel
theorem dL_law_459 : decode cL_law 459 = .ok (.aload_n 1, 1) := by decide +kernel
theorem dL_law_460 : decode cL_law 460 = .ok (.invokestatic 198, 3) := by decide +kernel
theorem dL_law_463 : decode cL_law 463 = .ok (.lastore, 1) := by decide +kernel
theorem dL_law_464 : decode cL_law 464 = .ok (.aload_n 1, 1) := by decide +kernel
theorem dL_law_465 : decode cL_law 465 = .ok (.invokestatic 223, 3) := by decide +kernel
theorem dL_law_468 : decode cL_law 468 = .ok (.ifCond .ne 5, 3) := by decide +kernel
theorem dL_law_471 : decode cL_law 471 = .ok (.iconst 0, 1) := by decide +kernel
theorem dL_law_472 : decode cL_law 472 = .ok (.ireturn, 1) := by decide +kernel
theorem dL_law_473 : decode cL_law 473 = .ok (.iconst 0, 1) := by decide +kernel
theorem dL_law_474 : decode cL_law 474 = .ok (.istore 6, 2) := by decide +kernel
theorem dL_law_476 : decode cL_law 476 = .ok (.aload_n 1, 1) := by decide +kernel
theorem dL_law_477 : decode cL_law 477 = .ok (.invokevirtual 202, 3) := by decide +kernel
theorem dL_law_480 : decode cL_law 480 = .ok (.ifCond .le 54, 3) := by decide +kernel
theorem dL_law_483 : decode cL_law 483 = .ok (.iload 6, 2) := by decide +kernel
theorem dL_law_485 : decode cL_law 485 = .ok (.iload_n 3, 1) := by decide +kernel
theorem dL_law_486 : decode cL_law 486 = .ok (.if_icmp .ge 48, 3) := by decide +kernel
theorem dL_law_489 : decode cL_law 489 = .ok (.aload_n 1, 1) := by decide +kernel
theorem dL_law_490 : decode cL_law 490 = .ok (.invokevirtual 202, 3) := by decide +kernel
theorem dL_law_493 : decode cL_law 493 = .ok (.istore 7, 2) := by decide +kernel
theorem dL_law_495 : decode cL_law 495 = .ok (.iload 6, 2) := by decide +kernel
theorem dL_law_497 : decode cL_law 497 = .ok (.iconst 3, 1) := by decide +kernel
theorem dL_law_498 : decode cL_law 498 = .ok (.if_icmp .gt 28, 3) := by decide +kernel
theorem dL_law_501 : decode cL_law 501 = .ok (.aload_n 1, 1) := by decide +kernel
theorem dL_law_502 : decode cL_law 502 = .ok (.invokestatic 198, 3) := by decide +kernel
theorem dL_law_505 : decode cL_law 505 = .ok (.aload_n 2, 1) := by decide +kernel
theorem dL_law_506 : decode cL_law 506 = .ok (.iload_n 3, 1) := by decide +kernel
theorem dL_law_507 : decode cL_law 507 = .ok (.iload 6, 2) := by decide +kernel
theorem dL_law_509 : decode cL_law 509 = .ok (.isub, 1) := by decide +kernel
theorem dL_law_510 : decode cL_law 510 = .ok (.laload, 1) := by decide +kernel
theorem dL_law_511 : decode cL_law 511 = .ok (.lcmp, 1) := by decide +kernel
theorem dL_law_512 : decode cL_law 512 = .ok (.ifCond .ne 14, 3) := by decide +kernel
theorem dL_law_515 : decode cL_law 515 = .ok (.aload_n 1, 1) := by decide +kernel
theorem dL_law_516 : decode cL_law 516 = .ok (.invokevirtual 71, 3) := by decide +kernel
theorem dL_law_519 : decode cL_law 519 = .ok (.iload 7, 2) := by decide +kernel
theorem dL_law_521 : decode cL_law 521 = .ok (.iconst 1, 1) := by decide +kernel
theorem dL_law_522 : decode cL_law 522 = .ok (.isub, 1) := by decide +kernel
theorem dL_law_523 : decode cL_law 523 = .ok (.if_icmp .eq 5, 3) := by decide +kernel
theorem dL_law_526 : decode cL_law 526 = .ok (.iconst 0, 1) := by decide +kernel
theorem dL_law_527 : decode cL_law 527 = .ok (.ireturn, 1) := by decide +kernel
theorem dL_law_528 : decode cL_law 528 = .ok (.iinc 6 1, 3) := by decide +kernel
theorem dL_law_531 : decode cL_law 531 = .ok (.goto (-55), 3) := by decide +kernel
theorem dL_law_534 : decode cL_law 534 = .ok (.iconst 0, 1) := by decide +kernel
theorem dL_law_535 : decode cL_law 535 = .ok (.istore 6, 2) := by decide +kernel
theorem dL_law_537 : decode cL_law 537 = .ok (.iload 6, 2) := by decide +kernel
theorem dL_law_539 : decode cL_law 539 = .ok (.iconst 4, 1) := by decide +kernel
theorem dL_law_540 : decode cL_law 540 = .ok (.if_icmp .ge 25, 3) := by decide +kernel
theorem dL_law_543 : decode cL_law 543 = .ok (.aload_n 1, 1) := by decide +kernel
theorem dL_law_544 : decode cL_law 544 = .ok (.invokevirtual 202, 3) := by decide +kernel
theorem dL_law_547 : decode cL_law 547 = .ok (.ifCond .le 18, 3) := by decide +kernel
theorem dL_law_550 : decode cL_law 550 = .ok (.aload_n 1, 1) := by decide +kernel
theorem dL_law_551 : decode cL_law 551 = .ok (.invokevirtual 71, 3) := by decide +kernel
theorem dL_law_554 : decode cL_law 554 = .ok (.ifCond .ge 5, 3) := by decide +kernel
theorem dL_law_557 : decode cL_law 557 = .ok (.iconst 0, 1) := by decide +kernel
theorem dL_law_558 : decode cL_law 558 = .ok (.ireturn, 1) := by decide +kernel
theorem dL_law_559 : decode cL_law 559 = .ok (.iinc 6 1, 3) := by decide +kernel
theorem dL_law_562 : decode cL_law 562 = .ok (.goto (-25), 3) := by decide +kernel
theorem dL_law_565 : decode cL_law 565 = .ok (.aload_n 1, 1) := by decide +kernel
theorem dL_law_566 : decode cL_law 566 = .ok (.bipush 10, 2) := by decide +kernel
theorem dL_law_568 : decode cL_law 568 = .ok (.iconst 0, 1) := by decide +kernel
theorem dL_law_569 : decode cL_law 569 = .ok (.iconst 0, 1) := by decide +kernel
theorem dL_law_570 : decode cL_law 570 = .ok (.iconst 0, 1) := by decide +kernel
theorem dL_law_571 : decode cL_law 571 = .ok (.iconst 0, 1) := by decide +kernel
theorem dL_law_572 : decode cL_law 572 = .ok (.invokestatic 191, 3) := by decide +kernel
theorem dL_law_575 : decode cL_law 575 = .ok (.sipush (-2013), 3) := by decide +kernel
theorem dL_law_578 : decode cL_law 578 = .ok (.if_icmp .ne 35, 3) := by decide +kernel
theorem dL_law_581 : decode cL_law 581 = .ok (.aload_n 1, 1) := by decide +kernel
theorem dL_law_582 : decode cL_law 582 = .ok (.invokevirtual 75, 3) := by decide +kernel
theorem dL_law_585 : decode cL_law 585 = .ok (.sipush 461, 3) := by decide +kernel
theorem dL_law_588 : decode cL_law 588 = .ok (.if_icmp .ne 25, 3) := by decide +kernel
theorem dL_law_591 : decode cL_law 591 = .ok (.aload_n 1, 1) := by decide +kernel
theorem dL_law_592 : decode cL_law 592 = .ok (.invokestatic 198, 3) := by decide +kernel
theorem dL_law_595 : decode cL_law 595 = .ok (.lload 4, 2) := by decide +kernel
theorem dL_law_597 : decode cL_law 597 = .ok (.lcmp, 1) := by decide +kernel
theorem dL_law_598 : decode cL_law 598 = .ok (.ifCond .ne 15, 3) := by decide +kernel
theorem dL_law_601 : decode cL_law 601 = .ok (.aload_n 1, 1) := by decide +kernel
theorem dL_law_602 : decode cL_law 602 = .ok (.invokevirtual 202, 3) := by decide +kernel
theorem dL_law_605 : decode cL_law 605 = .ok (.iconst 1, 1) := by decide +kernel
theorem dL_law_606 : decode cL_law 606 = .ok (.if_icmp .ne 7, 3) := by decide +kernel
theorem dL_law_609 : decode cL_law 609 = .ok (.iconst 1, 1) := by decide +kernel
theorem dL_law_610 : decode cL_law 610 = .ok (.goto 4, 3) := by decide +kernel
theorem dL_law_613 : decode cL_law 613 = .ok (.iconst 0, 1) := by decide +kernel
theorem dL_law_614 : decode cL_law 614 = .ok (.ireturn, 1) := by decide +kernel
